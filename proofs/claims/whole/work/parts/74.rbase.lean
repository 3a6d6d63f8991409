/-! THE CLASS'S READER: next, take, room, emit, await, the signs that wait -/
theorem ty_K_le {T : List tw_Tk} (h : ∀ (i : Nat) (x : tw_Tk), T[i]? = some x → x.1 ≤ 38) (i : Nat) : ty_K T i ≤ 38 := by
  unfold ty_K
  cases e : T[i]? with
  | none => show 37 ≤ 38; omega
  | some x => exact h i x e
theorem ty_nx_le {T : List tw_Tk} (h : ∀ (i : Nat) (x : tw_Tk), T[i]? = some x → x.1 ≤ 38) (s : ty_Ps) : ty_nx T s ≤ 38 := by
  unfold ty_nx
  by_cases c : s.1 = 0
  · rw [if_pos c]; exact ty_K_le h _
  · rw [if_neg c]; omega
abbrev tz_Cd : Type := Nat × Int32 × Int32
def tz_uc (x : ty_Uo) : tz_Cd := if x.1 = 0 then (24, nI x.2.1, nI 0) else if x.1 = 1 then (23, nI x.2.1, nI 0) else if x.1 = 3 then (17, nI x.2.1, nI 0) else if x.1 = 4 then (18, nI x.2.1, nI 0) else if x.1 = 5 then (19, nI x.2.1, nI 0) else if x.1 = 6 then (20, nI x.2.1, nI 0) else if x.1 = 7 then (21, nI x.2.1, nI x.2.2) else if x.1 = 8 then (22, nI x.2.1, nI 0) else (x.1 + 18, nI 0, nI 0)
def tz_nd (k : Nat) : Bool := k == 18 || (k == 21 || k == 22)
def tz_cnt (C : List tz_Cd) : Bool := C.any (fun x => tz_nd x.1)
def tz_cds (v : Nat) (C : List tz_Cd) (σ : rx_St) : Prop := σ.1 (7 + 14 * v) 12 = nI C.length ∧ C.length ≤ 500 ∧ σ.1 (7 + 14 * v) 13 = tw_B (tz_cnt C) ∧ ∀ (p : Nat) (x : tz_Cd), C[p]? = some x → σ.1 (18 + 14 * v) p = nI x.1 ∧ σ.1 (19 + 14 * v) p = x.2.1 ∧ σ.1 (20 + 14 * v) p = x.2.2
def tz_rs (T : List tw_Tk) (s : ty_Ps) (σ : rx_St) : Prop := σ.1 35 3 = nI s.1 ∧ σ.1 35 2 = nI s.2 ∧ ty_sok T s
def tz_rg (v : Nat) (σ : rx_St) : Prop := ∃ c q, σ.1 (7 + 14 * v) 12 = nI c ∧ c ≤ 500 ∧ σ.1 35 6 = nI q ∧ q ≤ 21
/-- the TOKENS as the class has them -/
def tw_tkok (x : tw_Tk) : Prop := x.1 ≤ 38 ∧ (x.1 = 24 → x.2.2.1 ≤ 9999) ∧ (x.1 ≤ 23 → tw_az x.2.2.2 ∧ x.2.2.2.length ≤ 8)
def tz_tk (T : List tw_Tk) (n : Nat) (σ : rx_St) : Prop := tc_tok T n σ ∧ ∀ (i : Nat) (x : tw_Tk), T[i]? = some x → tw_tkok x
def tz_S (v q j : Nat) : Prop := q = 35 ∧ (j = 2 ∨ j = 3 ∨ j = 6) ∨ q = 36 ∨ q = 7 + 14 * v ∧ (j = 12 ∨ j = 13) ∨ 18 + 14 * v ≤ q ∧ q ≤ 20 + 14 * v
theorem tz_tk.fr {T : List tw_Tk} {n : Nat} {σ σ' : rx_St} (h : tz_tk T n σ) (f : ∀ q j, 3 ≤ q → q ≤ 5 → σ'.1 q j = σ.1 q j ∧ σ'.2 q j = σ.2 q j) : tz_tk T n σ' := by
  obtain ⟨⟨h1, h2⟩, h3⟩ := h
  refine ⟨⟨fun i x hi hx => ?_, fun hl => ?_⟩, h3⟩
  · obtain ⟨a, b, c, d⟩ := h1 i x hi hx
    exact ⟨by rw [(f _ _ (by omega) (by omega)).1]; exact a, by rw [(f _ _ (by omega) (by omega)).1]; exact b, fun z => by rw [(f _ _ (by omega) (by omega)).2]; exact c z, fun z => by rw [(f _ _ (by omega) (by omega)).2]; exact d z⟩
  · obtain ⟨a, b⟩ := h2 hl
    exact ⟨by rw [(f _ _ (by omega) (by omega)).1]; exact a, by rw [(f _ _ (by omega) (by omega)).1]; exact b⟩
theorem tz_tk.K {T : List tw_Tk} {n i : Nat} {σ : rx_St} (h : tz_tk T n σ) (h5 : i ≤ 500) (hl : i ≤ T.length) : σ.1 3 i = nI (ty_K T i) := by
  obtain ⟨⟨h1, h2⟩, -⟩ := h
  unfold ty_K
  cases e : T[i]? with
  | none =>
    have : ¬ i < T.length := fun z => by rw [List.getElem?_eq_getElem z] at e; cases e
    have e2 : i = T.length := by omega
    subst e2
    exact (h2 h5).1
  | some x => exact (h1 i x h5 e).1
theorem tz_next {T : List tw_Tk} {n : Nat} {s : ty_Ps} {σ : rx_St} (hk : tz_tk T n σ) (h : tz_rs T s σ) : f_rea_next σ = some (nI (ty_nx T s)) := by
  obtain ⟨h1, h2, h3, h4, h5⟩ := h
  unfold f_rea_next ty_nx
  rw [h1, h2, show (0 : Int32) = nI 0 from rfl, tw_ifE (tw_eq (a := s.1) (b := 0) (by omega) (by omega))]
  by_cases c : s.1 = 0
  · rw [if_pos c, if_pos c, if_neg (show ¬ (502 : Int32) ≤ nI s.2 by rw [show (502 : Int32) = nI 502 from rfl, tw_le (by omega) (by omega)]; omega), tw_gN (by omega) (by decide), nI_clamp (by omega), hk.K h4 h5]
  · rw [if_neg c, if_neg c]
    rfl
/-- s is where it stands; C the code so far, d TOKENS that gave no code -/
def tz_pp (v : Nat) (T : List tw_Tk) (n : Nat) (s : ty_Ps) (d : Nat) (C : List tz_Cd) (σ : rx_St) : Prop := tz_tk T n σ ∧ tz_rs T s σ ∧ tz_rg v σ ∧ (s.1 = 0 → tz_cds v C σ ∧ C.length + d ≤ s.2)
theorem tz_cds.fr {v : Nat} {C : List tz_Cd} {σ σ' : rx_St} (h : tz_cds v C σ) (f : ∀ q j, q = 7 + 14 * v ∧ (j = 12 ∨ j = 13) ∨ 18 + 14 * v ≤ q ∧ q ≤ 20 + 14 * v → σ'.1 q j = σ.1 q j) : tz_cds v C σ' := by
  obtain ⟨h1, h2, h3, h4⟩ := h
  refine ⟨by rw [f _ _ (by omega)]; exact h1, h2, by rw [f _ _ (by omega)]; exact h3, fun p x hx => ?_⟩
  obtain ⟨a, b, c⟩ := h4 p x hx
  exact ⟨by rw [f _ _ (by omega)]; exact a, by rw [f _ _ (by omega)]; exact b, by rw [f _ _ (by omega)]; exact c⟩
section TZ
variable {v : Nat} {T : List tw_Tk} {n : Nat}
/-- what taking writes -/
def tz_S1 (q j : Nat) : Prop := q = 35 ∧ (j = 2 ∨ j = 3)
theorem tz_S1S : ∀ q j, tz_S1 q j → tz_S v q j := fun q j h => by unfold tz_S1 at h; unfold tz_S; omega
theorem tz_take {k : Nat} {s : ty_Ps} {σ : rx_St} (hk : tz_tk T n σ) (h : tz_rs T s σ) (hk38 : k ≤ 38) (h37 : k ≠ 37) : tw_ok (f_rea_take (nI k) σ) (fun y => y.1 = nI s.2 ∧ tw_fr tz_S1 σ y.2 ∧ tz_rs T (ty_tkn T k s) y.2) := by
  have hn := tz_next hk h
  obtain ⟨h1, h2, h3⟩ := id h
  have hok := ty_tkn_ok h3 h37 (k := k)
  have hK := ty_nx_le (fun i x z => (hk.2 i x z).1) s
  unfold f_rea_take
  rw [h1, hn, h2, show (0 : Int32) = nI 0 from rfl, tw_ifE (tw_eq (a := s.1) (b := 0) (by have := h3.1; omega) (by omega))]
  unfold ty_tkn at hok ⊢
  by_cases c : s.1 = 0
  · rw [if_pos c] at hok ⊢
    rw [if_pos c, Option.bind_some, tw_ifE (tw_eq (a := ty_nx T s) (b := k) (by omega) (by omega))]
    have e : ty_nx T s = ty_K T s.2 := if_pos c
    rw [e]
    by_cases c2 : ty_K T s.2 = k
    · rw [if_pos c2] at hok ⊢
      rw [if_pos c2, show (500 : Int32) = nI 500 from rfl, tw_ifE (tw_lt (a := s.2) (b := 500) (by have := h3.2.1; omega) (by omega))]
      by_cases c3 : s.2 < 500
      · rw [if_pos c3] at hok ⊢
        rw [if_pos c3, tw_some]
        refine ⟨rfl, tw_fr.rf.si (by unfold tz_S1; omega), ?_, ?_, hok⟩
        · show (rx_si σ 35 2 (nI s.2 + (1 : Int32))).1 35 3 = nI 0
          rw [tw_r1n _ _ (by omega), h1, c]
        · show (rx_si σ 35 2 (nI s.2 + (1 : Int32))).1 35 2 = nI (s.2 + 1)
          rw [tw_r1s]; exact nI_add s.2 1
      · rw [if_neg c3] at hok ⊢
        rw [if_neg c3, tw_some]
        refine ⟨rfl, tw_fr.rf.si (by unfold tz_S1; omega), tw_r1s _ _ _ _, ?_, hok⟩
        exact (tw_r1n _ _ (by omega)).trans h2
    · rw [if_neg c2] at hok ⊢
      rw [if_neg c2, tw_some]
      refine ⟨rfl, tw_fr.rf.si (by unfold tz_S1; omega), tw_r1s _ _ _ _, ?_, hok⟩
      exact (tw_r1n _ _ (by omega)).trans h2
  · rw [if_neg c, if_neg c, tw_some]
    exact ⟨rfl, tw_fr.rf, h⟩
theorem tz_rg.fr {σ σ' : rx_St} (h : tz_rg v σ) (f : σ'.1 (7 + 14 * v) 12 = σ.1 (7 + 14 * v) 12) (f2 : σ'.1 35 6 = σ.1 35 6) : tz_rg v σ' := by
  obtain ⟨c, q, h1, h2, h3, h4⟩ := h
  exact ⟨c, q, by rw [f]; exact h1, h2, by rw [f2]; exact h3, h4⟩
/-- taking, with the code kept -/
theorem tz_pp.tk {k d : Nat} {s : ty_Ps} {C : List tz_Cd} {σ : rx_St} (h : tz_pp v T n s d C σ) (hv : v ≤ 1) (hk38 : k ≤ 38) (h37 : k ≠ 37) : tw_ok (f_rea_take (nI k) σ) (fun y => y.1 = nI s.2 ∧ tw_fr tz_S1 σ y.2 ∧ tz_pp v T n (ty_tkn T k s) (d + 1) C y.2) := by
  obtain ⟨h1, h2, h3, h4⟩ := h
  refine tw_mono (tz_take h1 h2 hk38 h37) (fun y g => ?_)
  obtain ⟨g1, g2, g3⟩ := g
  refine ⟨g1, g2, h1.fr (fun q j a b => ⟨g2.i (by unfold tz_S1; omega), g2.l (by unfold tz_S1; omega)⟩), g3, h3.fr (g2.i (by unfold tz_S1; omega)) (g2.i (by unfold tz_S1; omega)), fun z => ?_⟩
  obtain ⟨z1, -, -, z4⟩ := ty_tkn_0 z
  obtain ⟨c1, c2⟩ := h4 z1
  exact ⟨c1.fr (fun q j a => g2.i (by unfold tz_S1; omega)), by omega⟩
theorem tz_pp.le {d d' : Nat} {s : ty_Ps} {C : List tz_Cd} {σ : rx_St} (h : tz_pp v T n s d C σ) (hd : d' ≤ d) : tz_pp v T n s d' C σ :=
  ⟨h.1, h.2.1, h.2.2.1, fun z => ⟨(h.2.2.2 z).1, by have := (h.2.2.2 z).2; omega⟩⟩
theorem tz_room {a m : Nat} {s : ty_Ps} {σ : rx_St} (h : tz_rs T s σ) (ha : a < 2147483648) (hm : m < 2147483648) : tw_ok (f_rea_needRoom (nI a) (nI m) σ) (fun σ' => tw_fr (fun q j => q = 35 ∧ j = 3) σ σ' ∧ tz_rs T (ty_room a m s) σ') := by
  obtain ⟨h1, h2, h3⟩ := id h
  have hok := ty_room_ok h3 (a := a) (m := m)
  unfold f_rea_needRoom
  rw [h1, show (0 : Int32) = nI 0 from rfl, tw_ifE (tw_eq (a := s.1) (b := 0) (by have := h3.1; omega) (by omega))]
  unfold ty_room at hok ⊢
  by_cases c : s.1 = 0
  · rw [if_pos c, tw_ifE (tw_lt ha hm)]
    by_cases d : a < m
    · rw [if_pos d, if_neg (fun z => absurd z.2 (by omega)), tw_some]
      exact ⟨tw_fr.rf, h⟩
    · rw [if_pos ⟨c, by omega⟩] at hok
      rw [if_neg d, if_pos ⟨c, by omega⟩, tw_some]
      exact ⟨tw_fr.rf.si ⟨rfl, rfl⟩, tw_r1s _ _ _ _, (tw_r1n _ _ (by omega)).trans h2, hok⟩
  · rw [if_neg c, if_neg (fun z => c z.1), tw_some]
    exact ⟨tw_fr.rf, h⟩
theorem tz_pp.rm {a m d : Nat} {s : ty_Ps} {C : List tz_Cd} {σ : rx_St} (h : tz_pp v T n s d C σ) (hv : v ≤ 1) (ha : a < 2147483648) (hm : m < 2147483648) : tw_ok (f_rea_needRoom (nI a) (nI m) σ) (fun σ' => tw_fr tz_S1 σ σ' ∧ tz_pp v T n (ty_room a m s) d C σ') := by
  obtain ⟨h1, h2, h3, h4⟩ := h
  refine tw_mono (tz_room h2 ha hm) (fun y g => ?_)
  obtain ⟨g2, g3⟩ := g
  refine ⟨g2.mn (fun q j h => by unfold tz_S1; omega), h1.fr (fun q j a b => ⟨g2.i (by omega), g2.l (by omega)⟩), g3, h3.fr (g2.i (by omega)) (g2.i (by omega)), fun z => ?_⟩
  obtain ⟨z1, -, z3⟩ := ty_room_0 z
  obtain ⟨c1, c2⟩ := h4 z1
  rw [z3]
  exact ⟨c1.fr (fun q j a => g2.i (by omega)), c2⟩
/-! emit -/
theorem tz_em52 (x : Int32) (σ : rx_St) : tw_ok (f_wor_emit_52 v x σ) (fun σ' => tw_fr (fun q j => q = 7 + 14 * v ∧ j = 13) σ σ' ∧ ∀ k b, x = nI k → k < 100 → σ.1 (7 + 14 * v) 13 = tw_B b → σ'.1 (7 + 14 * v) 13 = tw_B (b || tz_nd k)) := by
  have f1 : ∀ y, tw_fr (fun q j => q = 7 + 14 * v ∧ j = 13) σ (rx_si σ (7 + 14 * v) 13 y) := fun y => tw_fr.rf.si ⟨rfl, rfl⟩
  have yes : ∀ (h : ∀ k b, x = nI k → k < 100 → σ.1 (7 + 14 * v) 13 = tw_B b → (b || tz_nd k) = true), tw_ok (f_wor_emit_78 v σ) (fun σ' => tw_fr (fun q j => q = 7 + 14 * v ∧ j = 13) σ σ' ∧ ∀ k b, x = nI k → k < 100 → σ.1 (7 + 14 * v) 13 = tw_B b → σ'.1 (7 + 14 * v) 13 = tw_B (b || tz_nd k)) := fun h => by
    unfold f_wor_emit_78
    rw [tw_some]
    exact ⟨f1 _, fun k b a1 a2 a3 => by rw [tw_r1s, h k b a1 a2 a3]; rfl⟩
  unfold f_wor_emit_52
  by_cases c : σ.1 (7 + 14 * v) 13 = (0 : Int32)
  · rw [if_pos c]
    have ex : ∀ k m : Nat, x = nI k → k < 100 → x = nI m → m < 100 → k = m := fun k m h1 h2 h3 h4 => by
      rw [h1, tw_eq (by omega) (by omega)] at h3
      exact h3
    by_cases c1 : x = (18 : Int32)
    · rw [if_pos c1]
      exact yes (fun k b a1 a2 a3 => by rw [ex k 18 a1 a2 c1 (by omega)]; simp [tz_nd])
    · rw [if_neg c1]
      by_cases c2 : x = (21 : Int32)
      · rw [if_pos c2]
        exact yes (fun k b a1 a2 a3 => by rw [ex k 21 a1 a2 c2 (by omega)]; simp [tz_nd])
      · rw [if_neg c2]
        by_cases c3 : x = (22 : Int32)
        · rw [if_pos c3]
          exact yes (fun k b a1 a2 a3 => by rw [ex k 22 a1 a2 c3 (by omega)]; simp [tz_nd])
        · rw [if_neg c3, tw_some]
          refine ⟨f1 _, fun k b a1 a2 a3 => ?_⟩
          have hb : b = false := by
            cases b with
            | false => rfl
            | true => rw [a3] at c; exact absurd c (by decide)
          have n1 : k ≠ 18 := fun z => c1 (by rw [a1, z]; rfl)
          have n2 : k ≠ 21 := fun z => c2 (by rw [a1, z]; rfl)
          have n3 : k ≠ 22 := fun z => c3 (by rw [a1, z]; rfl)
          rw [tw_r1s, hb]
          unfold tz_nd
          rw [beq_eq_false_iff_ne.mpr n1, beq_eq_false_iff_ne.mpr n2, beq_eq_false_iff_ne.mpr n3]
          rfl
  · rw [if_neg c]
    refine yes (fun k b a1 a2 a3 => ?_)
    cases b with
    | true => rfl
    | false => rw [a3] at c; exact absurd rfl c
/-- emitting, whatever was before -/
theorem tz_emit0 {σ : rx_St} {c : Nat} {x a b : Int32} (h : σ.1 (7 + 14 * v) 12 = nI c) (hc : c ≤ 500) : tw_ok (f_wor_emit v x a b σ) (fun σ' => tw_fr (fun q j => q = 7 + 14 * v ∧ (j = 12 ∨ j = 13) ∨ 18 + 14 * v ≤ q ∧ q ≤ 20 + 14 * v) σ σ' ∧ ∃ c', c' ≤ 500 ∧ σ'.1 (7 + 14 * v) 12 = nI c') := by
  unfold f_wor_emit
  rw [h]
  by_cases d : 500 ≤ c
  · rw [if_pos (show (500 : Int32) ≤ nI c by rw [show (500 : Int32) = nI 500 from rfl, tw_le (by omega) (by omega)]; exact d)]
    refine tw_mono (tz_em52 x σ) (fun σ' g => ⟨g.1.mn (fun q j h => by omega), c, hc, ?_⟩)
    rw [g.1.i (by omega)]; exact h
  · rw [if_neg (show ¬ (500 : Int32) ≤ nI c by rw [show (500 : Int32) = nI 500 from rfl, tw_le (by omega) (by omega)]; exact d)]
    simp (disch := omega) only [tw_L, tw_gN, tw_cl, tw_le, tw_lt, tw_eq, nI_add, pk_mul, tw_sub, tw_B0, tw_B1, tw_nb0, tw_nb1, tw_r1s, tw_r1n, if_true, if_false, Nat.le_refl, Nat.reduceEqDiff, Nat.reduceLeDiff, Nat.reduceLT, reduceIte, h]
    refine tw_mono (tz_em52 x _) (fun σ' g => ⟨?_, c + 1, by omega, ?_⟩)
    · exact ((((tw_fr.rf.si (by omega)).si (by omega)).si (by omega)).si (by omega)).tr (g.1.mn (fun q j h => by omega))
    · rw [g.1.i (by omega), tw_r1s]
theorem tz_emit1 {σ : rx_St} {C : List tz_Cd} {k : Nat} {a b : Int32} (h : tz_cds v C σ) (hc : C.length < 500) (hk : k < 100) : tw_ok (f_wor_emit v (nI k) a b σ) (fun σ' => tw_fr (fun q j => q = 7 + 14 * v ∧ (j = 12 ∨ j = 13) ∨ 18 + 14 * v ≤ q ∧ q ≤ 20 + 14 * v) σ σ' ∧ tz_cds v (C ++ [(k, a, b)]) σ') := by
  obtain ⟨h1, h2, h3, h4⟩ := h
  unfold f_wor_emit
  rw [h1, if_neg (show ¬ (500 : Int32) ≤ nI C.length by rw [show (500 : Int32) = nI 500 from rfl, tw_le (by omega) (by omega)]; omega)]
  simp (disch := omega) only [tw_L, tw_gN, tw_cl, tw_le, tw_lt, tw_eq, nI_add, pk_mul, tw_sub, tw_B0, tw_B1, tw_nb0, tw_nb1, tw_r1s, tw_r1n, if_true, if_false, Nat.le_refl, Nat.reduceEqDiff, Nat.reduceLeDiff, Nat.reduceLT, reduceIte, h1]
  refine tw_mono (tz_em52 (nI k) _) (fun σ' g => ⟨?_, ?_, ?_, ?_, fun p x hx => ?_⟩)
  · exact ((((tw_fr.rf.si (by omega)).si (by omega)).si (by omega)).si (by omega)).tr (g.1.mn (fun q j h => by omega))
  · rw [g.1.i (by omega), tw_r1s, List.length_append]
    rfl
  · rw [List.length_append]; show C.length + 1 ≤ 500; omega
  · have := g.2 k (tz_cnt C) rfl hk (by simp (disch := omega) only [tw_L, tw_gN, tw_cl, tw_le, tw_lt, tw_eq, nI_add, pk_mul, tw_sub, tw_B0, tw_B1, tw_nb0, tw_nb1, tw_r1s, tw_r1n, if_true, if_false, Nat.le_refl, Nat.reduceEqDiff, Nat.reduceLeDiff, Nat.reduceLT, reduceIte, h3])
    rw [this]
    unfold tz_cnt
    rw [List.any_append]
    simp
  · rcases tw_app hx with ⟨hp, hx⟩ | ⟨hp, rfl⟩
    · obtain ⟨r1, r2, r3⟩ := h4 p x hx
      rw [g.1.i (by omega), g.1.i (by omega), g.1.i (by omega)]
      simp (disch := omega) only [tw_L, tw_gN, tw_cl, tw_le, tw_lt, tw_eq, nI_add, pk_mul, tw_sub, tw_B0, tw_B1, tw_nb0, tw_nb1, tw_r1s, tw_r1n, if_true, if_false, Nat.le_refl, Nat.reduceEqDiff, Nat.reduceLeDiff, Nat.reduceLT, reduceIte, r1, r2, r3]
      exact ⟨trivial, trivial, trivial⟩
    · subst hp
      rw [g.1.i (by omega), g.1.i (by omega), g.1.i (by omega)]
      simp (disch := omega) only [tw_L, tw_gN, tw_cl, tw_le, tw_lt, tw_eq, nI_add, pk_mul, tw_sub, tw_B0, tw_B1, tw_nb0, tw_nb1, tw_r1s, tw_r1n, if_true, if_false, Nat.le_refl, Nat.reduceEqDiff, Nat.reduceLeDiff, Nat.reduceLT, reduceIte]
      exact ⟨trivial, trivial, trivial⟩
theorem tz_pp.em {k d : Nat} {a b : Int32} {s : ty_Ps} {C : List tz_Cd} {σ : rx_St} (h : tz_pp v T n s (d + 1) C σ) (hv : v ≤ 1) (hk : k < 100) : tw_ok (f_wor_emit v (nI k) a b σ) (fun σ' => tw_fr (tz_S v) σ σ' ∧ σ'.1 35 6 = σ.1 35 6 ∧ (∀ j, σ'.1 36 j = σ.1 36 j) ∧ tz_pp v T n s d (C ++ [(k, a, b)]) σ') := by
  obtain ⟨h1, h2, h3, h4⟩ := h
  have fin : ∀ σ', tw_fr (fun q j => q = 7 + 14 * v ∧ (j = 12 ∨ j = 13) ∨ 18 + 14 * v ≤ q ∧ q ≤ 20 + 14 * v) σ σ' → (∃ c', c' ≤ 500 ∧ σ'.1 (7 + 14 * v) 12 = nI c') → (s.1 = 0 → tz_cds v (C ++ [(k, a, b)]) σ' ∧ (C ++ [(k, a, b)]).length + d ≤ s.2) → tw_fr (tz_S v) σ σ' ∧ σ'.1 35 6 = σ.1 35 6 ∧ (∀ j, σ'.1 36 j = σ.1 36 j) ∧ tz_pp v T n s d (C ++ [(k, a, b)]) σ' := by
    intro σ' f hc hg
    obtain ⟨c', c1, c2⟩ := hc
    obtain ⟨c, q, r1, r2, r3, r4⟩ := h3
    refine ⟨f.mn (fun q j h => by unfold tz_S; omega), f.i (by omega), fun j => f.i (by omega), h1.fr (fun q j a b => ⟨f.i (by omega), f.l (by omega)⟩), ⟨(f.i (by omega)).trans h2.1, (f.i (by omega)).trans h2.2.1, h2.2.2⟩, ⟨c', q, c2, c1, (f.i (by omega)).trans r3, r4⟩, hg⟩
  by_cases z : s.1 = 0
  · obtain ⟨c1, c2⟩ := h4 z
    have s5 := h2.2.2.2.1
    refine tw_mono (tz_emit1 (a := a) (b := b) c1 (by omega) hk) (fun σ' g => fin σ' g.1 ⟨_, g.2.2.1, g.2.1⟩ (fun _ => ⟨g.2, ?_⟩))
    rw [List.length_append]
    show C.length + 1 + d ≤ s.2
    omega
  · obtain ⟨c, q, r1, r2, r3, r4⟩ := id h3
    exact tw_mono (tz_emit0 (x := nI k) (a := a) (b := b) r1 r2) (fun σ' g => fin σ' g.1 g.2 (fun y => absurd y z))
end TZ
