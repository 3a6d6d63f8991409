/-! THE CLASS'S READER: parse -/
/-- name and number, as TOKENS -/
abbrev ty_Se : Type := Nat × Nat
/-- name and number as TOKENS, minus, secret -/
abbrev ty_Va : Type := Nat × Nat × Bool × Bool
abbrev ty_Ki : Type := Nat × List ty_Va × List ty_Ru
def ty_S1 (T : List tw_Tk) (cnt : Nat) (s : ty_Ps) : ty_Ps × ty_Se :=
  (ty_tkn T 25 (ty_tkn T 24 (ty_tkn T 26 (ty_tkn T 23 (ty_tkn T 0 (ty_room cnt 6 s))))), ((ty_tkn T 0 (ty_room cnt 6 s)).2, (ty_tkn T 26 (ty_tkn T 23 (ty_tkn T 0 (ty_room cnt 6 s)))).2))
def ty_ss (T : List tw_Tk) : Nat → ty_Ps → List ty_Se → ty_Ps × List ty_Se
  | 0, s, l => (s, l)
  | j + 1, s, l => if ty_nx T s = 0 then ty_ss T j (ty_S1 T l.length s).1 (l ++ [(ty_S1 T l.length s).2]) else (s, l)
def ty_Ha (T : List tw_Tk) (cnt : Nat) (s : ty_Ps) : ty_Ps := ty_tkn T (if ty_nx T (ty_room cnt 6 s) = 4 then 4 else 3) (ty_room cnt 6 s)
def ty_Hb (T : List tw_Tk) (cnt : Nat) (s : ty_Ps) : ty_Ps := ty_tkn T 26 (ty_tkn T 23 (ty_Ha T cnt s))
def ty_Hc (T : List tw_Tk) (cnt : Nat) (s : ty_Ps) : ty_Ps := if ty_nx T (ty_Hb T cnt s) = 28 then ty_tkn T 28 (ty_Hb T cnt s) else ty_Hb T cnt s
def ty_H1 (T : List tw_Tk) (cnt : Nat) (s : ty_Ps) : ty_Ps × ty_Va :=
  (ty_tkn T 25 (ty_tkn T 24 (ty_Hc T cnt s)), ((ty_Ha T cnt s).2, (ty_Hc T cnt s).2, decide (ty_nx T (ty_Hb T cnt s) = 28), decide (ty_nx T (ty_room cnt 6 s) = 4)))
def ty_hs (T : List tw_Tk) : Nat → ty_Ps → List ty_Va → ty_Ps × List ty_Va
  | 0, s, l => (s, l)
  | j + 1, s, l => if ty_nx T s = 3 ∨ ty_nx T s = 4 then ty_hs T j (ty_H1 T l.length s).1 (l ++ [(ty_H1 T l.length s).2]) else (s, l)
def ty_rs (T : List tw_Tk) : Nat → ty_Ps → List ty_Ru → ty_Ps × List ty_Ru
  | 0, s, l => (s, l)
  | j + 1, s, l => if ty_nx T s = 5 then ty_rs T j (ty_R1 T l.length s).1 (l ++ [(ty_R1 T l.length s).2]) else (s, l)
def ty_Ko (T : List tw_Tk) (cnt : Nat) (s : ty_Ps) : ty_Ps := ty_tkn T 1 (ty_room cnt 5 s)
def ty_K1 (T : List tw_Tk) (cnt : Nat) (s : ty_Ps) : ty_Ps × ty_Ki :=
  (ty_tkn T 2 (ty_rs T 9 (ty_hs T 7 (ty_tkn T 23 (ty_Ko T cnt s)) []).1 []).1, ((ty_Ko T cnt s).2, (ty_hs T 7 (ty_tkn T 23 (ty_Ko T cnt s)) []).2, (ty_rs T 9 (ty_hs T 7 (ty_tkn T 23 (ty_Ko T cnt s)) []).1 []).2))
def ty_ks (T : List tw_Tk) : Nat → ty_Ps → List ty_Ki → ty_Ps × List ty_Ki
  | 0, s, l => (s, l)
  | j + 1, s, l => if ty_nx T s = 1 then ty_ks T j (ty_K1 T l.length s).1 (l ++ [(ty_K1 T l.length s).2]) else (s, l)
abbrev ty_Wo : Type := List ty_Se × List ty_Ki
def ty_end (T : List tw_Tk) (s : ty_Ps) : ty_Ps := if s.1 = 0 ∧ ty_nx T s ≠ 37 then (1, s.2) else s
/-- the whole text -/
def ty_P (T : List tw_Tk) : ty_Ps × ty_Wo :=
  (ty_end T (ty_ks T 6 (ty_ss T 7 (0, 0) []).1 []).1, ((ty_ss T 7 (0, 0) []).2, (ty_ks T 6 (ty_ss T 7 (0, 0) []).1 []).2))
def tz_rcs (p : Nat) : List ty_Ru → List tz_Cd
  | [] => []
  | r :: rs => tz_rc p r ++ tz_rcs (p + (tz_rc p r).length) rs
theorem tz_rcs_app : ∀ (a b : List ty_Ru) (p : Nat), tz_rcs p (a ++ b) = tz_rcs p a ++ tz_rcs (p + (tz_rcs p a).length) b
  | [], b, p => rfl
  | r :: rs, b, p => by rw [List.cons_append, tz_rcs, tz_rcs, tz_rcs_app rs b, List.append_assoc, List.length_append, Nat.add_assoc]
def tz_kcs (p : Nat) : List ty_Ki → List tz_Cd
  | [] => []
  | k :: ks => tz_rcs p k.2.2 ++ tz_kcs (p + (tz_rcs p k.2.2).length) ks
theorem tz_kcs_app : ∀ (a b : List ty_Ki) (p : Nat), tz_kcs p (a ++ b) = tz_kcs p a ++ tz_kcs (p + (tz_kcs p a).length) b
  | [], b, p => rfl
  | r :: rs, b, p => by rw [List.cons_append, tz_kcs, tz_kcs, tz_kcs_app rs b, List.append_assoc, List.length_append, Nat.add_assoc]
def tz_val (T : List tw_Tk) (x : ty_Va) : Int32 := if x.2.2.1 = true then -nI (ty_V T x.2.1) else nI (ty_V T x.2.1)
section TZ9
variable {v : Nat} {T : List tw_Tk} {n : Nat}
def tz_Sr (v : Nat) (T : List tw_Tk) (S : List ty_Se) (σ : rx_St) : Prop := σ.1 (7 + 14 * v) 0 = nI S.length ∧ S.length ≤ 6 ∧ ∀ (i : Nat) (x : ty_Se), S[i]? = some x → σ.1 (9 + 14 * v) i = nI x.1 ∧ σ.1 (8 + 14 * v) i = nI (ty_V T x.2)
def tz_Vr (v : Nat) (T : List tw_Tk) (k : Nat) (vs : List ty_Va) (σ : rx_St) : Prop := σ.1 (11 + 14 * v) k = nI vs.length ∧ vs.length ≤ 6 ∧ ∀ (i : Nat) (x : ty_Va), vs[i]? = some x → σ.1 (14 + 14 * v) (k * 6 + i) = nI x.1 ∧ σ.1 (13 + 14 * v) (k * 6 + i) = tz_val T x ∧ σ.1 (15 + 14 * v) (k * 6 + i) = tw_B x.2.2.2
def tz_Kr (v : Nat) (T : List tw_Tk) (k p e : Nat) (K : ty_Ki) (σ : rx_St) : Prop := σ.1 (10 + 14 * v) k = nI K.1 ∧ tz_Vr v T k K.2.1 σ ∧ σ.1 (12 + 14 * v) k = nI K.2.2.length ∧ K.2.2.length ≤ 8 ∧ σ.1 (16 + 14 * v) k = nI p ∧ σ.1 (17 + 14 * v) k = nI e
def tz_Krs (v : Nat) (T : List tw_Tk) (σ : rx_St) : Nat → Nat → List ty_Ki → Prop
  | _, _, [] => True
  | k, p, K :: Ks => tz_Kr v T k p (p + (tz_rcs p K.2.2).length) K σ ∧ tz_Krs v T σ (k + 1) (p + (tz_rcs p K.2.2).length) Ks
theorem tz_Krs_app {σ : rx_St} : ∀ (a b : List ty_Ki) (k p : Nat), tz_Krs v T σ k p (a ++ b) ↔ tz_Krs v T σ k p a ∧ tz_Krs v T σ (k + a.length) (p + (tz_kcs p a).length) b
  | [], b, k, p => ⟨fun h => ⟨trivial, h⟩, fun h => h.2⟩
  | K :: Ks, b, k, p => by
    rw [List.cons_append, tz_Krs, tz_Krs, tz_Krs_app Ks b, List.length_cons, tz_kcs, List.length_append, show k + 1 + Ks.length = k + (Ks.length + 1) by omega, Nat.add_assoc]
    exact ⟨fun h => ⟨⟨h.1, h.2.1⟩, h.2.2⟩, fun h => ⟨h.1.1, h.1.2, h.2⟩⟩
theorem tz_Vr.fr {k : Nat} {vs : List ty_Va} {σ σ' : rx_St} (h : tz_Vr v T k vs σ) (f : ∀ q j, 8 + 14 * v ≤ q → q ≤ 17 + 14 * v → (q = 11 + 14 * v → j = k) → (13 + 14 * v ≤ q ∧ q ≤ 15 + 14 * v → 6 * k ≤ j ∧ j < 6 * k + vs.length) → (q = 11 + 14 * v ∨ 13 + 14 * v ≤ q ∧ q ≤ 15 + 14 * v) → σ'.1 q j = σ.1 q j) : tz_Vr v T k vs σ' := by
  obtain ⟨h1, h2, h3⟩ := h
  refine ⟨by rw [f _ _ (by omega) (by omega) (by omega) (by omega) (by omega)]; exact h1, h2, fun i x hx => ?_⟩
  have il := (List.getElem?_eq_some_iff.mp hx).1
  obtain ⟨a, b, c⟩ := h3 i x hx
  exact ⟨by rw [f _ _ (by omega) (by omega) (by omega) (by omega) (by omega)]; exact a, by rw [f _ _ (by omega) (by omega) (by omega) (by omega) (by omega)]; exact b, by rw [f _ _ (by omega) (by omega) (by omega) (by omega) (by omega)]; exact c⟩
/-- rows of KINDS below some number stay -/
theorem tz_Krs.fr {σ σ' : rx_St} : ∀ (Ks : List ty_Ki) (k p : Nat), (∀ q j, 8 + 14 * v ≤ q → q ≤ 17 + 14 * v → (q ≤ 9 + 14 * v ∨ (13 + 14 * v ≤ q ∧ q ≤ 15 + 14 * v) ∧ j < 6 * (k + Ks.length) ∨ ¬ (13 + 14 * v ≤ q ∧ q ≤ 15 + 14 * v) ∧ j < k + Ks.length) → σ'.1 q j = σ.1 q j) → tz_Krs v T σ k p Ks → tz_Krs v T σ' k p Ks
  | [], _, _, _, _ => trivial
  | K :: Ks, k, p, f, ⟨⟨h1, h2, h3, h4, h5, h6⟩, h7⟩ => by
    rw [List.length_cons] at f
    refine ⟨⟨by rw [f _ _ (by omega) (by omega) (by omega)]; exact h1, h2.fr (fun q j a b c d e => ?_), by rw [f _ _ (by omega) (by omega) (by omega)]; exact h3, h4, by rw [f _ _ (by omega) (by omega) (by omega)]; exact h5, by rw [f _ _ (by omega) (by omega) (by omega)]; exact h6⟩, tz_Krs.fr Ks (k + 1) _ (fun q j a b c => f q j a b (by omega)) h7⟩
    have v6 := h2.2.1
    exact f q j a b (by omega)
theorem tz_Sr.fr {S : List ty_Se} {σ σ' : rx_St} (h : tz_Sr v T S σ) (f : ∀ q j, q = 7 + 14 * v ∧ j = 0 ∨ 8 + 14 * v ≤ q ∧ q ≤ 9 + 14 * v → σ'.1 q j = σ.1 q j) : tz_Sr v T S σ' := by
  obtain ⟨h1, h2, h3⟩ := h
  refine ⟨by rw [f _ _ (by omega)]; exact h1, h2, fun i x hx => ?_⟩
  obtain ⟨a, b⟩ := h3 i x hx
  exact ⟨by rw [f _ _ (by omega)]; exact a, by rw [f _ _ (by omega)]; exact b⟩
/-- what parse writes -/
def tz_SP (v q j : Nat) : Prop := tz_S v q j ∨ q = 35 ∧ j = 4 ∨ 7 + 14 * v ≤ q ∧ q ≤ 20 + 14 * v
theorem tz_SSP : ∀ q j, tz_S v q j → tz_SP v q j := fun q j h => Or.inl h
theorem tz_pp.fr {s : ty_Ps} {d : Nat} {C : List tz_Cd} {σ σ' : rx_St} (h : tz_pp v T n s d C σ) (f : ∀ q j, 3 ≤ q ∧ q ≤ 5 ∨ q = 35 ∧ (j = 2 ∨ j = 3 ∨ j = 6) ∨ q = 7 + 14 * v ∧ (j = 12 ∨ j = 13) ∨ 18 + 14 * v ≤ q ∧ q ≤ 20 + 14 * v → σ'.1 q j = σ.1 q j ∧ σ'.2 q j = σ.2 q j) : tz_pp v T n s d C σ' := by
  obtain ⟨g1, g2, ⟨cc, q, q1, q2, q3, q4⟩, g4⟩ := h
  exact ⟨g1.fr (fun a b e e' => f a b (by omega)), ⟨by rw [(f _ _ (by omega)).1]; exact g2.1, by rw [(f _ _ (by omega)).1]; exact g2.2.1, g2.2.2⟩, ⟨cc, q, by rw [(f _ _ (by omega)).1]; exact q1, q2, by rw [(f _ _ (by omega)).1]; exact q3, q4⟩, fun z => ⟨(g4 z).1.fr (fun a b e => (f a b (by omega)).1), (g4 z).2⟩⟩
/-- between the KINDS -/
def tz_ow (v : Nat) (T : List tw_Tk) (n : Nat) (s : ty_Ps) (S : List ty_Se) (Ks : List ty_Ki) (σ : rx_St) : Prop := tz_pp v T n s 0 (tz_kcs 0 Ks) σ ∧ (∃ k, k < 5 ∧ σ.1 35 4 = nI k) ∧ (s.1 = 0 → tz_Sr v T S σ ∧ σ.1 (7 + 14 * v) 3 = nI Ks.length ∧ Ks.length ≤ 5 ∧ tz_Krs v T σ 0 0 Ks)
theorem tz_setting {s : ty_Ps} {S : List ty_Se} {σ : rx_St} (hv : v ≤ 1) (h : tz_ow v T n s S [] σ) (hs : s.1 = 0) : tw_ok (f_rea_parseSetting v σ) (fun σ' => tw_fr (tz_SP v) σ σ' ∧ tz_ow v T n (ty_S1 T S.length s).1 (S ++ [(ty_S1 T S.length s).2]) [] σ') := by
  obtain ⟨h1, ⟨k4, k5, k6⟩, h3⟩ := h
  obtain ⟨⟨r1, r2, r3⟩, r4, r5, -⟩ := h3 hs
  unfold f_rea_parseSetting
  rw [r1]
  refine tw_b (h1.rm (a := S.length) (m := 6) hv (by omega) (by omega)) (fun σ1 g => ?_)
  obtain ⟨f1, h1⟩ := g
  refine tw_b (h1.tk hv (k := 0) (by omega) (by omega)) (fun y2 g => ?_)
  obtain ⟨-, f2, h2⟩ := g
  refine tw_b (h2.tk hv (k := 23) (by omega) (by omega)) (fun y3 g => ?_)
  obtain ⟨e3, f3, h3⟩ := g
  refine tw_b (h3.tk hv (k := 26) (by omega) (by omega)) (fun y4 g => ?_)
  obtain ⟨-, f4, h4⟩ := g
  refine tw_b (h4.tk hv (k := 24) (by omega) (by omega)) (fun y5 g => ?_)
  obtain ⟨e5, f5, h5⟩ := g
  refine tw_b (h5.tk hv (k := 25) (by omega) (by omega)) (fun y6 g => ?_)
  obtain ⟨-, f6, h6⟩ := g
  have fT : tw_fr tz_S1 σ y6.2 := ((((f1.tr f2).tr f3).tr f4).tr f5).tr f6
  have s2 := h6.2.1.2.2.1
  have eS : (ty_S1 T S.length s).1 = ty_tkn T 25 (ty_tkn T 24 (ty_tkn T 26 (ty_tkn T 23 (ty_tkn T 0 (ty_room S.length 6 s))))) := rfl
  rw [h6.2.1.1, show (0 : Int32) = nI 0 from rfl, tw_ifE (tw_eq (a := (ty_tkn T 25 (ty_tkn T 24 (ty_tkn T 26 (ty_tkn T 23 (ty_tkn T 0 (ty_room S.length 6 s)))))).1) (b := 0) (by omega) (by omega))]
  by_cases z : (ty_tkn T 25 (ty_tkn T 24 (ty_tkn T 26 (ty_tkn T 23 (ty_tkn T 0 (ty_room S.length 6 s)))))).1 = 0
  · rw [if_pos z, e5]
    obtain ⟨z5, -, -, -⟩ := ty_tkn_0 z
    obtain ⟨z4, zK, z4l, -⟩ := ty_tkn_0 z5
    obtain ⟨z3, -, -, -⟩ := ty_tkn_0 z4
    obtain ⟨z2, -, -, -⟩ := ty_tkn_0 z3
    obtain ⟨z1, -, -, -⟩ := ty_tkn_0 z2
    obtain ⟨-, zr, -⟩ := ty_room_0 z1
    rw [tz_valueOf (by omega), Option.bind_some, (h6.1.V (by omega) zK).1, e3]
    have w0 : y6.2.1 (7 + 14 * v) 0 = nI S.length := (fT.i (by unfold tz_S1; omega)).trans r1
    unfold f_wor_addSetting
    rw [w0, if_neg (show ¬ (6 : Int32) ≤ nI S.length by rw [show (6 : Int32) = nI 6 from rfl, tw_le (by omega) (by omega)]; omega)]
    simp (disch := omega) only [tw_L, tw_gN, tw_cl, tw_le, tw_lt, tw_eq, nI_add, pk_mul, tw_sub, tw_B0, tw_B1, tw_nb0, tw_nb1, tw_r1s, tw_r1n, if_true, if_false, Nat.le_refl, Nat.reduceEqDiff, Nat.reduceLeDiff, Nat.reduceLT, reduceIte, w0, Option.bind_some]
    rw [tw_some]
    have fS : tw_fr (tz_SP v) σ (rx_si (rx_si (rx_si y6.2 (9 + 14 * v) S.length (nI (ty_tkn T 0 (ty_room S.length 6 s)).2)) (8 + 14 * v) S.length (nI (ty_V T (ty_tkn T 26 (ty_tkn T 23 (ty_tkn T 0 (ty_room S.length 6 s)))).2))) (7 + 14 * v) 0 (nI (S.length + 1))) := (((fT.mn (fun q j h => by unfold tz_S1 at h; unfold tz_SP tz_S; omega)).si (by unfold tz_SP; omega)).si (by unfold tz_SP; omega)).si (by unfold tz_SP; omega)
    refine ⟨fS, ?_, ⟨k4, k5, ?_⟩, fun _ => ⟨⟨?_, ?_, fun i x hx => ?_⟩, ?_, r5, trivial⟩⟩
    · exact (h6.le (Nat.zero_le _)).fr (fun q j a => ⟨by rw [tw_r1n _ _ (by omega), tw_r1n _ _ (by omega), tw_r1n _ _ (by omega)], rfl⟩)
    · rw [tw_r1n _ _ (by omega), tw_r1n _ _ (by omega), tw_r1n _ _ (by omega), fT.i (by unfold tz_S1; omega)]; exact k6
    · rw [tw_r1s, List.length_append]; rfl
    · rw [List.length_append]; show S.length + 1 ≤ 6; omega
    · rcases tw_app hx with ⟨hi, hx⟩ | ⟨hi, rfl⟩
      · obtain ⟨a, b⟩ := r3 i x hx
        have a' : y6.2.1 (9 + 14 * v) i = nI x.1 := (fT.i (by unfold tz_S1; omega)).trans a
        have b' : y6.2.1 (8 + 14 * v) i = nI (ty_V T x.2) := (fT.i (by unfold tz_S1; omega)).trans b
        simp (disch := omega) only [tw_L, tw_gN, tw_cl, tw_le, tw_lt, tw_eq, nI_add, pk_mul, tw_sub, tw_B0, tw_B1, tw_nb0, tw_nb1, tw_r1s, tw_r1n, if_true, if_false, Nat.le_refl, Nat.reduceEqDiff, Nat.reduceLeDiff, Nat.reduceLT, reduceIte, a', b']
        exact ⟨trivial, trivial⟩
      · subst hi
        simp (disch := omega) only [tw_L, tw_gN, tw_cl, tw_le, tw_lt, tw_eq, nI_add, pk_mul, tw_sub, tw_B0, tw_B1, tw_nb0, tw_nb1, tw_r1s, tw_r1n, if_true, if_false, Nat.le_refl, Nat.reduceEqDiff, Nat.reduceLeDiff, Nat.reduceLT, reduceIte]
        exact ⟨rfl, rfl⟩
    · rw [tw_r1n _ _ (by omega), tw_r1n _ _ (by omega), tw_r1n _ _ (by omega), fT.i (by unfold tz_S1; omega)]; exact r4
  · rw [if_neg z, tw_some]
    exact ⟨fT.mn (fun q j h => by unfold tz_S1 at h; unfold tz_SP tz_S; omega), h6.le (Nat.zero_le _), ⟨k4, k5, (fT.i (by unfold tz_S1; omega)).trans k6⟩, fun y => absurd y z⟩
end TZ9
