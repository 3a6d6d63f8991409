/-! THE CLASS'S READER: KINDS, parse -/
section TZA
variable {v : Nat} {T : List tw_Tk} {n : Nat}
/-- in a KIND -/
def tz_in (v : Nat) (T : List tw_Tk) (n : Nat) (s : ty_Ps) (S : List ty_Se) (Ks : List ty_Ki) (nm : Nat) (vs : List ty_Va) (rs : List ty_Ru) (σ : rx_St) : Prop :=
  tz_pp v T n s 0 (tz_kcs 0 Ks ++ tz_rcs (tz_kcs 0 Ks).length rs) σ ∧ (∃ k, k < 5 ∧ σ.1 35 4 = nI k) ∧ (s.1 = 0 → (σ.1 35 4 = nI Ks.length ∧ Ks.length < 5) ∧ tz_Sr v T S σ ∧ σ.1 (7 + 14 * v) 3 = nI (Ks.length + 1) ∧ tz_Krs v T σ 0 0 Ks ∧ σ.1 (10 + 14 * v) Ks.length = nI nm ∧ tz_Vr v T Ks.length vs σ ∧ (σ.1 (12 + 14 * v) Ks.length = nI rs.length ∧ rs.length ≤ 8) ∧ σ.1 (16 + 14 * v) Ks.length = nI (tz_kcs 0 Ks).length)
/-- the rows of KINDS are kept by what a RULE writes -/
theorem tz_in.ru {s s' : ty_Ps} {S : List ty_Se} {Ks : List ty_Ki} {nm : Nat} {vs : List ty_Va} {rs rs' : List ty_Ru} {σ σ' : rx_St} (hv : v ≤ 1) (h : tz_in v T n s S Ks nm vs rs σ) (hs : s.1 = 0) (f : tw_fr (fun q j => tz_S v q j ∨ q = 12 + 14 * v ∧ j = Ks.length) σ σ') (hp : tz_pp v T n s' 0 (tz_kcs 0 Ks ++ tz_rcs (tz_kcs 0 Ks).length rs') σ') (hr : s'.1 = 0 → σ'.1 (12 + 14 * v) Ks.length = nI rs'.length ∧ rs'.length ≤ 8) : tz_in v T n s' S Ks nm vs rs' σ' := by
  obtain ⟨-, ⟨k4, k5, k6⟩, h3⟩ := h
  obtain ⟨⟨a1, a2⟩, a3, a4, a5, a6, a7, -, a9⟩ := h3 hs
  exact ⟨hp, ⟨k4, k5, (f.i (by unfold tz_S; omega)).trans k6⟩, fun z => ⟨⟨(f.i (by unfold tz_S; omega)).trans a1, a2⟩, a3.fr (fun q j a => f.i (by unfold tz_S; omega)), (f.i (by unfold tz_S; omega)).trans a4, tz_Krs.fr Ks 0 0 (fun q j a b c => f.i (by unfold tz_S; omega)) a5, (f.i (by unfold tz_S; omega)).trans a6, a7.fr (fun q j a b c d e => f.i (by unfold tz_S; omega)), hr z, (f.i (by unfold tz_S; omega)).trans a9⟩⟩
theorem tz_openKind {s : ty_Ps} {S : List ty_Se} {Ks : List ty_Ki} {σ : rx_St} (hv : v ≤ 1) (h : tz_ow v T n s S Ks σ) (hs : s.1 = 0) : tw_ok (f_rea_openKind v σ) (fun σ' => tw_fr (tz_SP v) σ σ' ∧ tz_in v T n (ty_tkn T 23 (ty_Ko T Ks.length s)) S Ks (ty_Ko T Ks.length s).2 [] [] σ') := by
  obtain ⟨h1, ⟨k4, k5, k6⟩, h3⟩ := h
  obtain ⟨r1, r4, r5, r6⟩ := h3 hs
  unfold f_rea_openKind
  rw [r4]
  refine tw_b (h1.rm (a := Ks.length) (m := 5) hv (by omega) (by omega)) (fun σ1 g => ?_)
  obtain ⟨f1, h1⟩ := g
  refine tw_b (h1.tk hv (k := 1) (by omega) (by omega)) (fun y2 g => ?_)
  obtain ⟨-, f2, h2⟩ := g
  refine tw_b (h2.tk hv (k := 23) (by omega) (by omega)) (fun y3 g => ?_)
  obtain ⟨e3, f3, h3'⟩ := g
  have fT : tw_fr tz_S1 σ y3.2 := (f1.tr f2).tr f3
  have s2 := h3'.2.1.2.2.1
  have s2' : (ty_tkn T 23 (ty_Ko T Ks.length s)).1 ≤ 2 := s2
  show tw_ok (if y3.2.1 35 3 = (0 : Int32) then _ else _) _
  rw [h3'.2.1.1, show (0 : Int32) = nI 0 from rfl, tw_ifE (tw_eq (a := (ty_tkn T 23 (ty_tkn T 1 (ty_room Ks.length 5 s))).1) (b := 0) (by omega) (by omega))]
  by_cases z : (ty_tkn T 23 (ty_tkn T 1 (ty_room Ks.length 5 s))).1 = 0
  · rw [if_pos z]
    obtain ⟨z2, -, -, -⟩ := ty_tkn_0 z
    obtain ⟨z1, -, -, -⟩ := ty_tkn_0 z2
    obtain ⟨-, zr, -⟩ := ty_room_0 z1
    have w3 : y3.2.1 (7 + 14 * v) 3 = nI Ks.length := (fT.i (by unfold tz_S1; omega)).trans r4
    obtain ⟨⟨w12, c5, -⟩, -⟩ := h3'.2.2.2 z
    show tw_ok ((f_wor_addKind v y3.1 (rx_si y3.2 35 4 (y3.2.1 (7 + 14 * v) 3))).bind fun y4 => some y4) _
    rw [w3, e3]
    unfold f_wor_addKind
    rw [show (rx_si y3.2 35 4 (nI Ks.length)).1 (7 + 14 * v) 3 = nI Ks.length from (tw_r1n _ _ (by omega)).trans w3, if_neg (show ¬ (5 : Int32) ≤ nI Ks.length by rw [show (5 : Int32) = nI 5 from rfl, tw_le (by omega) (by omega)]; omega)]
    simp (disch := omega) only [tw_L, tw_gN, tw_cl, tw_le, tw_lt, tw_eq, nI_add, pk_mul, tw_sub, tw_B0, tw_B1, tw_nb0, tw_nb1, tw_r1s, tw_r1n, if_true, if_false, Nat.le_refl, Nat.reduceEqDiff, Nat.reduceLeDiff, Nat.reduceLT, reduceIte, w3, w12, Option.bind_some]
    rw [tw_some]
    have g : ∀ (q j : Nat), q ≠ 35 ∨ j ≠ 4 → q ≠ 10 + 14 * v ∨ j ≠ Ks.length → q ≠ 11 + 14 * v ∨ j ≠ Ks.length → q ≠ 12 + 14 * v ∨ j ≠ Ks.length → q ≠ 16 + 14 * v ∨ j ≠ Ks.length → q ≠ 17 + 14 * v ∨ j ≠ Ks.length → q ≠ 7 + 14 * v ∨ j ≠ 3 → (rx_si (rx_si (rx_si (rx_si (rx_si (rx_si (rx_si y3.2 35 4 (nI Ks.length)) (10 + 14 * v) Ks.length (nI (ty_tkn T 1 (ty_room Ks.length 5 s)).2)) (11 + 14 * v) Ks.length (nI 0)) (12 + 14 * v) Ks.length (nI 0)) (16 + 14 * v) Ks.length (nI (tz_kcs 0 Ks).length)) (17 + 14 * v) Ks.length (nI (tz_kcs 0 Ks).length)) (7 + 14 * v) 3 (nI (Ks.length + 1))).1 q j = y3.2.1 q j := fun q j a b c d e f g => by
      rw [tw_r1n _ _ (by omega), tw_r1n _ _ (by omega), tw_r1n _ _ (by omega), tw_r1n _ _ (by omega), tw_r1n _ _ (by omega), tw_r1n _ _ (by omega), tw_r1n _ _ (by omega)]
    have fS : tw_fr (tz_SP v) σ (rx_si (rx_si (rx_si (rx_si (rx_si (rx_si (rx_si y3.2 35 4 (nI Ks.length)) (10 + 14 * v) Ks.length (nI (ty_tkn T 1 (ty_room Ks.length 5 s)).2)) (11 + 14 * v) Ks.length (nI 0)) (12 + 14 * v) Ks.length (nI 0)) (16 + 14 * v) Ks.length (nI (tz_kcs 0 Ks).length)) (17 + 14 * v) Ks.length (nI (tz_kcs 0 Ks).length)) (7 + 14 * v) 3 (nI (Ks.length + 1))) := (((((((fT.mn (fun q j h => by unfold tz_S1 at h; unfold tz_SP tz_S; omega)).si (by unfold tz_SP; omega)).si (by unfold tz_SP; omega)).si (by unfold tz_SP; omega)).si (by unfold tz_SP; omega)).si (by unfold tz_SP; omega)).si (by unfold tz_SP; omega)).si (by unfold tz_SP; omega)
    refine ⟨fS, ?_, ⟨Ks.length, by omega, ?_⟩, fun _ => ⟨⟨?_, by omega⟩, ?_, tw_r1s _ _ _ _, ?_, ?_, ⟨?_, by show 0 ≤ 6; omega, fun i x hx => by cases hx⟩, ⟨?_, by show 0 ≤ 8; omega⟩, ?_⟩⟩
    · rw [show tz_rcs (tz_kcs 0 Ks).length [] = [] from rfl, List.append_nil]
      exact (h3'.le (Nat.zero_le _)).fr (fun q j a => ⟨g q j (by omega) (by omega) (by omega) (by omega) (by omega) (by omega) (by omega), rfl⟩)
    · simp (disch := omega) only [tw_L, tw_gN, tw_cl, tw_le, tw_lt, tw_eq, nI_add, pk_mul, tw_sub, tw_B0, tw_B1, tw_nb0, tw_nb1, tw_r1s, tw_r1n, if_true, if_false, Nat.le_refl, Nat.reduceEqDiff, Nat.reduceLeDiff, Nat.reduceLT, reduceIte]
    · simp (disch := omega) only [tw_L, tw_gN, tw_cl, tw_le, tw_lt, tw_eq, nI_add, pk_mul, tw_sub, tw_B0, tw_B1, tw_nb0, tw_nb1, tw_r1s, tw_r1n, if_true, if_false, Nat.le_refl, Nat.reduceEqDiff, Nat.reduceLeDiff, Nat.reduceLT, reduceIte]
    · exact r1.fr (fun q j a => (g q j (by omega) (by omega) (by omega) (by omega) (by omega) (by omega) (by omega)).trans (fT.i (by unfold tz_S1; omega)))
    · exact tz_Krs.fr Ks 0 0 (fun q j a b c => (g q j (by omega) (by omega) (by omega) (by omega) (by omega) (by omega) (by omega)).trans (fT.i (by unfold tz_S1; omega))) r6
    · simp (disch := omega) only [tw_L, tw_gN, tw_cl, tw_le, tw_lt, tw_eq, nI_add, pk_mul, tw_sub, tw_B0, tw_B1, tw_nb0, tw_nb1, tw_r1s, tw_r1n, if_true, if_false, Nat.le_refl, Nat.reduceEqDiff, Nat.reduceLeDiff, Nat.reduceLT, reduceIte]
      rfl
    · simp (disch := omega) only [tw_L, tw_gN, tw_cl, tw_le, tw_lt, tw_eq, nI_add, pk_mul, tw_sub, tw_B0, tw_B1, tw_nb0, tw_nb1, tw_r1s, tw_r1n, if_true, if_false, Nat.le_refl, Nat.reduceEqDiff, Nat.reduceLeDiff, Nat.reduceLT, reduceIte]
      rfl
    · simp (disch := omega) only [tw_L, tw_gN, tw_cl, tw_le, tw_lt, tw_eq, nI_add, pk_mul, tw_sub, tw_B0, tw_B1, tw_nb0, tw_nb1, tw_r1s, tw_r1n, if_true, if_false, Nat.le_refl, Nat.reduceEqDiff, Nat.reduceLeDiff, Nat.reduceLT, reduceIte]
      rfl
    · simp (disch := omega) only [tw_L, tw_gN, tw_cl, tw_le, tw_lt, tw_eq, nI_add, pk_mul, tw_sub, tw_B0, tw_B1, tw_nb0, tw_nb1, tw_r1s, tw_r1n, if_true, if_false, Nat.le_refl, Nat.reduceEqDiff, Nat.reduceLeDiff, Nat.reduceLT, reduceIte]
  · rw [if_neg z, tw_some]
    refine ⟨fT.mn (fun q j h => by unfold tz_S1 at h; unfold tz_SP tz_S; omega), ?_, ⟨k4, k5, (fT.i (by unfold tz_S1; omega)).trans k6⟩, fun y => absurd y z⟩
    rw [show tz_rcs (tz_kcs 0 Ks).length [] = [] from rfl, List.append_nil]
    exact h3'.le (Nat.zero_le _)
theorem tz_parseHas {s : ty_Ps} {S : List ty_Se} {Ks : List ty_Ki} {nm : Nat} {vs : List ty_Va} {σ : rx_St} (hv : v ≤ 1) (h : tz_in v T n s S Ks nm vs [] σ) (hs : s.1 = 0) (hh : ty_nx T s = 3 ∨ ty_nx T s = 4) : tw_ok (f_rea_parseHas v σ) (fun σ' => tw_fr (tz_SP v) σ σ' ∧ tz_in v T n (ty_H1 T vs.length s).1 S Ks nm (vs ++ [(ty_H1 T vs.length s).2]) [] σ') := by
  obtain ⟨h1, ⟨k4, k5, k6⟩, h3⟩ := id h
  obtain ⟨⟨a1, a2⟩, a3, a4, a5, a6, ⟨b1, b2, b3⟩, ⟨b4, b5⟩, a9⟩ := h3 hs
  unfold f_rea_parseHas
  rw [a1]
  refine tw_g (vp_in_nI (by omega) (by decide)) ?_
  rw [nI_clamp (by omega), b1]
  refine tw_b (h1.rm (a := vs.length) (m := 6) hv (by omega) (by omega)) (fun σ1 g => ?_)
  obtain ⟨f1, h1⟩ := g
  have hn := tz_next h1.1 h1.2.1
  have hK := ty_nx_le (fun i x z => (h1.1.2 i x z).1) (ty_room vs.length 6 s)
  rw [hn, Option.bind_some, tw_ifE (show (nI (ty_nx T (ty_room vs.length 6 s)) = (4 : Int32)) = (ty_nx T (ty_room vs.length 6 s) = 4) by rw [show (4 : Int32) = nI 4 from rfl, tw_eq (by omega) (by omega)])]
  have e42 : ∀ (sec : Bool) (k : Nat), sec = decide (ty_nx T (ty_room vs.length 6 s) = 4) → k = (if ty_nx T (ty_room vs.length 6 s) = 4 then 4 else 3) → tw_ok (f_rea_parseHas_42 v (tw_B sec) (nI k) σ1) (fun σ' => tw_fr (tz_SP v) σ σ' ∧ tz_in v T n (ty_H1 T vs.length s).1 S Ks nm (vs ++ [(ty_H1 T vs.length s).2]) [] σ') := by
    intro sec k hsec hk
    have kb : k ≤ 4 := by rw [hk]; split <;> omega
    unfold f_rea_parseHas_42
    refine tw_b (h1.tk hv (k := k) (by omega) (by omega)) (fun y1 g => ?_)
    obtain ⟨-, f2, h2⟩ := g
    have eHa : ty_tkn T k (ty_room vs.length 6 s) = ty_Ha T vs.length s := by rw [hk]; rfl
    rw [eHa] at h2
    refine tw_b (h2.tk hv (k := 23) (by omega) (by omega)) (fun y2 g => ?_)
    obtain ⟨e2, f3, h3'⟩ := g
    refine tw_b (h3'.tk hv (k := 26) (by omega) (by omega)) (fun y3 g => ?_)
    obtain ⟨-, f4, h4⟩ := g
    have h4' : tz_pp v T n (ty_Hb T vs.length s) (0 + 1 + 1 + 1) _ y3.2 := h4
    have hn4 := tz_next h4'.1 h4'.2.1
    have hK4 := ty_nx_le (fun i x z => (h4'.1.2 i x z).1) (ty_Hb T vs.length s)
    rw [hn4, Option.bind_some, e2, tw_ifE (show (nI (ty_nx T (ty_Hb T vs.length s)) = (28 : Int32)) = (ty_nx T (ty_Hb T vs.length s) = 28) by rw [show (28 : Int32) = nI 28 from rfl, tw_eq (by omega) (by omega)])]
    have f14 : tw_fr tz_S1 σ y3.2 := ((f1.tr f2).tr f3).tr f4
    have e86 : ∀ (mi : Bool) (τ : rx_St), mi = decide (ty_nx T (ty_Hb T vs.length s) = 28) → tw_fr tz_S1 σ τ → tz_pp v T n (ty_Hc T vs.length s) 0 (tz_kcs 0 Ks ++ tz_rcs (tz_kcs 0 Ks).length []) τ → tw_ok (f_rea_parseHas_86 v (tw_B sec) (nI (ty_Ha T vs.length s).2) (tw_B mi) τ) (fun σ' => tw_fr (tz_SP v) σ σ' ∧ tz_in v T n (ty_H1 T vs.length s).1 S Ks nm (vs ++ [(ty_H1 T vs.length s).2]) [] σ') := by
      intro mi τ hmi fτ hτ
      have s5 := hτ.2.1.2.2.2.1
      unfold f_rea_parseHas_86
      refine tw_b (hτ.tk hv (k := 24) (by omega) (by omega)) (fun y5 g => ?_)
      obtain ⟨e5, f5, h5⟩ := g
      rw [e5, tz_valueOf s5, Option.bind_some]
      refine tw_b (h5.tk hv (k := 25) (by omega) (by omega)) (fun y6 g => ?_)
      obtain ⟨-, f6, h6⟩ := g
      have fT : tw_fr tz_S1 σ y6.2 := (fτ.tr f5).tr f6
      have s2 := h6.2.1.2.2.1
      rw [h6.2.1.1, show (0 : Int32) = nI 0 from rfl, tw_ifE (tw_eq (a := (ty_tkn T 25 (ty_tkn T 24 (ty_Hc T vs.length s))).1) (b := 0) (by omega) (by omega))]
      by_cases z : (ty_tkn T 25 (ty_tkn T 24 (ty_Hc T vs.length s))).1 = 0
      · rw [if_pos z]
        obtain ⟨z5, -, -, -⟩ := ty_tkn_0 z
        obtain ⟨z4, zK, z4l, -⟩ := ty_tkn_0 z5
        have zr : vs.length < 6 := by
          have z0 : (ty_room vs.length 6 s).1 = 0 := by
            have hb0 : (ty_Hb T vs.length s).1 = 0 := by
              unfold ty_Hc at z4
              by_cases c : ty_nx T (ty_Hb T vs.length s) = 28
              · rw [if_pos c] at z4; exact (ty_tkn_0 z4).1
              · rw [if_neg c] at z4; exact z4
            exact (ty_tkn_0 (ty_tkn_0 (ty_tkn_0 hb0).1).1).1
          exact (ty_room_0 z0).2.1
        have vV := (h5.1.V (by omega) zK).1
        have w35 : y6.2.1 35 4 = nI Ks.length := (fT.i (by unfold tz_S1; omega)).trans a1
        have w3 : y6.2.1 (7 + 14 * v) 3 = nI (Ks.length + 1) := (fT.i (by unfold tz_S1; omega)).trans a4
        have w11 : y6.2.1 (11 + 14 * v) Ks.length = nI vs.length := (fT.i (by unfold tz_S1; omega)).trans b1
        have fin : ∀ val : Int32, val = tz_val T (ty_H1 T vs.length s).2 → tw_ok (f_rea_parseHas_137 v (tw_B sec) (nI Ks.length) (nI (ty_Ha T vs.length s).2) val y6.2) (fun σ' => tw_fr (tz_SP v) σ σ' ∧ tz_in v T n (ty_H1 T vs.length s).1 S Ks nm (vs ++ [(ty_H1 T vs.length s).2]) [] σ') := by
          intro val hval
          have nb : vp_nar .boolean (tw_B sec) = tw_B sec := by cases sec <;> rfl
          have hk1 : f_wor_hasKind v (nI Ks.length) y6.2 = nI 1 := by
            unfold f_wor_hasKind
            simp (disch := omega) only [tw_L, tw_gN, tw_cl, tw_le, tw_lt, tw_eq, nI_add, pk_mul, tw_sub, tw_B0, tw_B1, tw_nb0, tw_nb1, tw_r1s, tw_r1n, if_true, if_false, Nat.le_refl, Nat.reduceEqDiff, Nat.reduceLeDiff, Nat.reduceLT, reduceIte, w3]
            rw [if_neg (by omega), if_neg (by omega)]
          unfold f_rea_parseHas_137 f_wor_addVar
          rw [hk1, if_neg (by decide)]
          simp (disch := omega) only [tw_L, tw_gN, tw_cl, tw_le, tw_lt, tw_eq, nI_add, pk_mul, tw_sub, tw_B0, tw_B1, tw_nb0, tw_nb1, tw_r1s, tw_r1n, if_true, if_false, Nat.le_refl, Nat.reduceEqDiff, Nat.reduceLeDiff, Nat.reduceLT, reduceIte, w11, nb, Option.bind_some]
          rw [if_neg (by omega), Option.bind_some, tw_some]
          have g : ∀ (q j : Nat), q ≠ 14 + 14 * v ∨ j ≠ Ks.length * 6 + vs.length → q ≠ 13 + 14 * v ∨ j ≠ Ks.length * 6 + vs.length → q ≠ 15 + 14 * v ∨ j ≠ Ks.length * 6 + vs.length → q ≠ 11 + 14 * v ∨ j ≠ Ks.length → (rx_si (rx_si (rx_si (rx_si y6.2 (14 + 14 * v) (Ks.length * 6 + vs.length) (nI (ty_Ha T vs.length s).2)) (13 + 14 * v) (Ks.length * 6 + vs.length) val) (15 + 14 * v) (Ks.length * 6 + vs.length) (tw_B sec)) (11 + 14 * v) Ks.length (nI (vs.length + 1))).1 q j = y6.2.1 q j := fun q j a b c d => by
            rw [tw_r1n _ _ (by omega), tw_r1n _ _ (by omega), tw_r1n _ _ (by omega), tw_r1n _ _ (by omega)]
          have gS : ∀ (q j : Nat), q ≠ 14 + 14 * v ∨ j ≠ Ks.length * 6 + vs.length → q ≠ 13 + 14 * v ∨ j ≠ Ks.length * 6 + vs.length → q ≠ 15 + 14 * v ∨ j ≠ Ks.length * 6 + vs.length → q ≠ 11 + 14 * v ∨ j ≠ Ks.length → ¬ tz_S1 q j → (rx_si (rx_si (rx_si (rx_si y6.2 (14 + 14 * v) (Ks.length * 6 + vs.length) (nI (ty_Ha T vs.length s).2)) (13 + 14 * v) (Ks.length * 6 + vs.length) val) (15 + 14 * v) (Ks.length * 6 + vs.length) (tw_B sec)) (11 + 14 * v) Ks.length (nI (vs.length + 1))).1 q j = σ.1 q j := fun q j a b c d e => (g q j a b c d).trans (fT.i e)
          have fS : tw_fr (tz_SP v) σ (rx_si (rx_si (rx_si (rx_si y6.2 (14 + 14 * v) (Ks.length * 6 + vs.length) (nI (ty_Ha T vs.length s).2)) (13 + 14 * v) (Ks.length * 6 + vs.length) val) (15 + 14 * v) (Ks.length * 6 + vs.length) (tw_B sec)) (11 + 14 * v) Ks.length (nI (vs.length + 1))) := ((((fT.mn (fun q j h => by unfold tz_S1 at h; unfold tz_SP tz_S; omega)).si (by unfold tz_SP; omega)).si (by unfold tz_SP; omega)).si (by unfold tz_SP; omega)).si (by unfold tz_SP; omega)
          refine ⟨fS, (h6.le (Nat.zero_le _)).fr (fun q j a => ⟨g q j (by omega) (by omega) (by omega) (by omega), rfl⟩), ⟨k4, k5, (gS _ _ (by omega) (by omega) (by omega) (by omega) (by unfold tz_S1; omega)).trans k6⟩, fun _ => ⟨⟨(gS _ _ (by omega) (by omega) (by omega) (by omega) (by unfold tz_S1; omega)).trans a1, a2⟩, a3.fr (fun q j a => gS q j (by omega) (by omega) (by omega) (by omega) (by unfold tz_S1; omega)), (gS _ _ (by omega) (by omega) (by omega) (by omega) (by unfold tz_S1; omega)).trans a4, tz_Krs.fr Ks 0 0 (fun q j a b c => gS q j (by omega) (by omega) (by omega) (by omega) (by unfold tz_S1; omega)) a5, (gS _ _ (by omega) (by omega) (by omega) (by omega) (by unfold tz_S1; omega)).trans a6, ⟨?_, ?_, fun i x hx => ?_⟩, ⟨(gS _ _ (by omega) (by omega) (by omega) (by omega) (by unfold tz_S1; omega)).trans b4, b5⟩, (gS _ _ (by omega) (by omega) (by omega) (by omega) (by unfold tz_S1; omega)).trans a9⟩⟩
          · rw [tw_r1s, List.length_append]; rfl
          · rw [List.length_append]; show vs.length + 1 ≤ 6; omega
          · rcases tw_app hx with ⟨hi, hx⟩ | ⟨hi, rfl⟩
            · obtain ⟨q1, q2, q3⟩ := b3 i x hx
              exact ⟨(gS _ _ (by omega) (by omega) (by omega) (by omega) (by unfold tz_S1; omega)).trans q1, (gS _ _ (by omega) (by omega) (by omega) (by omega) (by unfold tz_S1; omega)).trans q2, (gS _ _ (by omega) (by omega) (by omega) (by omega) (by unfold tz_S1; omega)).trans q3⟩
            · subst hi
              simp (disch := omega) only [tw_L, tw_gN, tw_cl, tw_le, tw_lt, tw_eq, nI_add, pk_mul, tw_sub, tw_B0, tw_B1, tw_nb0, tw_nb1, tw_r1s, tw_r1n, if_true, if_false, Nat.le_refl, Nat.reduceEqDiff, Nat.reduceLeDiff, Nat.reduceLT, reduceIte]
              exact ⟨rfl, hval, by rw [hsec]; rfl⟩
        have vale : ∀ x : Int32, x = (y5.2.2 5 (ty_Hc T vs.length s).2).toInt32 → x = nI (ty_V T (ty_Hc T vs.length s).2) := fun x hx => hx.trans vV
        rw [w35]
        cases mi with
        | false =>
          rw [if_pos (show tw_B false = nI 0 from rfl)]
          refine fin _ ?_
          unfold tz_val
          rw [if_neg (show ¬ (ty_H1 T vs.length s).2.2.2.1 = true from fun y => by
            have : decide (ty_nx T (ty_Hb T vs.length s) = 28) = true := y
            rw [← hmi] at this
            cases this)]
          exact vV
        | true =>
          rw [if_neg (show ¬ tw_B true = nI 0 by decide)]
          refine fin _ ?_
          unfold tz_val
          rw [if_pos (show (ty_H1 T vs.length s).2.2.2.1 = true from hmi.symm)]
          show -((y5.2.2 5 (ty_Hc T vs.length s).2).toInt32) = _
          rw [vV]
          rfl
      · rw [if_neg z, tw_some]
        exact ⟨fT.mn (fun q j h => by unfold tz_S1 at h; unfold tz_SP tz_S; omega), (h6.le (Nat.zero_le _)), ⟨k4, k5, (fT.i (by unfold tz_S1; omega)).trans k6⟩, fun y => absurd y z⟩
    unfold f_rea_parseHas_74
    by_cases c28 : ty_nx T (ty_Hb T vs.length s) = 28
    · rw [if_pos c28, if_neg (by decide)]
      refine tw_b (h4'.tk hv (k := 28) (by omega) (by omega)) (fun y5 g => ?_)
      obtain ⟨-, f5, h5⟩ := g
      exact e86 true y5.2 (decide_eq_true c28).symm (f14.tr f5) (by
        have : ty_Hc T vs.length s = ty_tkn T 28 (ty_Hb T vs.length s) := if_pos c28
        rw [this]
        exact h5.le (Nat.zero_le _))
    · rw [if_neg c28, if_pos (by rfl)]
      exact e86 false y3.2 (decide_eq_false c28).symm f14 (by
        have : ty_Hc T vs.length s = ty_Hb T vs.length s := if_neg c28
        rw [this]
        exact h4'.le (Nat.zero_le _))
  unfold f_rea_parseHas_31
  by_cases c4 : ty_nx T (ty_room vs.length 6 s) = 4
  · rw [if_pos c4, if_neg (by decide)]
    exact e42 true 4 (decide_eq_true c4).symm (if_pos c4).symm
  · rw [if_neg c4, if_pos (by rfl)]
    exact e42 false 3 (decide_eq_false c4).symm (if_neg c4).symm
end TZA
