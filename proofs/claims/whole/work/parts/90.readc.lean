/-! THE CLASS READS -/
theorem tw_kf_23 (L : List Nat) : tw_kf L 23 ≤ 23 := tw_kf_le L
theorem tw_dg_b (c : Nat) : 25 ≤ tw_dg c ∧ tw_dg c ≤ 38 := by
  unfold tw_dg
  by_cases c1 : c = 33
  · rw [if_pos c1]; omega
  rw [if_neg c1]
  by_cases c2 : c = 60
  · rw [if_pos c2]; omega
  rw [if_neg c2]
  by_cases c3 : c = 61
  · rw [if_pos c3]; omega
  rw [if_neg c3]; omega
theorem tw_sg_b (c : Nat) : 25 ≤ tw_sg c ∧ tw_sg c ≤ 38 := by
  unfold tw_sg
  by_cases c1 : c = 40
  · rw [if_pos c1]; omega
  rw [if_neg c1]
  by_cases c2 : c = 41
  · rw [if_pos c2]; omega
  rw [if_neg c2]
  by_cases c3 : c = 42
  · rw [if_pos c3]; omega
  rw [if_neg c3]
  by_cases c4 : c = 43
  · rw [if_pos c4]; omega
  rw [if_neg c4]
  by_cases c5 : c = 45
  · rw [if_pos c5]; omega
  rw [if_neg c5]
  by_cases c6 : c = 47
  · rw [if_pos c6]; omega
  rw [if_neg c6]
  by_cases c7 : c = 59
  · rw [if_pos c7]; omega
  rw [if_neg c7]
  by_cases c8 : c = 60
  · rw [if_pos c8]; omega
  rw [if_neg c8]
  by_cases c9 : c = 61
  · rw [if_pos c9]; omega
  rw [if_neg c9]; omega
theorem tw_tk_ok (b : Nat → Nat) {n i : Nat} (h : i < n) : tw_tkok (tw_tk b n i).1 ∧ (tw_tk b n i).1.2.1 < n := by
  unfold tw_tk
  by_cases c : tw_isL (b i) = true
  · rw [if_pos c]
    refine ⟨?_, h⟩
    have a1 := tw_rn_le tw_isL b (n - i) i
    have az := tw_ll_az b i (tw_rn tw_isL b (n - i) i - i) (fun j hj => tw_rn_p tw_isL b (n - i) i (i + j) (by omega) (by omega))
    have ln := tw_ll_len b i (tw_rn tw_isL b (n - i) i - i)
    have kf := tw_kf_le (tw_ll b i (tw_rn tw_isL b (n - i) i - i))
    by_cases d : tw_rn tw_isL b (n - i) i - i ≤ 8
    · rw [if_pos d]
      exact ⟨by show tw_kf _ 23 ≤ 38; omega, fun z => by have z' : tw_kf (tw_ll b i (tw_rn tw_isL b (n - i) i - i)) 23 = 24 := z; omega, fun _ => ⟨az, by show (tw_ll b i (tw_rn tw_isL b (n - i) i - i)).length ≤ 8; omega⟩⟩
    · rw [if_neg d]
      exact ⟨Nat.le_refl _, fun z => absurd (show 38 = 24 from z) (by omega), fun z => absurd (show 38 ≤ 23 from z) (by omega)⟩
  · rw [if_neg c]
    by_cases d : tw_isD (b i) = true
    · rw [if_pos d]
      refine ⟨?_, h⟩
      by_cases e : tw_rn tw_isD b (n - i) i - i ≤ 4
      · rw [if_pos e]
        have lt := tw_dv_lt b i (tw_rn tw_isD b (n - i) i - i) (fun j hj => tw_rn_p tw_isD b (n - i) i (i + j) (by omega) (by omega))
        have p4 : 10 ^ (tw_rn tw_isD b (n - i) i - i) ≤ 10 ^ 4 := Nat.pow_le_pow_right (by omega) e
        have p5 : 10 ^ 4 = 10000 := by decide
        exact ⟨by show 24 ≤ 38; omega, fun _ => by show tw_dv b i (tw_rn tw_isD b (n - i) i - i) ≤ 9999; omega, fun z => absurd (show 24 ≤ 23 from z) (by omega)⟩
      · rw [if_neg e]
        exact ⟨Nat.le_refl _, fun z => absurd (show 38 = 24 from z) (by omega), fun z => absurd (show 38 ≤ 23 from z) (by omega)⟩
    · rw [if_neg d]
      by_cases e : i + 1 < n ∧ b (i + 1) = 61 ∧ tw_dg (b i) ≠ 38
      · rw [if_pos e]
        have g := tw_dg_b (b i)
        exact ⟨⟨g.2, fun z => by have z' : tw_dg (b i) = 24 := z; omega, fun z => by have z' : tw_dg (b i) ≤ 23 := z; omega⟩, h⟩
      · rw [if_neg e]
        have g := tw_sg_b (b i)
        exact ⟨⟨g.2, fun z => by have z' : tw_sg (b i) = 24 := z; omega, fun z => by have z' : tw_sg (b i) ≤ 23 := z; omega⟩, h⟩
theorem tw_sc_ok (b : Nat → Nat) (n : Nat) : ∀ (f i : Nat), ∀ x ∈ tw_sc b n f i, tw_tkok x ∧ x.2.1 < n
  | 0, _, x, hx => by cases hx
  | f + 1, i, x, hx => by
    rw [tw_sc] at hx
    by_cases c : n ≤ i
    · rw [if_pos c] at hx; cases hx
    · rw [if_neg c] at hx
      by_cases d : tw_isB (b i) = true
      · rw [if_pos d] at hx
        exact tw_sc_ok b n f (i + 1) x hx
      · rw [if_neg d] at hx
        rcases List.mem_cons.mp hx with rfl | hx
        · exact tw_tk_ok b (by omega)
        · exact tw_sc_ok b n f _ x hx
theorem tw_sc_Pl {b : Nat → Nat} {n : Nat} (hn : n ≤ 2000) (i : Nat) : ty_Pl (tw_sc b n n 0) n i ≤ 2000 := by
  unfold ty_Pl
  cases e : (tw_sc b n n 0)[i]? with
  | none => exact hn
  | some x =>
    have := (tw_sc_ok b n n 0 x (List.mem_of_getElem? e)).2
    show x.2.1 ≤ 2000
    omega
/-- what the text is worth: none, or the place and the FAULT -/
def ty_R (T : List tw_Tk) (n : Nat) : Option (Nat × Nat) := if (ty_P T).1.1 = 0 then ty_mn T n none (tz_E T (ty_P T).2) else some (ty_Pl T n (ty_P T).1.2, (ty_P T).1.1)
theorem tc_moveTo {v : Nat} {σ : rx_St} {m : Nat} (h0 : σ.1 (7 + 14 * v) 0 = nI m) (hm : m ≤ 6) : tw_ok (f_tow_moveTo v σ) (fun σ' => tw_fr (fun q j => q = 38 ∧ (j = 2 ∨ j = 8) ∨ q = 39) σ σ' ∧ σ'.1 38 2 = nI 0 ∧ σ'.1 38 8 = σ.1 38 8 + nI 1 ∧ ∀ i, i < m → σ'.1 39 i = σ.1 (8 + 14 * v) i) := by
  unfold f_tow_moveTo
  refine tw_lp (fun fu i σ => f_tow_moveTo_12 v fu (nI i) σ) (fun i σ' => tw_fr (fun q j => q = 38 ∧ j = 2 ∨ q = 39) σ σ' ∧ σ'.1 38 2 = nI 0 ∧ ∀ k, k < i → σ'.1 39 k = σ.1 (8 + 14 * v) k) m _ ?_ ?_ rx_fu 0 _ (by show _ < 100000; omega) (Nat.zero_le _) ⟨tw_fr.rf.si (Or.inl ⟨rfl, rfl⟩), tw_r1s _ _ _ _, fun p hp => absurd hp (Nat.not_lt_zero _)⟩
  · intro n i σ1 hi hI next
    obtain ⟨f, g, h⟩ := hI
    unfold f_tow_moveTo_12
    rw [f.i (by omega), h0, if_neg (tp_nl (by omega) (by omega) (by omega))]
    refine tw_g (vp_in_nI (by omega) (by decide)) (tw_g (vp_in_nI (by omega) (by decide)) ?_)
    rw [nI_clamp (by omega), show nI i + (1 : Int32) = nI (i + 1) from nI_add i 1]
    refine next _ ⟨f.si (Or.inr rfl), ?_, fun k hk => ?_⟩
    · rw [tw_r1n _ _ (by omega)]; exact g
    · by_cases e : k = i
      · subst e
        rw [tw_r1s]
        exact f.i (by omega)
      · rw [tw_r1n _ _ (by omega)]
        exact h k (by omega)
  · intro n σ1 hI
    obtain ⟨f, g, h⟩ := hI
    unfold f_tow_moveTo_12
    rw [f.i (by omega), h0, if_pos (tp_yl (by omega) (by omega) (Nat.le_refl _)), tw_some]
    refine ⟨(f.mn (fun q j h => by omega)).si (Or.inl ⟨rfl, Or.inr rfl⟩), ?_, ?_, fun i hi => ?_⟩
    · rw [tw_r1n _ _ (by omega)]; exact g
    · rw [tw_r1s, f.i (by omega)]; rfl
    · rw [tw_r1n _ _ (by omega)]; exact h i hi
theorem tc_empty (σ : rx_St) : tw_ok (f_gri_empty σ) (fun σ' => tw_fr (fun q j => q = 86 ∨ q = 76 ∧ (j = 2 ∨ j = 8 ∨ j = 13 ∨ j = 15)) σ σ' ∧ σ'.1 76 2 = nI 0 ∧ σ'.1 76 8 = nI 0 ∧ σ'.1 76 13 = nI 1) := by
  unfold f_gri_empty
  refine tw_b (tc_forget _) (fun σ1 g => ?_)
  obtain ⟨g1, -, -⟩ := g
  rw [tw_some]
  refine ⟨?_, ?_, ?_, ?_⟩
  · exact (((tw_fr.rf.si (Or.inr ⟨rfl, Or.inl rfl⟩)).si (Or.inr ⟨rfl, Or.inr (Or.inl rfl)⟩)).si (Or.inr ⟨rfl, Or.inr (Or.inr (Or.inl rfl))⟩)).tr (g1.mn (fun q j h => by omega))
  · rw [g1.i (by omega), tw_r1n _ _ (by omega), tw_r1n _ _ (by omega), tw_r1s]; rfl
  · rw [g1.i (by omega), tw_r1n _ _ (by omega), tw_r1s]; rfl
  · rw [g1.i (by omega), tw_r1s]; rfl
/-- what a reading writes: of a bad text, of a good one -/
def tc_Sb (v q j : Nat) : Prop := tc_Sk q j ∨ tz_SP v q j ∨ tz_SC v q j ∨ q = 0 ∧ j = 5 ∨ q = 1 ∧ j = 1
def tc_Sg (v q j : Nat) : Prop := tc_Sb v q j ∨ q = 38 ∧ (j = 2 ∨ j = 8) ∨ q = 39 ∨ q = 72 ∧ j = 2 ∨ q = 86 ∨ q = 76 ∧ (j = 2 ∨ j = 8 ∨ j = 13 ∨ j = 15)
theorem tc_read {w p3 n : Nat} {b : Nat → Nat} {σ : rx_St} (hw : w ≤ 1) (hb : tc_bytes b n σ) (hW : tc_words σ) (hq : ∃ q, q ≤ 21 ∧ σ.1 35 6 = nI q) :
    tw_ok (f_c_read w p3 σ) (fun y => y.2.1.1 1 1 = nI 0 ∧ (∃ q, q ≤ 21 ∧ y.2.1.1 35 6 = nI q)
      ∧ (∀ m, ty_R (tw_sc b n n 0) n = some m → y.1 = nI m.2 ∧ y.2.1.1 0 5 = nI m.1 ∧ 1 ≤ m.2 ∧ m.2 < 8 ∧ m.1 ≤ 2000 ∧ tw_fr (tc_Sb (1 - w)) σ y.2.1 ∧ ∃ p, (p = p3 ∨ p = 21 - 14 * w) ∧ y.2.2 = [(7 + 14 * w), (21 - 14 * w), (21 - 14 * w), p, (7 + 14 * w)])
      ∧ (ty_R (tw_sc b n n 0) n = none → y.1 = nI 0 ∧ y.2.1.1 0 5 = -nI 1 ∧ tw_fr (tc_Sg (1 - w)) σ y.2.1 ∧ y.2.2 = [(21 - 14 * w), (7 + 14 * w), (21 - 14 * w), (21 - 14 * w), (21 - 14 * w)]
        ∧ (ty_P (tw_sc b n n 0)).1.1 = 0 ∧ ty_vP (tw_sc b n n 0) (ty_P (tw_sc b n n 0)).2 ∧ ty_Kso (ty_P (tw_sc b n n 0)).2.2 ∧ ty_mn (tw_sc b n n 0) n none (tz_E (tw_sc b n n 0) (ty_P (tw_sc b n n 0)).2) = none
        ∧ tz_wr (1 - w) (tw_sc b n n 0) (ty_P (tw_sc b n n 0)).2 y.2.1 ∧ tz_cd2 (1 - w) (tz_kD (tw_sc b n n 0) (ty_P (tw_sc b n n 0)).2 0 0 (ty_P (tw_sc b n n 0)).2.2) y.2.1
        ∧ y.2.1.1 (7 + 14 * (1 - w)) 13 = tw_B (tz_cnt (tz_kcs 0 (ty_P (tw_sc b n n 0)).2.2))
        ∧ (y.2.1.1 38 2 = nI 0 ∧ y.2.1.1 38 8 = σ.1 38 8 + nI 1 ∧ ∀ i, i < (ty_P (tw_sc b n n 0)).2.1.length → y.2.1.1 39 i = y.2.1.1 (8 + 14 * (1 - w)) i)
        ∧ y.2.1.1 72 2 = nI 0 ∧ y.2.1.1 76 2 = nI 0 ∧ y.2.1.1 76 8 = nI 0 ∧ y.2.1.1 76 13 = nI 1)) := by
  have v1 : 1 - w ≤ 1 := by omega
  have n2 := hb.2.1
  have hP := fun i => tw_sc_Pl (b := b) n2 i
  unfold f_c_read
  refine tw_b (tc_scan hb hW) (fun σ1 g => ?_)
  obtain ⟨f1, t1⟩ := g
  generalize hT : tw_sc b n n 0 = T at t1 hP ⊢
  have ht1 : tz_tk T n σ1 := ⟨t1, fun i x hx => by rw [← hT] at hx; exact (tw_sc_ok b n n 0 x (List.mem_of_getElem? hx)).1⟩
  obtain ⟨q, q1, q2⟩ := hq
  refine tw_b (tz_parse v1 ht1 ⟨q, q1, (f1.i (by unfold tc_Sk; omega)).trans q2⟩) (fun y g => ?_)
  obtain ⟨y1, f2, ks, ⟨⟨p1, p2, ⟨c', q', p3', p4, p5, p6⟩, p7⟩, -, p8⟩⟩ := g
  rw [tz_faultPlace p1 p2, Option.bind_some]
  have s2 : (ty_P T).1.1 ≤ 2 := p2.2.2.1
  rw [y1]
  have fA : ∀ a : Int32, tw_fr (tc_Sb (1 - w)) σ (rx_si y.2 0 5 a) := fun a => ((f1.mn (fun q j z => Or.inl z)).tr (f2.mn (fun q j z => Or.inr (Or.inl z)))).si (Or.inr (Or.inr (Or.inr (Or.inl ⟨rfl, rfl⟩))))
  have nf : ∀ a, a < 3 → (nI a = (0 : Int32)) = (a = 0) := fun a ha => tw_eq (b := 0) (by omega) (by omega)
  by_cases c : (ty_P T).1.1 = 0
  · rw [if_pos (show nI (ty_P T).1.1 = (0 : Int32) by rw [c]; rfl), if_pos c]
    have hU : ty_vP T (ty_P T).2 := ty_P_v ht1.2 c
    obtain ⟨w1, w2, w3, w4⟩ := p8 c
    obtain ⟨⟨k1, k2, k3, k4⟩, -⟩ := p7 c
    have g0 : tw_fr (fun q j => q = 0 ∧ j = 5) y.2 (rx_si y.2 0 5 (-1 : Int32)) := tw_fr.rf.si ⟨rfl, rfl⟩
    have hwr : tz_wr (1 - w) T (ty_P T).2 (rx_si y.2 0 5 (-1 : Int32)) := tz_wr.fr ⟨w1, w2, w3, w4⟩ (fun q j a => g0.i (by omega))
    have hcd : tz_cd2 (1 - w) (tz_kcs 0 (ty_P T).2.2) (rx_si y.2 0 5 (-1 : Int32)) := tz_cd2.fr ⟨k1, k2, k4⟩ (fun q j a => g0.i (by omega))
    have htk : tz_tk T n (rx_si y.2 0 5 (-1 : Int32)) := p1.fr (fun q j a b => ⟨g0.i (by omega), g0.l (by omega)⟩)
    refine tw_b (tz_check v1 hP hU htk hwr hcd) (fun z g => ?_)
    obtain ⟨z1, fz, hz⟩ := g
    have eR : ty_R T n = ty_mn T n none (tz_E T (ty_P T).2) := by unfold ty_R; rw [if_pos c]
    have fB : ∀ a b : Int32, tw_fr (tc_Sb (1 - w)) σ (rx_si (rx_si z.2 0 5 a) 1 1 b) := fun a b => (((fA (-1)).tr (fz.mn (fun q j x => Or.inr (Or.inr (Or.inl x))))).si (Or.inr (Or.inr (Or.inr (Or.inl ⟨rfl, rfl⟩))))).si (Or.inr (Or.inr (Or.inr (Or.inr ⟨rfl, rfl⟩))))
    have h35 : ∀ a b : Int32, (rx_si (rx_si z.2 0 5 a) 1 1 b).1 35 6 = nI q' := fun a b => by
      rw [tw_r1n _ _ (by omega), tw_r1n _ _ (by omega), fz.i (by unfold tz_SC tz_S37; omega), tw_r1n _ _ (by omega)]
      exact p5
    rw [z1, eR]
    obtain ⟨-, hz2, hz3, hz4⟩ := hz
    unfold f_chk_faultPlace
    show tw_ok (if z.2.1 37 2 = (0 : Int32) then ((f_tow_moveTo (1 - w) (rx_si (rx_si z.2 0 5 (z.2.1 37 3)) 1 1 (0 : Int32))).bind fun y5 => (f_gri_empty (rx_si y5 72 2 (0 : Int32))).bind fun y6 => some (z.2.1 37 2, (y6, [(21 - 14 * w), (7 + 14 * w), (21 - 14 * w), (21 - 14 * w), (21 - 14 * w)]))) else some (z.2.1 37 2, (rx_si (rx_si z.2 0 5 (z.2.1 37 3)) 1 1 (0 : Int32), [(7 + 14 * w), (21 - 14 * w), (21 - 14 * w), (21 - 14 * w), (7 + 14 * w)]))) _
    cases e : ty_mn T n none (tz_E T (ty_P T).2) with
    | none =>
      rw [e] at hz4
      obtain ⟨e1, e2⟩ := hz4
      rw [e1, e2, if_pos (show nI 0 = (0 : Int32) from rfl)]
      have g1 : tw_fr (fun q j => q = 0 ∧ j = 5 ∨ q = 1 ∧ j = 1) z.2 (rx_si (rx_si z.2 0 5 (-nI 1)) 1 1 (0 : Int32)) := (tw_fr.rf.si (Or.inl ⟨rfl, rfl⟩)).si (Or.inr ⟨rfl, rfl⟩)
      refine tw_b (tc_moveTo (m := (ty_P T).2.1.length) ((g1.i (by omega)).trans hz2.1.1) hz2.1.2.1) (fun σ5 g => ?_)
      obtain ⟨f5, m1, m2, m3⟩ := g
      refine tw_b (tc_empty _) (fun σ6 g => ?_)
      obtain ⟨f6, x1, x2, x3⟩ := g
      rw [tw_some]
      have f7 : tw_fr (fun q j => q = 72 ∧ j = 2) σ5 (rx_si σ5 72 2 (0 : Int32)) := tw_fr.rf.si ⟨rfl, rfl⟩
      have back : ∀ q j, ¬ (q = 0 ∧ j = 5 ∨ q = 1 ∧ j = 1 ∨ q = 38 ∧ (j = 2 ∨ j = 8) ∨ q = 39 ∨ q = 72 ∧ j = 2 ∨ q = 86 ∨ q = 76) → σ6.1 q j = z.2.1 q j := fun q j a => ((f6.i (by omega)).trans (f7.i (by omega))).trans ((f5.i (by omega)).trans (g1.i (by omega)))
      refine ⟨?_, ⟨q', p6, ?_⟩, (fun m hm => (by cases hm)), fun _ => ⟨rfl, ?_, ?_, rfl, ?_, hU, ks, rfl, ?_, ?_, ?_, ⟨?_, ?_, fun i hi => ?_⟩, ?_, x1, x2, x3⟩⟩
      · show σ6.1 1 1 = nI 0
        rw [f6.i (by omega), f7.i (by omega), f5.i (by omega)]
        exact tw_r1s _ _ _ _
      · show σ6.1 35 6 = nI q'
        rw [f6.i (by omega), f7.i (by omega), f5.i (by omega)]
        exact h35 _ _
      · show σ6.1 0 5 = -nI 1
        rw [f6.i (by omega), f7.i (by omega), f5.i (by omega), tw_r1n _ _ (by omega)]
        exact tw_r1s _ _ _ _
      · exact ((((fB _ _).mn (fun q j x => Or.inl x)).tr (f5.mn (fun q j x => Or.inr (by omega)))).tr (f7.mn (fun q j x => Or.inr (by omega)))).tr (f6.mn (fun q j x => Or.inr (by omega)))
      · exact c
      · exact hz2.fr (fun q j a => back q j (by omega))
      · exact hz3.fr (fun q j a => back q j (by omega))
      · show σ6.1 (7 + 14 * (1 - w)) 13 = _
        rw [back _ _ (by omega), fz.i (by unfold tz_SC tz_S37; omega), tw_r1n _ _ (by omega)]
        exact k3
      · show σ6.1 38 2 = nI 0
        rw [f6.i (by omega), f7.i (by omega)]; exact m1
      · show σ6.1 38 8 = σ.1 38 8 + nI 1
        rw [f6.i (by omega), f7.i (by omega), m2, (fB _ _).i (by unfold tc_Sb tc_Sk tz_SP tz_S tz_SC tz_S37; omega)]
      · show σ6.1 39 i = σ6.1 (8 + 14 * (1 - w)) i
        rw [f6.i (by omega), f7.i (by omega), m3 i hi, f6.i (by omega), f7.i (by omega), f5.i (by omega)]
      · show σ6.1 72 2 = nI 0
        rw [f6.i (by omega)]; exact tw_r1s _ _ _ _
    | some m =>
      rw [e] at hz4
      obtain ⟨e1, e2, e3, e4, e5⟩ := hz4
      rw [e1, e2, if_neg (show ¬ nI m.2 = (0 : Int32) by rw [show (0 : Int32) = nI 0 from rfl, tw_eq (by omega) (by omega)]; omega), tw_some]
      refine ⟨tw_r1s _ _ _ _, ⟨q', p6, h35 _ _⟩, fun m' hm => ?_, (fun z => (by cases z))⟩
      cases hm
      refine ⟨rfl, ?_, e3, e4, e5, fB _ _, 21 - 14 * w, Or.inr rfl, rfl⟩
      show (rx_si (rx_si z.2 0 5 (nI m.1)) 1 1 (0 : Int32)).1 0 5 = nI m.1
      rw [tw_r1n _ _ (by omega)]
      exact tw_r1s _ _ _ _
  · rw [if_neg (show ¬ nI (ty_P T).1.1 = (0 : Int32) by rw [nf _ (by omega)]; exact c), if_neg c]
    have eR : ty_R T n = some (ty_Pl T n (ty_P T).1.2, (ty_P T).1.1) := by unfold ty_R; rw [if_neg c]
    rw [eR]
    show tw_ok (if nI (ty_P T).1.1 = (0 : Int32) then _ else some (nI (ty_P T).1.1, (rx_si (rx_si y.2 0 5 (nI (ty_Pl T n (ty_P T).1.2))) 1 1 (0 : Int32), [(7 + 14 * w), (21 - 14 * w), (21 - 14 * w), p3, (7 + 14 * w)]))) _
    rw [if_neg (show ¬ nI (ty_P T).1.1 = (0 : Int32) by rw [nf _ (by omega)]; exact c), tw_some]
    refine ⟨tw_r1s _ _ _ _, ⟨q', p6, ?_⟩, fun m' hm => ?_, (fun z => (by cases z))⟩
    · show (rx_si (rx_si y.2 0 5 (nI (ty_Pl T n (ty_P T).1.2))) 1 1 (0 : Int32)).1 35 6 = nI q'
      rw [tw_r1n _ _ (by omega), tw_r1n _ _ (by omega)]
      exact p5
    · cases hm
      refine ⟨rfl, ?_, by show 1 ≤ (ty_P T).1.1; omega, by show (ty_P T).1.1 < 8; omega, hP _, (fA _).si (Or.inr (Or.inr (Or.inr (Or.inr ⟨rfl, rfl⟩)))), p3, Or.inl rfl, rfl⟩
      show (rx_si (rx_si y.2 0 5 (nI (ty_Pl T n (ty_P T).1.2))) 1 1 (0 : Int32)).1 0 5 = nI (ty_Pl T n (ty_P T).1.2)
      rw [tw_r1n _ _ (by omega)]
      exact tw_r1s _ _ _ _
