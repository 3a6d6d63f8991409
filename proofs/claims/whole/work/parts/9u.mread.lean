/-! THE MODEL READS: the whole method -/
theorem tq_nar (x : Int32) : vp_nar .byte x &&& (255 : Int32) = x &&& (255 : Int32) := by
  show Int8.toInt32 (Int32.toInt8 x) &&& (255 : Int32) = _
  apply Int32.toBitVec_inj.mp
  have key := tq_byte_ext x.toBitVec 0 (Or.inl rfl)
  rw [BitVec.sshiftRight_zero, BitVec.ushiftRight_zero] at key
  rw [Int32.toBitVec_and, Int32.toBitVec_and, Int8.toBitVec_toInt32, Int32.toBitVec_toInt8]
  rw [show ∀ x : BitVec 32, x.signExtend 8 = x.setWidth 8 from fun x => BitVec.signExtend_eq_setWidth_of_le x (by decide)]
  exact key
/-- all that is amiss, as the model comes upon it -/
def ta_me (T : List tw_Tk) (U : ty_Wo) (lv : Nat) : List (Nat × Nat) := ta_se T [] U.1 ++ (ta_kE T lv (ty_sn U) [] U.2 ++ (ta_kQ lv (ty_sn U) 0 0 U.2).flatMap (ta_qe T U lv))
def ta_Ro (T : List tw_Tk) (n lv : Nat) : Option (Nat × Nat) := if (ty_P T).1.1 = 0 then ty_mn T n none (ta_me T (ty_P T).2 lv) else some (ty_Pl T n (ty_P T).1.2, (ty_P T).1.1)
def ta_lq (lv : Nat) (L : List ta_Lr) (σ : rx_St) : Prop := ∀ (p : Nat) (x : ta_Lr), L[p]? = some x → σ.1 114 (250 * lv + p) = nI x.2.2.1 ∧ σ.1 115 (250 * lv + p) = tw_B x.2.1 ∧ σ.1 116 (250 * lv + p) = tw_B x.1 ∧ σ.1 117 (250 * lv + p) = nI (700 * lv + x.2.2.2.1) ∧ σ.1 118 (250 * lv + p) = nI (700 * lv + x.2.2.2.2.1) ∧ σ.1 119 (250 * lv + p) = nI (700 * lv + x.2.2.2.2.2)
/-- the rows of what was told, its questions answered -/
def ta_mr (lv : Nat) (T : List tw_Tk) (U : ty_Wo) (σ : rx_St) : Prop := ta_sn lv T (ty_sn U) σ ∧ ta_sv lv T U.1 σ ∧ ta_kn lv T (ty_kn U) σ ∧ ta_kr lv T (ty_sn U) σ 0 0 0 U.2 ∧ ta_lq lv (ta_kL 0 U.2) σ
  ∧ (∀ (p : Nat) (x : tz_Cd), (ta_kC T lv (ty_sn U) 0 U.2)[p]? = some x → σ.1 120 (700 * lv + p) = nI x.1 ∧ ((∀ y ∈ ta_kQ lv (ty_sn U) 0 0 U.2, y.1 ≠ 2 → y.2.1 ≠ 700 * lv + p) → σ.1 121 (700 * lv + p) = x.2.1 ∧ σ.1 122 (700 * lv + p) = x.2.2))
  ∧ (∀ x ∈ ta_kQ lv (ty_sn U) 0 0 U.2, ta_qr T U x σ)
  ∧ ta_kz U.2 ≤ 500 ∧ (ta_kL 0 U.2).length ≤ 250
/-- what it writes -/
def ta_SM (lv q j : Nat) : Prop := q = 87 ∧ (j = 0 ∨ j = 2 ∨ j = 4 ∨ 10 ≤ j ∧ j ≤ 19 ∨ j = 39 ∨ j = 46 ∨ j = 50 ∨ j = 56 ∨ j = 58) ∨ 89 ≤ q ∧ q ≤ 93 ∨ ta_SH lv q j
section TBU
variable {n lv : Nat} {b : Nat → Nat}
theorem ta_read0 {P : Int32 × rx_St → Prop} {σ : rx_St} (hl : lv ≤ 1) (h18 : σ.1 87 18 = nI (1 - lv)) (h2 : σ.1 87 2 = nI n) (hn : n ≤ 2000) (hb : ∀ j, j < n → (σ.1 88 j &&& (255 : Int32)) = nI (b j) ∧ b j < 256) (hK : tm_keys σ)
    (k : ∀ σ', tw_fr (fun q j => q = 87 ∧ (j = 0 ∨ j = 2 ∨ j = 4 ∨ 10 ≤ j ∧ j ≤ 19 ∧ j ≠ 18 ∧ j ≠ 17 ∨ j = 39 ∨ j = 46 ∨ j = 50) ∨ 89 ≤ q ∧ q ≤ 93 ∨ (q = 95 ∨ q = 98) ∧ j = lv) σ σ' → σ'.1 87 2 = nI 0 → ta_si lv (tw_sc b n n 0) n (0, 0) [] [] none [] [] σ' → tw_ok (f_m_read_129 rx_fu σ') P) : tw_ok (f_m_read σ) P := by
  unfold f_m_read
  have g1 : tw_fr (fun q j => q = 87 ∧ (j = 0 ∨ j = 4)) σ (rx_si (rx_si σ 87 0 (0 : Int32)) 87 4 ((rx_si σ 87 0 (0 : Int32)).1 87 2)) := (tw_fr.rf.si (by omega)).si (by omega)
  have e4 : (rx_si (rx_si σ 87 0 (0 : Int32)) 87 4 ((rx_si σ 87 0 (0 : Int32)).1 87 2)).1 87 4 = nI n := by rw [tw_r1s, tw_r1n _ _ (by omega)]; exact h2
  show tw_ok (f_m_read_15 rx_fu (nI 0) (rx_si (rx_si σ 87 0 (0 : Int32)) 87 4 ((rx_si σ 87 0 (0 : Int32)).1 87 2))) P
  generalize rx_si (rx_si σ 87 0 (0 : Int32)) 87 4 ((rx_si σ 87 0 (0 : Int32)).1 87 2) = σ0 at g1 e4 ⊢
  -- behind the copy
  have fin : ∀ (m : Nat) (σ1 : rx_St), tw_fr (fun q j => q = 89) σ0 σ1 → (∀ j, j < n → (σ1.1 89 j &&& (255 : Int32)) = nI (b j) ∧ b j < 256) → tw_ok (f_m_read_15 (m + 1) (nI n) σ1) P := by
    intro m σ1 f1 hb1
    unfold f_m_read_15
    rw [f1.i (show ¬ 87 = 89 by decide), e4, if_pos (tp_yl (by omega) (by omega) (Nat.le_refl _))]
    show tw_ok ((f_m_cut (rx_si σ1 87 2 (0 : Int32))).bind _) P
    have g2 : tw_fr (fun q j => q = 87 ∧ (j = 0 ∨ j = 2 ∨ j = 4) ∨ q = 89) σ (rx_si σ1 87 2 (0 : Int32)) := ((g1.mn (fun q j y => by omega)).tr (f1.mn (fun q j y => by omega))).si (by omega)
    have hB : tm_bytes b n (rx_si σ1 87 2 (0 : Int32)) := by
      refine ⟨?_, hn, fun j hj => ?_⟩
      · rw [tw_r1n _ _ (by omega), f1.i (by omega)]; exact e4
      · rw [tw_r1n _ _ (by omega)]; exact hb1 j hj
    have e2 : (rx_si σ1 87 2 (0 : Int32)).1 87 2 = nI 0 := tw_r1s _ _ _ _
    generalize rx_si σ1 87 2 (0 : Int32) = σ2 at g2 hB e2 ⊢
    refine tw_b (tm_cut hB (fun i hi => (g2.l (by omega)).trans (hK i hi))) (fun σ3 g => ?_)
    obtain ⟨f3, tk⟩ := g
    have g3 : tw_fr (fun q j => q = 87 ∧ (j = 0 ∨ j = 2 ∨ j = 4 ∨ j = 10) ∨ 89 ≤ q ∧ q ≤ 93) σ σ3 := (g2.mn (fun q j y => by omega)).tr (f3.mn (fun q j y => by unfold tm_Sk at y; omega))
    have y2 : σ3.1 87 2 = nI 0 := (f3.i (by unfold tm_Sk; omega)).trans e2
    have y18 : σ3.1 87 18 = nI (1 - lv) := (g3.i (by omega)).trans h18
    show tw_ok (
    let σ6 : rx_St := rx_si (rx_si (rx_si (rx_si (rx_si σ3 87 11 (0 : Int32)) 87 12 (0 : Int32)) 87 13 (0 : Int32)) 87 15 (0 : Int32)) 87 19 ((1 : Int32) - ((rx_si (rx_si (rx_si (rx_si σ3 87 11 (0 : Int32)) 87 12 (0 : Int32)) 87 13 (0 : Int32)) 87 15 (0 : Int32)).1 87 18));
    rx_g (σ6.1 87 19) 2 (
    let σ7 : rx_St := rx_si σ6 95 (σ6.1 87 19).toNatClampNeg (0 : Int32);
    rx_g (σ7.1 87 19) 2 (
    let σ8 : rx_St := rx_si σ7 98 (σ7.1 87 19).toNatClampNeg (0 : Int32);
    let σ9 : rx_St := rx_si σ8 87 46 ((700 : Int32) * (σ8.1 87 19));
    let σ10 : rx_St := rx_si σ9 87 39 ((250 : Int32) * (σ9.1 87 19));
    let σ11 : rx_St := rx_si σ10 87 50 (0 : Int32);
    f_m_read_129 rx_fu σ11))) P
    generalize hσ4 : rx_si (rx_si (rx_si (rx_si σ3 87 11 (0 : Int32)) 87 12 (0 : Int32)) 87 13 (0 : Int32)) 87 15 (0 : Int32) = σ4
    have f4 : tw_fr (fun q j => q = 87 ∧ (j = 11 ∨ j = 12 ∨ j = 13 ∨ j = 15)) σ3 σ4 := by
      rw [← hσ4]
      exact (((tw_fr.rf.si (by omega)).si (by omega)).si (by omega)).si (by omega)
    have z11 : σ4.1 87 11 = nI 0 := by rw [← hσ4, tw_r1n _ _ (by omega), tw_r1n _ _ (by omega), tw_r1n _ _ (by omega), tw_r1s]; rfl
    have z12 : σ4.1 87 12 = nI 0 := by rw [← hσ4, tw_r1n _ _ (by omega), tw_r1n _ _ (by omega), tw_r1s]; rfl
    have z13 : σ4.1 87 13 = nI 0 := by rw [← hσ4, tw_r1n _ _ (by omega), tw_r1s]; rfl
    have z15 : σ4.1 87 15 = nI 0 := by rw [← hσ4, tw_r1s]; rfl
    have z18 : σ4.1 87 18 = nI (1 - lv) := (f4.i (by omega)).trans y18
    rw [z18, show (1 : Int32) - nI (1 - lv) = nI lv by rw [show (1 : Int32) = nI 1 from rfl, tw_sub (by omega), show 1 - (1 - lv) = lv by omega]]
    show tw_ok (
    rx_g ((rx_si σ4 87 19 (nI lv)).1 87 19) 2 (
    let σ7 : rx_St := rx_si (rx_si σ4 87 19 (nI lv)) 95 ((rx_si σ4 87 19 (nI lv)).1 87 19).toNatClampNeg (0 : Int32);
    rx_g (σ7.1 87 19) 2 (
    let σ8 : rx_St := rx_si σ7 98 (σ7.1 87 19).toNatClampNeg (0 : Int32);
    let σ9 : rx_St := rx_si σ8 87 46 ((700 : Int32) * (σ8.1 87 19));
    let σ10 : rx_St := rx_si σ9 87 39 ((250 : Int32) * (σ9.1 87 19));
    let σ11 : rx_St := rx_si σ10 87 50 (0 : Int32);
    f_m_read_129 rx_fu σ11))) P
    generalize hσ6 : rx_si σ4 87 19 (nI lv) = σ6
    have f6 : tw_fr (fun q j => q = 87 ∧ j = 19) σ4 σ6 := by rw [← hσ6]; exact tw_fr.rf.si ⟨rfl, rfl⟩
    have w19 : σ6.1 87 19 = nI lv := by rw [← hσ6, tw_r1s]
    rw [w19]
    refine tw_g (vp_in_nI (by omega) (by decide)) ?_
    rw [nI_clamp (by omega)]
    show tw_ok (
    rx_g ((rx_si σ6 95 lv (0 : Int32)).1 87 19) 2 (
    let σ8 : rx_St := rx_si (rx_si σ6 95 lv (0 : Int32)) 98 ((rx_si σ6 95 lv (0 : Int32)).1 87 19).toNatClampNeg (0 : Int32);
    let σ9 : rx_St := rx_si σ8 87 46 ((700 : Int32) * (σ8.1 87 19));
    let σ10 : rx_St := rx_si σ9 87 39 ((250 : Int32) * (σ9.1 87 19));
    let σ11 : rx_St := rx_si σ10 87 50 (0 : Int32);
    f_m_read_129 rx_fu σ11)) P
    generalize hσ7 : rx_si σ6 95 lv (0 : Int32) = σ7
    have f7 : tw_fr (fun q j => q = 95 ∧ j = lv) σ6 σ7 := by rw [← hσ7]; exact tw_fr.rf.si ⟨rfl, rfl⟩
    have v95 : σ7.1 95 lv = nI 0 := by rw [← hσ7, tw_r1s]; rfl
    have v19 : σ7.1 87 19 = nI lv := (f7.i (by omega)).trans w19
    rw [v19]
    refine tw_g (vp_in_nI (by omega) (by decide)) ?_
    rw [nI_clamp (by omega)]
    show tw_ok (f_m_read_129 rx_fu (rx_si (rx_si (rx_si (rx_si σ7 98 lv (0 : Int32)) 87 46 ((700 : Int32) * ((rx_si σ7 98 lv (0 : Int32)).1 87 19))) 87 39 ((250 : Int32) * ((rx_si (rx_si σ7 98 lv (0 : Int32)) 87 46 ((700 : Int32) * ((rx_si σ7 98 lv (0 : Int32)).1 87 19))).1 87 19))) 87 50 (0 : Int32))) P
    generalize hσ8 : rx_si σ7 98 lv (0 : Int32) = σ8
    have f8 : tw_fr (fun q j => q = 98 ∧ j = lv) σ7 σ8 := by rw [← hσ8]; exact tw_fr.rf.si ⟨rfl, rfl⟩
    have u98 : σ8.1 98 lv = nI 0 := by rw [← hσ8, tw_r1s]; rfl
    have u19 : σ8.1 87 19 = nI lv := (f8.i (by omega)).trans v19
    generalize hσ9 : rx_si σ8 87 46 ((700 : Int32) * (σ8.1 87 19)) = σ9
    have f9 : tw_fr (fun q j => q = 87 ∧ j = 46) σ8 σ9 := by rw [← hσ9]; exact tw_fr.rf.si ⟨rfl, rfl⟩
    have t46 : σ9.1 87 46 = nI (700 * lv) := by rw [← hσ9, tw_r1s, u19, show (700 : Int32) = nI 700 from rfl, pk_mul]
    have t19 : σ9.1 87 19 = nI lv := (f9.i (by omega)).trans u19
    have f11 : tw_fr (fun q j => q = 87 ∧ (j = 39 ∨ j = 50)) σ9 (rx_si (rx_si σ9 87 39 ((250 : Int32) * (σ9.1 87 19))) 87 50 (0 : Int32)) := (tw_fr.rf.si (by omega)).si (by omega)
    have x39 : (rx_si (rx_si σ9 87 39 ((250 : Int32) * (σ9.1 87 19))) 87 50 (0 : Int32)).1 87 39 = nI (250 * lv) := by rw [tw_r1n _ _ (by omega), tw_r1s, t19, show (250 : Int32) = nI 250 from rfl, pk_mul]
    have x50 : (rx_si (rx_si σ9 87 39 ((250 : Int32) * (σ9.1 87 19))) 87 50 (0 : Int32)).1 87 50 = nI 0 := tw_r1s _ _ _ _
    generalize rx_si (rx_si σ9 87 39 ((250 : Int32) * (σ9.1 87 19))) 87 50 (0 : Int32) = σ11 at f11 x39 x50 ⊢
    have fB : tw_fr (fun q j => q = 87 ∧ (11 ≤ j ∧ j ≤ 19 ∧ j ≠ 18 ∧ j ≠ 17 ∨ j = 39 ∨ j = 46 ∨ j = 50) ∨ (q = 95 ∨ q = 98) ∧ j = lv) σ3 σ11 := (((((f4.mn (fun q j y => by omega)).tr (f6.mn (fun q j y => by omega))).tr (f7.mn (fun q j y => by omega))).tr (f8.mn (fun q j y => by omega))).tr (f9.mn (fun q j y => by omega))).tr (f11.mn (fun q j y => by omega))
    have a11 : σ11.1 87 11 = nI 0 := by rw [f11.i (by omega), f9.i (by omega), f8.i (by omega), f7.i (by omega), f6.i (by omega)]; exact z11
    have a12 : σ11.1 87 12 = nI 0 := by rw [f11.i (by omega), f9.i (by omega), f8.i (by omega), f7.i (by omega), f6.i (by omega)]; exact z12
    have a13 : σ11.1 87 13 = nI 0 := by rw [f11.i (by omega), f9.i (by omega), f8.i (by omega), f7.i (by omega), f6.i (by omega)]; exact z13
    have a15 : σ11.1 87 15 = nI 0 := by rw [f11.i (by omega), f9.i (by omega), f8.i (by omega), f7.i (by omega), f6.i (by omega)]; exact z15
    have a19 : σ11.1 87 19 = nI lv := by rw [f11.i (by omega)]; exact t19
    have a46 : σ11.1 87 46 = nI (700 * lv) := by rw [f11.i (by omega)]; exact t46
    have a95 : σ11.1 95 lv = nI 0 := by rw [f11.i (by omega), f9.i (by omega), f8.i (by omega)]; exact v95
    have a98 : σ11.1 98 lv = nI 0 := by rw [f11.i (by omega), f9.i (by omega)]; exact u98
    have tk2 : tm_tk (tw_sc b n n 0) n σ11 := tm_tk.fr (σ := σ3) ⟨tk, fun i x hx => (tw_sc_ok b n n 0 x (List.mem_of_getElem? hx)).1⟩ (fun q j a a' => fB q j (by omega))
    refine k σ11 ((g3.mn (fun q j y => by omega)).tr (fB.mn (fun q j y => by omega))) ((fB.i (by omega)).trans y2) ⟨⟨tk2, ⟨a13, ⟨0, by omega, a11, fun _ => rfl⟩, fun z => absurd rfl z, by decide, by decide, Nat.zero_le _⟩, fun _ => ⟨⟨a19, hl⟩, ⟨a95, by decide, fun i t ht => by cases ht⟩, ⟨a98, by decide, fun i t ht => by cases ht⟩, ⟨⟨a46, fun p x hx => by cases hx⟩, ⟨x50, fun p x hx => by cases hx⟩, a15⟩, Nat.le_refl _, a12, x39, fun p x hx => by cases hx⟩⟩, fun _ i x hx => by cases hx⟩
  have main : ∀ (m i : Nat) (σ1 : rx_St), i ≤ n → n - i < m → tw_fr (fun q j => q = 89) σ0 σ1 → (∀ j, j < i → (σ1.1 89 j &&& (255 : Int32)) = nI (b j) ∧ b j < 256) → tw_ok (f_m_read_15 m (nI i) σ1) P := by
    intro m
    induction m with
    | zero => intro i σ1 _ h; exact absurd h (Nat.not_lt_zero _)
    | succ m ih =>
      intro i σ1 hi hm f h
      by_cases c : i = n
      · subst c
        exact fin m σ1 f h
      · unfold f_m_read_15
        rw [f.i (show ¬ 87 = 89 by decide), e4, if_neg (tp_nl (by omega) (by omega) (by omega))]
        refine tw_g (vp_in_nI (by omega) (by decide)) (tw_g (vp_in_nI (by omega) (by decide)) ?_)
        rw [nI_clamp (by omega), show nI i + (1 : Int32) = nI (i + 1) from nI_add i 1]
        refine ih (i + 1) _ (by omega) (by omega) (f.si rfl) (fun j hj => ?_)
        by_cases e : j = i
        · subst e
          rw [tw_r1s, tq_nar, f.i (show ¬ 88 = 89 by decide), g1.i (by omega)]
          exact hb j (by omega)
        · rw [tw_r1n _ _ (by omega)]
          exact h j (by omega)
  exact main rx_fu 0 σ0 (Nat.zero_le _) (by show _ < 100000; omega) tw_fr.rf (fun j hj => absurd hj (Nat.not_lt_zero _))
/-- the model's READ -/
theorem tm_read {σ : rx_St} (hl : lv ≤ 1) (h18 : σ.1 87 18 = nI (1 - lv)) (h2 : σ.1 87 2 = nI n) (hn : n ≤ 2000) (hb : ∀ j, j < n → (σ.1 88 j &&& (255 : Int32)) = nI (b j) ∧ b j < 256) (hK : tm_keys σ) :
    tw_ok (f_m_read σ) (fun y => y.2.1 87 2 = nI 0 ∧ (∀ m, ta_Ro (tw_sc b n n 0) n lv = some m → y.1 = nI m.2 ∧ y.2.1 87 17 = nI m.1 ∧ tw_fr (fun q j => ta_SM lv q j ∧ ¬ (q = 87 ∧ j = 18)) σ y.2)
      ∧ (ta_Ro (tw_sc b n n 0) n lv = none → y.1 = nI 0 ∧ y.2.1 87 17 = -nI 1 ∧ y.2.1 87 18 = nI lv ∧ tw_fr (fun q j => ta_SM lv q j ∨ ta_SZ q j) σ y.2 ∧ (y.2.1 87 60 = nI 0 ∧ y.2.1 87 86 = nI 0 ∧ y.2.1 87 90 = nI 0 ∧ y.2.1 87 96 = nI 0) ∧ (∀ (i : Nat) (x : ty_Se), (ty_P (tw_sc b n n 0)).2.1[i]? = some x → y.2.1 129 i = nI (ty_V (tw_sc b n n 0) x.2)) ∧ ta_mr lv (tw_sc b n n 0) (ty_P (tw_sc b n n 0)).2 y.2)) := by
  have hP := fun i => tw_sc_Pl (b := b) hn i
  refine ta_read0 hl h18 h2 hn hb hK (fun σ1 f1 e2 h1 => ?_)
  generalize tw_sc b n n 0 = T at hP h1 ⊢
  refine ta_sls (σ0 := σ1) hP 7 rx_fu [] (0, 0) σ1 rfl (by show 7 < 100000; omega) h1 tw_fr.rf (fun σ2 f2 h2' => ?_)
  have f2H := f2.mn (ta_SSH lv)
  have hp : ty_P T = (ty_end T (ty_ks T 6 (ty_ss T 7 (0, 0) []).1 []).1, ((ty_ss T 7 (0, 0) []).2, (ty_ks T 6 (ty_ss T 7 (0, 0) []).1 []).2)) := rfl
  refine ta_kls (lv := lv) (SN := (ty_ss T 7 (0, 0) []).2.map (fun x => x.1)) (acc := ty_mn T n none (ta_se T [] (ty_ss T 7 (0, 0) []).2)) (σ0 := σ2) hP 6 rx_fu [] _ σ2 rfl (by show 6 < 100000; omega) ⟨h2'.1, fun _ => trivial⟩ tw_fr.rf (fun σ3 f3 h3 => ?_)
  have sv3 : (ty_P T).1.1 = 0 → ta_sv lv T (ty_P T).2.1 σ3 := fun z => by
    have z1 : (ty_ks T 6 (ty_ss T 7 (0, 0) []).1 []).1.1 = 0 := by
      have z' : (ty_end T (ty_ks T 6 (ty_ss T 7 (0, 0) []).1 []).1).1 = 0 := z
      unfold ty_end at z'
      by_cases c : (ty_ks T 6 (ty_ss T 7 (0, 0) []).1 []).1.1 = 0 ∧ ty_nx T (ty_ks T 6 (ty_ss T 7 (0, 0) []).1 []).1 ≠ 37
      · exact c.1
      · rw [if_neg c] at z'; exact z'
    have z2 := (ty_ks_v h1.1.1.2 6 _ [] z1).1
    exact (h2'.2 z2).fr (fun j y => f3.i (fun w => w.2 rfl))
  have h3 : ta_os lv T n (ty_P T).1 (ty_sn (ty_P T).2) (ty_mn T n none (ta_se T [] (ty_P T).2.1)) (ty_P T).2.2 σ3 := h3
  have hv : (ty_P T).1.1 = 0 → ty_vP T (ty_P T).2 := fun z => ty_P_v h1.1.1.2 z
  unfold ta_Ro
  generalize ty_P T = W at h3 sv3 hv ⊢
  have sh : ∀ q j, ta_SH lv q j → ta_SM lv q j ∧ ¬ (q = 87 ∧ (j = 17 ∨ j = 18)) ∧ q ≠ 129 := fun q j y => ⟨Or.inr (Or.inr y), by unfold ta_SH at y; omega, by unfold ta_SH at y; omega⟩
  have fA : tw_fr (fun q j => ta_SM lv q j ∧ ¬ (q = 87 ∧ (j = 17 ∨ j = 18)) ∧ q ≠ 129) σ σ3 := ((f1.mn (fun q j y => by
    rcases y with y | y | y
    · exact ⟨Or.inl ⟨y.1, by omega⟩, by omega, by omega⟩
    · exact ⟨Or.inr (Or.inl y), by omega, by omega⟩
    · exact sh q j (ta_J2 y).1)).tr (f2H.mn sh)).tr (f3.mn (fun q j y => sh q j y.1))
  have y2 : σ3.1 87 2 = nI 0 := ((f3.i (by unfold ta_SJ ta_SH; omega)).trans (f2H.i (by unfold ta_SH; omega))).trans e2
  obtain ⟨h4, h5⟩ := h3
  by_cases z : W.1.1 = 0
  · rw [if_pos z]
    have hU := hv z
    obtain ⟨tk, rs, g⟩ := h4
    obtain ⟨⟨h19, -⟩, sn, kn, gd, le, -, lr⟩ := g z
    have kr := h5 z
    have s5 := (rs.p z).2.1
    have u5 : W.2.2.length ≤ 5 := hU.2.2.2
    have l86 : ∀ K ∈ W.2.2, K.2.2.length ≤ 8 ∧ ∀ r ∈ K.2.2, r.2.length ≤ 6 := fun K hK => ⟨(hU.2.2.1 K hK).2.2.2.2, fun r hr => ((hU.2.2.1 K hK).2.2.1 r hr).2.2.1⟩
    have qd := ta_kQ_qd lv (ty_sn W.2) W.2.2 0 0 l86
    have qn := ta_kQ_qn T lv (ty_sn W.2) W.2.2 0 0 hU.2.2.1
    have qk := ta_kQ_kk lv (ty_sn W.2) W.2.2 0 0
    have cl : (ta_kC T lv (ty_sn W.2) 0 W.2.2).length = ta_kz W.2.2 := ta_kC_len ..
    have qw : ta_qw lv T n W.1 W.2 (ta_kQ lv (ty_sn W.2) 0 0 W.2.2) σ3 := ⟨tk, rs, ⟨h19, hl⟩, kn, fun k K hK => by
      have := ta_kr_get W.2.2 0 0 0 k K kr hK
      rw [Nat.zero_add] at this
      exact ⟨this.1, this.2.1⟩, gd.2.1.1, gd.2.1.2⟩
    refine ta_qls (σ0 := σ3) (acc := ty_mn T n (ty_mn T n none (ta_se T [] W.2.1)) (ta_kE T lv (ty_sn W.2) [] W.2.2)) hP hU z (by omega) qn (fun x hx => by have := qk x hx; omega) (fun x hx => ⟨fun c => by have := (qd.2.1 x hx).1 c; omega, fun c => by have := (qd.2.1 x hx).2 c; omega⟩) qd.2.2 (fun σ4 f4 q4 a4 r4 => ?_) rx_fu 0 σ3 (Nat.zero_le _) (by show _ < 100000; omega) tw_fr.rf qw gd.2.2 (fun x hx => by cases hx)
    have f4' : tw_fr (fun q j => q = 87 ∧ (j = 15 ∨ j = 16) ∨ (q = 110 ∨ q = 111 ∨ q = 121 ∨ q = 122)) σ3 σ4 := f4.mn (fun q j y => by
      obtain ⟨x, -, y⟩ := y
      unfold ta_SA ta_S5 at y
      omega)
    have ea : ty_mn T n (ty_mn T n (ty_mn T n none (ta_se T [] W.2.1)) (ta_kE T lv (ty_sn W.2) [] W.2.2)) ((ta_kQ lv (ty_sn W.2) 0 0 W.2.2).flatMap (ta_qe T W.2 lv)) = ty_mn T n none (ta_me T W.2 lv) := by
      unfold ta_me
      rw [ty_mn_app, ty_mn_app]
    rw [ea] at a4
    have sl : (ty_sn W.2).length = W.2.1.length := List.length_map _
    have e95 : σ4.1 95 lv = nI W.2.1.length := by rw [f4'.i (by omega), sn.1, sl]
    refine tw_mono (ta_209 (U := W.2) (acc := ty_mn T n none (ta_me T W.2 lv)) q4.2.1 hl (fun _ => ⟨(f4'.i (by omega)).trans h19, a4, e95, hU.2.1, (sv3 z).fr (fun j y => f4'.i (by omega))⟩)) (fun y g => ?_)
    have eo : ta_o T n W.1 (ty_mn T n none (ta_me T W.2 lv)) = ty_mn T n none (ta_me T W.2 lv) := if_pos z
    rw [eo] at g
    obtain ⟨g1, g2⟩ := g
    have f4H : tw_fr (fun q j => ta_SM lv q j ∧ ¬ (q = 87 ∧ (j = 17 ∨ j = 18)) ∧ q ≠ 129) σ3 σ4 := f4.mn (fun q j y => by
      obtain ⟨x, hx, y⟩ := y
      have bd := qd.2.1 x hx
      unfold ta_SA ta_S5 at y
      rcases y with y | ⟨c, y1, y2⟩ | ⟨c, y1, y2⟩
      · exact sh q j (ta_J1 (by omega)).1
      · have := bd.2 c
        exact sh q j (ta_J7 ⟨by omega, by omega⟩).1
      · have := bd.1 c
        exact sh q j (ta_J9 ⟨by omega, by omega⟩).1)
    have fB := fA.tr f4H
    have w2 : σ4.1 87 2 = nI 0 := (f4'.i (by omega)).trans y2
    refine ⟨?_, fun m hm => ?_, fun hm => ?_⟩
    · cases e : ty_mn T n none (ta_me T W.2 lv) with
      | none => exact ((g2 e).2.2.2.2.2.1.i (by unfold ta_SZ; omega)).trans w2
      | some m => exact ((g1 m e).2.2.i (by omega)).trans w2
    · obtain ⟨k1, k2, k3⟩ := g1 m hm
      exact ⟨k1, k2, (fB.mn (fun q j y => ⟨y.1, by have := y.2.1; omega⟩)).tr (k3.mn (fun q j y => ⟨Or.inl ⟨y.1, by omega⟩, by omega⟩))⟩
    · obtain ⟨-, -, k1, k2, k3, k4, k5, k6⟩ := g2 hm
      have f5 : tw_fr (fun q j => q = 87 ∧ (j = 15 ∨ j = 16 ∨ j = 17 ∨ j = 18 ∨ j = 60 ∨ j = 86 ∨ j = 90 ∨ j = 96) ∨ q = 129 ∨ (q = 110 ∨ q = 111 ∨ q = 121 ∨ q = 122)) σ3 y.2 := (f4'.mn (fun q j y => by omega)).tr (k4.mn (fun q j y => by unfold ta_SZ at y; omega))
      refine ⟨k1, k2, k3, ?_, k5, k6, ?_⟩
      · exact (fB.mn (fun q j y => Or.inl y.1)).tr (k4.mn (fun q j y => Or.inr y))
      · refine ⟨sn.fr (fun q j y => f5 q j (by omega)), (sv3 z).fr (fun j y => f5.i (by omega)), kn.fr (fun q j y => f5 q j (by omega)), ta_kr.fr (e := W.2.2.length) (fun q j y => f5 q j (by omega)) W.2.2 0 0 0 (Nat.zero_add _) kr, (lr.fr (fun q j y => f5.i (by omega))).2, fun p x hx => ?_, fun x hx => ?_, by omega, by omega⟩
        · obtain ⟨c1, c2, c3⟩ := gd.1.2 p x hx
          refine ⟨(f5.i (by omega)).trans c1, fun hno => ?_⟩
          have no : ∀ q, q = 121 ∨ q = 122 → ¬ ta_SB (ta_kQ lv (ty_sn W.2) 0 0 W.2.2) q (700 * lv + p) := fun q hq y => by
            obtain ⟨x', hx', y⟩ := y
            unfold ta_SA ta_S5 at y
            rcases y with y | ⟨-, y, -⟩ | ⟨y1, -, y2⟩
            · omega
            · omega
            · exact hno x' hx' y1 y2.symm
          exact ⟨((k4.i (by unfold ta_SZ; omega)).trans (f4.i (no _ (by omega)))).trans c2, ((k4.i (by unfold ta_SZ; omega)).trans (f4.i (no _ (by omega)))).trans c3⟩
        · intro o w e e'
          obtain ⟨c1, c2⟩ := r4 x hx o w e e'
          exact ⟨fun c => ⟨(k4.i (by unfold ta_SZ; omega)).trans (c1 c).1, (k4.i (by unfold ta_SZ; omega)).trans (c1 c).2⟩, fun c => ⟨(k4.i (by unfold ta_SZ; omega)).trans (c2 c).1, (k4.i (by unfold ta_SZ; omega)).trans (c2 c).2⟩⟩
  · rw [if_neg z]
    have go : tw_ok (f_m_read_209 σ3) (fun y => y.2.1 87 2 = nI 0 ∧ (∀ m, some (ty_Pl T n W.1.2, W.1.1) = some m → y.1 = nI m.2 ∧ y.2.1 87 17 = nI m.1 ∧ tw_fr (fun q j => ta_SM lv q j ∧ ¬ (q = 87 ∧ j = 18)) σ y.2)
      ∧ (some (ty_Pl T n W.1.2, W.1.1) = none → y.1 = nI 0 ∧ y.2.1 87 17 = -nI 1 ∧ y.2.1 87 18 = nI lv ∧ tw_fr (fun q j => ta_SM lv q j ∨ ta_SZ q j) σ y.2 ∧ (y.2.1 87 60 = nI 0 ∧ y.2.1 87 86 = nI 0 ∧ y.2.1 87 90 = nI 0 ∧ y.2.1 87 96 = nI 0) ∧ (∀ (i : Nat) (x : ty_Se), W.2.1[i]? = some x → y.2.1 129 i = nI (ty_V T x.2)) ∧ ta_mr lv T W.2 y.2)) := by
      refine tw_mono (ta_209 (U := W.2) (acc := none) h4.2.1 hl (fun y => absurd y z)) (fun y g => ?_)
      have eo : ta_o T n W.1 none = some (ty_Pl T n W.1.2, W.1.1) := if_neg z
      rw [eo] at g
      obtain ⟨k1, k2, k3⟩ := g.1 _ rfl
      refine ⟨(k3.i (by omega)).trans y2, fun m hm => ?_, fun e => by cases e⟩
      cases hm
      exact ⟨k1, k2, (fA.mn (fun q j y => ⟨y.1, by have := y.2.1; omega⟩)).tr (k3.mn (fun q j y => ⟨Or.inl ⟨y.1, by omega⟩, by omega⟩))⟩
    rw [show rx_fu = 99999 + 1 from rfl]
    unfold f_m_read_183
    by_cases c : σ3.1 87 50 ≤ (0 : Int32)
    · rw [if_pos c]; exact go
    · rw [if_neg c, tw_ifE h4.2.1.z, if_neg z]; exact go
end TBU
