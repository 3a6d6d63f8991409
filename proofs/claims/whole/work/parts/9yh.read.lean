/-! READ, on both sides -/
theorem tq_255 (x : Int32) : ∃ b, b < 256 ∧ x &&& (255 : Int32) = nI b := by
  refine ⟨(x.toBitVec &&& 255#32).toNat, ?_, ?_⟩
  · rw [BitVec.toNat_and]
    have : x.toBitVec.toNat &&& (255#32).toNat ≤ (255#32).toNat := Nat.and_le_right
    have e : (255#32).toNat = 255 := rfl
    omega
  · apply Int32.toBitVec_inj.mp
    rw [Int32.toBitVec_and]
    show x.toBitVec &&& 255#32 = BitVec.ofNat 32 (x.toBitVec &&& 255#32).toNat
    rw [BitVec.ofNat_toNat, BitVec.setWidth_eq]
/-- what a reading of the class writes at most -/
def rC1 (w q j : Nat) : Prop := q = 0 ∧ j = 5 ∨ q = 1 ∨ 3 ≤ q ∧ q ≤ 5 ∨ 35 ≤ q ∧ q ≤ 37 ∨ 7 + 14 * (1 - w) ≤ q ∧ q ≤ 20 + 14 * (1 - w)
def rC2 (w q j : Nat) : Prop := rC1 w q j ∨ q = 38 ∧ (j = 2 ∨ j = 8) ∨ q = 39 ∨ q = 72 ∧ j = 2 ∨ q = 86 ∨ q = 76 ∧ (j = 2 ∨ j = 8 ∨ j = 13 ∨ j = 15)
theorem rC1_b {w : Nat} : ∀ q j, tc_Sb (1 - w) q j → rC1 w q j := by
  intro q j h
  unfold rC1
  rcases h with h | h | h | h | h
  · unfold tc_Sk at h; omega
  · rcases h with h | h | h
    · unfold tz_S at h; omega
    · omega
    · omega
  · rcases h with h | h
    · unfold tz_S37 at h; omega
    · omega
  · omega
  · omega
theorem rC2_g {w : Nat} : ∀ q j, tc_Sg (1 - w) q j → rC2 w q j := by
  intro q j h
  rcases h with h | h
  · exact Or.inl (rC1_b q j h)
  · exact Or.inr h
/-- what a reading of the model writes at most -/
def rM1 (q j : Nat) : Prop := q = 87 ∧ (j = 0 ∨ j = 2 ∨ j = 4 ∨ 10 ≤ j ∧ j ≤ 17 ∨ j = 19 ∨ j = 39 ∨ j = 46 ∨ j = 50 ∨ j = 56 ∨ j = 58) ∨ 89 ≤ q ∧ q ≤ 93 ∨ 95 ≤ q ∧ q ≤ 128
def rM2 (q j : Nat) : Prop := rM1 q j ∨ q = 87 ∧ (j = 18 ∨ j = 60 ∨ j = 86 ∨ j = 90 ∨ j = 96) ∨ q = 129
theorem rM1_b {lv : Nat} : ∀ q j, ta_SM lv q j ∧ ¬ (q = 87 ∧ j = 18) → rM1 q j := by
  intro q j h
  obtain ⟨h, n⟩ := h
  unfold rM1
  rcases h with h | h | h
  · omega
  · omega
  · unfold ta_SH at h
    rcases h with h | h | h | h | h | h | h | h | h | h <;> omega
theorem rM2_g {lv : Nat} : ∀ q j, ta_SM lv q j ∨ ta_SZ q j → rM2 q j := by
  intro q j h
  rcases h with h | h
  · by_cases n : q = 87 ∧ j = 18
    · exact Or.inr (Or.inl ⟨n.1, Or.inl n.2⟩)
    · exact Or.inl (rM1_b q j ⟨h, n⟩)
  · unfold ta_SZ at h
    rcases h with h | h
    · by_cases n : j = 17
      · exact Or.inl (Or.inl ⟨h.1, by omega⟩)
      · exact Or.inr (Or.inl ⟨h.1, by omega⟩)
    · exact Or.inr (Or.inr h)
section TBYH
variable {w : Nat} {T : List tw_Tk} {U : ty_Wo} {lv : Nat} {N : tw_N} {dl : Bool} {st : Nat → Int32} {pl : Nat → Nat} {bg : Nat → Int32} {tn : Nat} {cs : List (Nat × Int32)} {sp : List tw_Sp} {se : List tw_Se}
/-- a bad text: THE WORLD stays -/
theorem rC.bad {σ σ1 σ2 : rx_St} {m : Nat} (hw : w ≤ 1) (h : rC w T U lv N pl bg dl st tn cs sp se σ) (f1 : tw_fr (rC1 w) σ σ1) (f2 : tw_fr (fun q j => ta_SM (1 - lv) q j ∧ ¬ (q = 87 ∧ j = 18)) σ1 σ2) (h1 : σ1.1 1 1 = nI 0) (h35 : ∃ q, q ≤ 21 ∧ σ1.1 35 6 = nI q) (h5 : σ1.1 0 5 = nI m) (h17 : σ2.1 87 17 = nI m) (h2 : σ2.1 87 2 = nI 0) : rC w T U lv N pl bg dl st 0 cs sp se σ2 ∧ ∀ q j, q = 76 ∧ (j = 15 ∨ j = 16) ∨ q = 38 ∧ j = 8 ∨ q = 86 → σ2.1 q j = σ.1 q j := by
  have fm := f2.mn rM1_b
  have fA : ∀ q j, ¬ rC1 w q j → ¬ rM1 q j → σ2.1 q j = σ.1 q j ∧ σ2.2 q j = σ.2 q j := fun q j a b => ⟨(fm.i b).trans (f1.i a), (fm.l b).trans (f1.l a)⟩
  obtain ⟨⟨k1, ⟨k2, k3, k4, k5⟩, k6, k7, k8, k9, -⟩, ⟨⟨t1, t2, t3⟩, ⟨t4, t5, t6⟩, t7⟩, b1, b2, b3, b4⟩ := h
  have hl := t5.1
  have s6 := t1.2.2.2.1
  obtain ⟨q, q1, q2⟩ := h35
  have mr : ta_mr lv T U σ2 := k1.fr k3 (fun q j y => by
    have n1 : ¬ rC1 w q j := by
      unfold rC1
      rcases y with y | y | y | y | y | y | y | y <;> omega
    have n2 := (ta_HRn hl y).1
    exact ⟨(f2.i (fun z => n2 z.1)).trans (f1.i n1), (f2.l (fun z => n2 z.1)).trans (f1.l n1)⟩)
  have e18 : σ2.1 87 18 = nI lv := (fA 87 18 (by unfold rC1; omega) (by unfold rM1; omega)).1.trans t5.2.1
  refine ⟨⟨⟨mr, ⟨k2, k3, k4, k5⟩, tz_wr.fr k6 (fun q j y => (fA q j (by unfold rC1; omega) (by unfold rM1; omega)).1), ?_, fun k hk => ?_, fun k hk => ?_, q, q1, ?_⟩, ⟨⟨t1.fr (fun q j a b c => (fA q j (by unfold rC1; omega) (by unfold rM1; omega)).1), tc_WR.fr (fun q j a b => (fA q j (by unfold rC1; omega) (by unfold rM1; omega)).1) t2, fun i hi => ?_⟩, ⟨t4.fr (fun q j a b => (fA q j (by unfold rC1; omega) (by unfold rM1; omega)).1) (fA 87 60 (by unfold rC1; omega) (by unfold rM1; omega)).1 (fA 87 65 (by unfold rC1; omega) (by unfold rM1; omega)).1, ta_MW hl e18 k3 k4 k5 mr, fun i hi => ?_⟩, t7⟩, b1, ⟨⟨?_, h2, Nat.zero_le _⟩, fun j hj => absurd hj (Nat.not_lt_zero _)⟩, b3.fr (fun q j y => (fA q j (by unfold rC1; omega) (by unfold rM1; omega)).1), b4.fr (fun q j y => (fA q j (by unfold rC1; omega) (by unfold rM1; omega)).1)⟩, fun q j y => (fA q j (by unfold rC1; omega) (by unfold rM1; omega)).1⟩
  · rw [h17, fm.i (by unfold rM1; omega)]
    exact h5
  · rw [(fA 6 k (by unfold rC1; omega) (by unfold rM1; omega)).2]; exact k8 k hk
  · rw [(fA 94 k (by unfold rC1; omega) (by unfold rM1; omega)).2]; exact k9 k hk
  · rw [fm.i (by unfold rM1; omega)]; exact q2
  · rw [(fA 39 i (by unfold rC1; omega) (by unfold rM1; omega)).1]; exact t3 i hi
  · rw [(fA 129 i (by unfold rC1; omega) (by unfold rM1; omega)).1]; exact t6 i hi
  · rw [fm.i (by unfold rM1; omega)]; exact h1
/-- a good text: another WORLD, with no ONES -/
theorem rC.good {σ σ1 σ2 : rx_St} {T' : List tw_Tk} {U' : ty_Wo} (hw : w ≤ 1) (h : rC w T U lv N pl bg dl st tn cs sp se σ) (hT : ∀ (i : Nat) (x : tw_Tk), T'[i]? = some x → tw_tkok x) (hU : ty_vP T' U') (hd : ∀ K ∈ U'.2, ty_dK K) (hE : tz_E T' U' = [])
    (f1 : tw_fr (rC2 w) σ σ1) (f2 : tw_fr rM2 σ1 σ2) (h1 : σ1.1 1 1 = nI 0) (h35 : ∃ q, q ≤ 21 ∧ σ1.1 35 6 = nI q) (h5 : σ1.1 0 5 = -nI 1) (h17 : σ2.1 87 17 = -nI 1) (h2 : σ2.1 87 2 = nI 0)
    (hwr : tz_wr (1 - w) T' U' σ1) (hcd : tz_cd2 (1 - w) (tz_kD T' U' 0 0 U'.2) σ1) (h13 : σ1.1 (7 + 14 * (1 - w)) 13 = tw_B (tz_cnt (tz_kcs 0 U'.2))) (h38 : σ1.1 38 2 = nI 0) (h39 : ∀ i, i < U'.1.length → σ1.1 39 i = σ1.1 (8 + 14 * (1 - w)) i) (h72 : σ1.1 72 2 = nI 0) (h76 : σ1.1 76 2 = nI 0 ∧ σ1.1 76 8 = nI 0 ∧ σ1.1 76 13 = nI 1)
    (hmr : ta_mr (1 - lv) T' U' σ2) (h18 : σ2.1 87 18 = nI (1 - lv)) (h87 : σ2.1 87 60 = nI 0 ∧ σ2.1 87 86 = nI 0 ∧ σ2.1 87 90 = nI 0 ∧ σ2.1 87 96 = nI 0) (h129 : ∀ (i : Nat) (x : ty_Se), U'.1[i]? = some x → σ2.1 129 i = nI (ty_V T' x.2)) : rC (1 - w) T' U' (1 - lv) (0, fun _ => 0, fun _ => 0) pl bg dl (fun i => σ2.1 39 i) 0 [] [] [] σ2 := by
  obtain ⟨⟨k1, -, k6, k7, k8, k9, -⟩, ⟨⟨t1, t2, t3⟩, ⟨t4, t5, t6⟩, t7⟩, b1, b2, b3, b4⟩ := h
  have hl := t5.1
  obtain ⟨q, q1, q2⟩ := h35
  have wok := ta_wok hT hU hd hE
  have wr2 : tz_wr (1 - w) T' U' σ2 := tz_wr.fr hwr (fun q j y => f2.i (by unfold rM2 rM1; omega))
  have cd2 : tz_cd2 (1 - w) (tz_kD T' U' 0 0 U'.2) σ2 := tz_cd2.fr hcd (fun q j y => f2.i (by unfold rM2 rM1; omega))
  have e38 : σ2.1 38 2 = nI 0 := (f2.i (by unfold rM2 rM1; omega)).trans h38
  have e387 : σ2.1 38 7 = tw_B dl := ((f2.i (by unfold rM2 rM1; omega)).trans (f1.i (by unfold rC2 rC1; omega))).trans t1.2.2.1
  have e8765 : σ2.1 87 65 = tw_B dl := ((f2.i (by unfold rM2 rM1; omega)).trans (f1.i (by unfold rC2 rC1; omega))).trans t4.2.2.1
  refine ⟨⟨hmr, ⟨hT, hU, hd, hE⟩, wr2, ?_, fun k hk => ?_, fun k hk => ?_, q, q1, ?_⟩, ⟨⟨⟨⟨e38, Nat.zero_le _⟩, fun q hq => absurd hq (Nat.not_lt_zero _), e387, wok⟩, ta_WR hT hU hd hE wr2 cd2 ((f2.i (by unfold rM2 rM1; omega)).trans h13), fun i hi => rfl⟩, ⟨⟨⟨h87.1, Nat.zero_le _⟩, fun q hq => absurd hq (Nat.not_lt_zero _), e8765, wok⟩, ta_MW (by omega) h18 hU hd hE hmr, fun i hi => ?_⟩, by omega⟩, ⟨fun q hq => absurd hq (Nat.not_lt_zero _), fun q v hq => absurd hq (Nat.not_lt_zero _)⟩, ⟨⟨?_, h2, Nat.zero_le _⟩, fun j hj => absurd hj (Nat.not_lt_zero _)⟩, ⟨⟨(f2.i (by unfold rM2 rM1; omega)).trans h72, h87.2.1, Nat.zero_le _⟩, fun i p hp => by cases hp⟩, ⟨⟨⟨Nat.zero_le _, by decide, by decide, fun i x hx => by cases hx⟩, Nat.zero_le _, fun i x hx => by cases hx⟩, ⟨⟨(f2.i (by unfold rM2 rM1; omega)).trans h76.2.1, (f2.i (by unfold rM2 rM1; omega)).trans h76.2.2, fun i x hx => by cases hx⟩, (f2.i (by unfold rM2 rM1; omega)).trans h76.1, fun i x hx => by cases hx⟩, ⟨⟨h87.2.2.2, fun i x hx => by cases hx⟩, h87.2.2.1, fun i x hx => by cases hx⟩⟩⟩
  · rw [h17, f2.i (by unfold rM2 rM1; omega)]
    exact h5
  · rw [f2.l (by unfold rM2 rM1; omega), f1.l (by unfold rC2 rC1; omega)]; exact k8 k hk
  · rw [f2.l (by unfold rM2 rM1; omega), f1.l (by unfold rC2 rC1; omega)]; exact k9 k hk
  · rw [f2.i (by unfold rM2 rM1; omega)]; exact q2
  · have hi : i < (U'.1.map (fun x => nI (ty_V T' x.2))).length := hi
    rw [List.length_map] at hi
    have hx : U'.1[i]? = some U'.1[i] := List.getElem?_eq_getElem hi
    have e := (hwr.1.2.2 i _ hx).2
    show σ2.1 129 i = σ2.1 39 i
    rw [h129 i _ hx, f2.i (show ¬ rM2 39 i by unfold rM2 rM1; omega), h39 i hi]
    exact e.symm
  · rw [f2.i (by unfold rM2 rM1; omega)]; exact h1
theorem rI.read {n x p2 p3 : Nat} {σ : rx_St} (xs : Nat → Int32) (v : Int32) (hw : w = 0 ∨ w = 1) (h : rC w T U lv N pl bg dl st tn cs sp se σ) (ht : tq_try w (ta_Wo T U) N dl st pl bg sp se x σ) (hx : x + (n + 1) ≤ 512) : ∃ w' p2' p3' σ', (w' = 0 ∨ w' = 1) ∧ rw_s2 xs v w p2 p3 σ w' p2' p3' 0 σ' ∧ rI n w' p2' p3' σ' := by
  have w1 : w ≤ 1 := by omega
  obtain ⟨k, t, b1, b2, b3, b4⟩ := id h
  have hl := t.2.1.2.1.1
  have e18 := t.2.1.2.1.2.1
  obtain ⟨⟨a1, a2, a3⟩, a4⟩ := b2
  have hb : ∀ j, j < tn → σ.1 2 j = nI ((fun j => (σ.1 2 j).toNatClampNeg) j) ∧ (fun j => (σ.1 2 j).toNatClampNeg) j < 256 := fun j hj => by
    obtain ⟨b, b256, e⟩ := tq_255 (σ.1 88 j)
    rw [a4 j hj] at e
    show σ.1 2 j = nI (σ.1 2 j).toNatClampNeg ∧ (σ.1 2 j).toNatClampNeg < 256
    rw [e, nI_clamp (by omega)]
    exact ⟨rfl, b256⟩
  generalize (fun j => (σ.1 2 j).toNatClampNeg) = b at hb
  obtain ⟨o1, e1, q1, q35, hbad, hgood⟩ := tc_read (p3 := p3) w1 ⟨a1, a3, hb⟩ k.2.2.2.2.1 k.2.2.2.2.2.2
  have hT' : ∀ (i : Nat) (x : tw_Tk), (tw_sc b tn tn 0)[i]? = some x → tw_tkok x := fun i x hx => (tw_sc_ok b tn tn 0 x (List.mem_of_getElem? hx)).1
  have eRo := ta_Ro_eq (T := tw_sc b tn tn 0) (lv := 1 - lv) (n := tn) hT'
  -- the model's side, behind the class's
  have model := fun (f : tw_fr (rC2 w) σ o1.2.1) => tm_read (σ := o1.2.1) (n := tn) (lv := 1 - lv) (b := b) (by omega) (by rw [f.i (by unfold rC2 rC1; omega), e18, show 1 - (1 - lv) = lv by omega]) (by rw [f.i (by unfold rC2 rC1; omega)]; exact a2) a3 (fun j hj => by
    rw [f.i (by unfold rC2 rC1; omega), a4 j hj]
    exact hb j hj) (fun i hi => by rw [f.l (by unfold rC2 rC1; omega)]; exact k.2.2.2.2.2.1 i hi)
  generalize hT : tw_sc b tn tn 0 = T' at hbad hgood hT' eRo model
  cases eR : ty_R T' tn with
  | some m =>
    obtain ⟨c1, c2, -, -, -, f1, p, -, c3⟩ := hbad m eR
    have f1' := f1.mn rC1_b
    obtain ⟨o2, e2, r2, mb, -⟩ := model (f1'.mn (fun q j y => Or.inl y))
    obtain ⟨d1, d2, f2⟩ := mb m (by rw [eRo]; exact eR)
    obtain ⟨g1, g2⟩ := h.bad w1 f1' f2 q1 q35 c2 d2 r2
    exact ⟨w, 21 - 14 * w, p, o2.2, hw, ⟨o1, o2, e1, e2, c1.trans d1.symm, rfl, c3, hw, rfl⟩, rI.of g1 (ht.fr (fun q j y => g2 q j y)) (by omega)⟩
  | none =>
    obtain ⟨c1, c2, f1, c3, c4, c5, -, c6, c7, c8, c9, ⟨u1, u2, u3⟩, u4, u5, u6, u7⟩ := hgood eR
    have f1' := f1.mn rC2_g
    obtain ⟨o2, e2, r2, -, mg⟩ := model f1'
    obtain ⟨d1, d2, d3, f2, d4, d5, d6⟩ := mg (by rw [eRo]; exact eR)
    have f2' := f2.mn rM2_g
    have hE := (ty_mn_spec T' tn _ _).1 c6
    have g := h.good w1 hT' c5 (ty_P_d hT' c4) hE.2 f1' f2' q1 q35 c2 d2 r2 c7 c8 c9 u1 u3 u4 ⟨u5, u6, u7⟩ d6 d3 d4 d5
    refine ⟨1 - w, 21 - 14 * w, 21 - 14 * w, o2.2, by omega, ⟨o1, o2, e1, e2, c1.trans d1.symm, rfl, ?_, by omega, rfl⟩, rI.of (x := x + 1) g (ht.on (by omega) ?_ ?_) (by omega)⟩
    · rw [c3]
      rcases hw with rfl | rfl <;> rfl
    · rw [f2'.i (by unfold rM2 rM1; omega)]; exact u2
    · rw [f2'.i (by unfold rM2 rM1; omega), f1'.i (by unfold rC2 rC1; omega)]
end TBYH
