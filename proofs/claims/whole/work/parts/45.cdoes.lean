/-! THE CLASS: what is wished is done; VARS are held -/
theorem tc_floor (x : Int32) : f_j_floorMod x (nI 10) = some (nI (x.toInt % 10).toNat) := by
  have hx := tw_rng x
  have h10 : (nI 10).toInt = 10 := by decide
  have hd := tw_tdiv10 x.toInt
  have hq : (x / nI 10).toInt = x.toInt.tdiv 10 := by
    rw [Int32.toInt_div, h10, tw_bm32 (by omega) (by omega)]
  have hy : (rx_irem x (nI 10)).toInt = x.toInt - x.toInt.tdiv 10 * 10 := by
    unfold rx_irem
    rw [Int32.toInt_sub, Int32.toInt_mul, hq, h10, tw_bm32 (z := x.toInt.tdiv 10 * 10) (by omega) (by omega), tw_bm32 (by omega) (by omega)]
  have hs : (0 : Int32) ≤ (x ^^^ nI 10) ↔ 0 ≤ x.toInt := by
    have a : (x ^^^ nI 10).toBitVec.msb = x.toBitVec.msb := by
      rw [Int32.toBitVec_xor, BitVec.msb_xor, show (nI 10).toBitVec.msb = false by decide, Bool.xor_false]
    rw [BitVec.msb_eq_toInt, BitVec.msb_eq_toInt, Int32.toInt_toBitVec, Int32.toInt_toBitVec] at a
    have b := decide_eq_decide.mp a
    rw [Int32.le_iff_toInt_le, show (0 : Int32).toInt = 0 from rfl]
    omega
  unfold f_j_floorMod
  rw [tw_cE (by decide)]
  by_cases c : 0 ≤ x.toInt
  · rw [if_pos (hs.mpr c)]
    congr 1
    apply Int32.toInt_inj.mp
    rw [hy, nI_toInt (by omega)]
    omega
  · rw [if_neg (fun h => c (hs.mp h))]
    by_cases c2 : rx_irem x (nI 10) = (0 : Int32)
    · rw [if_pos c2]
      have h0 : (rx_irem x (nI 10)).toInt = 0 := by rw [c2]; rfl
      congr 1
      apply Int32.toInt_inj.mp
      rw [hy] at h0 ⊢
      rw [nI_toInt (by omega)]
      omega
    · rw [if_neg c2]
      have h0 : (rx_irem x (nI 10)).toInt ≠ 0 := fun e => c2 (Int32.toInt_inj.mp (e.trans rfl))
      congr 1
      apply Int32.toInt_inj.mp
      rw [hy] at h0
      rw [Int32.toInt_add, hy, h10, nI_toInt (by omega), tw_bm32 (by omega) (by omega)]
      omega
theorem tc_go (s : Nat) (hs : s < 10) (x : Int32) : rx_irem (nI s + nI (x.toInt % 10).toNat) (nI 10) = nI (tw_go s x) := by
  rw [nI_add, tw_rem (by omega) (by omega) (by omega)]
  congr 1
  unfold tw_go
  omega
theorem tc_hold1 (y : Int32) : f_j_max (-9999 : Int32) (f_j_min (9999 : Int32) y) = tw_hold y := by
  unfold f_j_max f_j_min tw_hold
  rw [show (-nI 9999 : Int32) = -9999 from rfl, show nI 9999 = (9999 : Int32) from rfl]
  by_cases a : y < (9999 : Int32)
  · rw [if_pos a]
    by_cases b : (-9999 : Int32) < y
    · rw [if_pos b, if_neg (Int32.not_lt.mpr (Int32.le_of_lt b)), if_neg (Int32.not_lt.mpr (Int32.le_of_lt a))]
    · rw [if_neg b]
      by_cases c : y < (-9999 : Int32)
      · rw [if_pos c]
      · rw [if_neg c, if_neg (Int32.not_lt.mpr (Int32.le_of_lt a))]
        exact Int32.le_antisymm (Int32.not_lt.mp c) (Int32.not_lt.mp b)
  · rw [if_neg a, if_pos (by decide), if_neg (fun h => a (Int32.lt_trans h (by decide)))]
    by_cases d : (9999 : Int32) < y
    · rw [if_pos d]
    · rw [if_neg d]
      exact Int32.le_antisymm (Int32.not_lt.mp a) (Int32.not_lt.mp d)
section TC6
variable {r w : Nat} {W : tw_Wo} {N : tw_N} {E : tw_E} {R : tw_R}
def tc_S7 (r q _j : Nat) : Prop := 59 + 7 * r ≤ q ∧ q ≤ 61 + 7 * r
theorem tc_env.vars {σ : rx_St} (he : tc_env r W N E R σ) {o v : Nat} (x : Int32) : tc_env r W N E (tw_updN R.1 (6 * o + v) x, R.2.1, R.2.2) (rx_si σ (59 + 7 * r) (6 * o + v) x) := by
  obtain ⟨⟨h1, h2⟩, h3, h4, h5, h6, h7, h8⟩ := he
  refine ⟨⟨by rw [tw_r1n _ _ (by omega)]; exact h1, h2⟩, fun q hq => ?_, fun i hi => by rw [tw_r1n _ _ (by omega)]; exact h4 i hi, by rw [tw_r1n _ _ (by omega)]; exact h5, by rw [tw_r1n _ _ (by omega)]; exact h6, h7, h8⟩
  obtain ⟨⟨g1, g2⟩, g3, ⟨g4, g5⟩, g6, g7⟩ := h3 q hq
  refine ⟨⟨by rw [tw_r1n _ _ (by omega)]; exact g1, g2⟩, by rw [tw_r1n _ _ (by omega)]; exact g3, ⟨by rw [tw_r1n _ _ (by omega)]; exact g4, g5⟩, by rw [tw_r1n _ _ (by omega)]; exact g6, fun u hu => ?_⟩
  show _ = tw_updN R.1 (6 * o + v) x (6 * q + u)
  unfold tw_updN
  rw [tw_r1]
  by_cases c : 6 * q + u = 6 * o + v
  · rw [if_pos ⟨rfl, c⟩, if_pos c]
  · rw [if_neg (fun h => c h.2), if_neg c]; exact g7 u hu
theorem tc_env.go {σ : rx_St} (he : tc_env r W N E R σ) {o p : Nat} (hp : p < 10) : tc_env r W N E (R.1, tw_updN R.2.1 o p, R.2.2) (rx_si σ (60 + 7 * r) o (nI p)) := by
  obtain ⟨⟨h1, h2⟩, h3, h4, h5, h6, h7, h8⟩ := he
  refine ⟨⟨by rw [tw_r1n _ _ (by omega)]; exact h1, h2⟩, fun q hq => ?_, fun i hi => by rw [tw_r1n _ _ (by omega)]; exact h4 i hi, by rw [tw_r1n _ _ (by omega)]; exact h5, by rw [tw_r1n _ _ (by omega)]; exact h6, h7, h8⟩
  obtain ⟨⟨g1, g2⟩, g3, ⟨g4, g5⟩, g6, g7⟩ := h3 q hq
  refine ⟨⟨by rw [tw_r1n _ _ (by omega)]; exact g1, g2⟩, by rw [tw_r1n _ _ (by omega)]; exact g3, ?_, by rw [tw_r1n _ _ (by omega)]; exact g6, fun u hu => by rw [tw_r1n _ _ (by omega)]; exact g7 u hu⟩
  show _ = nI (tw_updN R.2.1 o p q) ∧ tw_updN R.2.1 o p q < 10
  unfold tw_updN
  rw [tw_r1]
  by_cases c : q = o
  · rw [if_pos ⟨rfl, c⟩, if_pos c]; exact ⟨rfl, hp⟩
  · rw [if_neg (fun h => c h.2), if_neg c]; exact ⟨g4, g5⟩
theorem tc_env.quit {σ : rx_St} (he : tc_env r W N E R σ) {o : Nat} : tc_env r W N E (R.1, R.2.1, tw_updN R.2.2 o true) (rx_si σ (61 + 7 * r) o (nI 1)) := by
  obtain ⟨⟨h1, h2⟩, h3, h4, h5, h6, h7, h8⟩ := he
  refine ⟨⟨by rw [tw_r1n _ _ (by omega)]; exact h1, h2⟩, fun q hq => ?_, fun i hi => by rw [tw_r1n _ _ (by omega)]; exact h4 i hi, by rw [tw_r1n _ _ (by omega)]; exact h5, by rw [tw_r1n _ _ (by omega)]; exact h6, h7, h8⟩
  obtain ⟨⟨g1, g2⟩, g3, ⟨g4, g5⟩, g6, g7⟩ := h3 q hq
  refine ⟨⟨by rw [tw_r1n _ _ (by omega)]; exact g1, g2⟩, by rw [tw_r1n _ _ (by omega)]; exact g3, ⟨by rw [tw_r1n _ _ (by omega)]; exact g4, g5⟩, ?_, fun u hu => by rw [tw_r1n _ _ (by omega)]; exact g7 u hu⟩
  show _ = tw_B (tw_updN R.2.2 o true q)
  unfold tw_updN
  rw [tw_r1]
  by_cases c : q = o
  · rw [if_pos ⟨rfl, c⟩, if_pos c]; rfl
  · rw [if_neg (fun h => c h.2), if_neg c]; exact g6
theorem tc_addTo {σ : rx_St} {j : Nat} (hj : j < 120) (x : Int32) : f_run_addTo r (nI j) x σ = some (rx_si σ (59 + 7 * r) j (σ.1 (59 + 7 * r) j + x)) := by
  unfold f_run_addTo
  simp (disch := omega) only [tw_L, tw_gN, tw_cl, tw_le, tw_lt, tw_eq, nI_add, pk_mul, tw_sub, tw_B0, tw_B1, tw_nb0, tw_nb1, tw_r1s, tw_r1n, if_true, if_false, Nat.le_refl, Nat.reduceEqDiff, Nat.reduceLeDiff, Nat.reduceLT, reduceIte]
  rw [if_neg (by omega), if_neg (by omega)]
theorem tc_hand {σ : rx_St} {o v u : Nat} {x : Int32} {to : Option Nat} (he : tc_env r W N E R σ) (hon : o < N.1) (hv : v < 6) (hto : ∀ q, to = some q → q < N.1 ∧ u < 6) :
    tw_ok (f_run_hand r (nI (o * 6 + v)) (tw_opt to) (nI u) x σ) (fun σ' => tw_fr (tc_S7 r) σ σ' ∧ tc_env r W N E (tw_do o R (2, v, x, to, u)) σ') := by
  obtain ⟨⟨h1, h2⟩, h3, h4, h5, h6, h7, h8⟩ := id he
  obtain ⟨⟨g1, g2⟩, g3, ⟨g4, g5⟩, g6, g7⟩ := h3 o hon
  have hmin : ∀ a b, f_j_min a b = tw_min a b := fun _ _ => rfl
  unfold f_run_hand f_c_cell_59
  rw [show o * 6 + v = 6 * o + v by omega]
  simp (disch := omega) only [tw_L, tw_gN, tw_cl, tw_le, tw_lt, tw_eq, nI_add, pk_mul, tw_sub, tw_B0, tw_B1, tw_nb0, tw_nb1, tw_r1s, tw_r1n, if_true, if_false, Nat.le_refl, Nat.reduceEqDiff, Nat.reduceLeDiff, Nat.reduceLT, reduceIte]
  rw [if_neg (by omega), if_neg (by omega), Option.bind_some, g7 v hv, hmin]
  cases to with
  | none =>
    have hd : tw_do o R (2, v, x, none, u) = R := rfl
    rw [hd]
    refine tw_ite (fun c => ?_) (fun c => ?_)
    · rw [tw_some]; exact ⟨tw_fr.rf, he⟩
    · have hh : f_tow_hasOne (tw_opt none) σ = nI 0 := by
        unfold f_tow_hasOne
        rw [show tw_opt none = -nI 1 from rfl, if_pos (by decide)]
        rfl
      rw [hh]
      refine tw_ite (fun _ => ?_) (fun h => absurd rfl h)
      rw [tw_some]; exact ⟨tw_fr.rf, he⟩
  | some q =>
    obtain ⟨hq, hu⟩ := hto q rfl
    obtain ⟨⟨q1, q2⟩, q3, ⟨q4, q5⟩, q6, q7⟩ := h3 q hq
    have hd : tw_do o R (2, v, x, some q, u) = if tw_min x (R.1 (6 * o + v)) < nI 1 then R else if R.2.2 q = true then R
      else (tw_updN (tw_updN R.1 (6 * o + v) (R.1 (6 * o + v) - tw_min x (R.1 (6 * o + v)))) (6 * q + u) (tw_updN R.1 (6 * o + v) (R.1 (6 * o + v) - tw_min x (R.1 (6 * o + v))) (6 * q + u) + tw_min x (R.1 (6 * o + v))), R.2.1, R.2.2) := rfl
    rw [hd]
    refine tw_ite (fun c => ?_) (fun c => ?_)
    · rw [if_pos c, tw_some]; exact ⟨tw_fr.rf, he⟩
    · have hh : f_tow_hasOne (tw_opt (some q)) σ = nI 1 := by
        unfold f_tow_hasOne
        rw [show tw_opt (some q) = nI q from rfl]
        simp (disch := omega) only [tw_L, tw_gN, tw_cl, tw_le, tw_lt, tw_eq, nI_add, pk_mul, tw_sub, tw_B0, tw_B1, tw_nb0, tw_nb1, tw_r1s, tw_r1n, if_true, if_false, Nat.le_refl, Nat.reduceEqDiff, Nat.reduceLeDiff, Nat.reduceLT, reduceIte, h1]
        rw [if_neg (by omega), if_neg (by omega)]
      rw [if_neg c, hh]
      refine tw_ite (fun h => absurd h (by decide)) (fun _ => ?_)
      rw [show tw_opt (some q) = nI q from rfl]
      simp (disch := omega) only [tw_L, tw_gN, tw_cl, tw_le, tw_lt, tw_eq, nI_add, pk_mul, tw_sub, tw_B0, tw_B1, tw_nb0, tw_nb1, tw_r1s, tw_r1n, if_true, if_false, Nat.le_refl, Nat.reduceEqDiff, Nat.reduceLeDiff, Nat.reduceLT, reduceIte, q6]
      cases hg : R.2.2 q with
      | true => rw [if_neg (by decide), if_pos rfl, tw_some]; exact ⟨tw_fr.rf, he⟩
      | false =>
        have hsub : R.1 (6 * o + v) + -tw_min x (R.1 (6 * o + v)) = R.1 (6 * o + v) - tw_min x (R.1 (6 * o + v)) := (Int32.sub_eq_add_neg ..).symm
        have s1 := he.vars (o := o) (v := v) (R.1 (6 * o + v) - tw_min x (R.1 (6 * o + v)))
        have s2 := s1.vars (o := q) (v := u) (tw_updN R.1 (6 * o + v) (R.1 (6 * o + v) - tw_min x (R.1 (6 * o + v))) (6 * q + u) + tw_min x (R.1 (6 * o + v)))
        have e9 : (rx_si σ (59 + 7 * r) (6 * o + v) (R.1 (6 * o + v) - tw_min x (R.1 (6 * o + v)))).1 (59 + 7 * r) (6 * q + u) = tw_updN R.1 (6 * o + v) (R.1 (6 * o + v) - tw_min x (R.1 (6 * o + v))) (6 * q + u) := (s1.2.1 q hq).2.2.2.2 u hu
        rw [if_pos rfl, if_neg (by decide), tc_addTo (by omega), Option.bind_some, g7 v hv, hsub, show q * 6 + u = 6 * q + u by omega, tc_addTo (by omega), Option.bind_some, e9, tw_some]
        exact ⟨(tw_fr.rf.si (by unfold tc_S7; omega)).si (by unfold tc_S7; omega), s2⟩
theorem tc_fulfil_l {o c : Nat} (hon : o < N.1) (hc : c ≤ 48) : ∀ (es : List tw_Ev) (p : Nat) (R : tw_R) (σ : rx_St) (fuel : Nat),
    tc_env r W N E R σ → tc_evs σ p es → σ.1 45 o = nI c → p + es.length = o * 48 + c → (∀ e ∈ es, tw_evok W N o e) → es.length < fuel →
    tw_ok (f_run_fulfil_7 r fuel (nI o) (nI (o * 48)) (nI p) σ) (fun σ' => tw_fr (tc_S7 r) σ σ' ∧ tc_env r W N E (tw_dos o es R) σ') := by
  intro es
  induction es with
  | nil =>
    intro p R σ fuel he hev h45 hp hok hf
    obtain ⟨n, rfl⟩ : ∃ n, fuel = n + 1 := ⟨fuel - 1, by omega⟩
    have h20 := he.1.2
    rw [List.length_nil] at hp
    rw [f_run_fulfil_7]
    simp (disch := omega) only [tw_L, tw_gN, tw_cl, tw_le, tw_lt, tw_eq, nI_add, pk_mul, tw_sub, tw_B0, tw_B1, tw_nb0, tw_nb1, tw_r1s, tw_r1n, if_true, if_false, Nat.le_refl, Nat.reduceEqDiff, Nat.reduceLeDiff, Nat.reduceLT, reduceIte, h45]
    rw [if_pos (by omega), tw_some]
    exact ⟨tw_fr.rf, he⟩
  | cons e es ih =>
    intro p R σ fuel he hev h45 hp hok hf
    rw [List.length_cons] at hp hf
    obtain ⟨n, rfl⟩ : ∃ n, fuel = n + 1 := ⟨fuel - 1, by omega⟩
    obtain ⟨⟨v0, v1, v2, v3, v4⟩, hev2⟩ := hev
    obtain ⟨k1, k2, k3⟩ := hok e List.mem_cons_self
    obtain ⟨⟨h1, h2⟩, h3, h4, h5, h6, h7, h8⟩ := id he
    obtain ⟨⟨g1, g2⟩, g3, ⟨g4, g5⟩, g6, g7⟩ := h3 o hon
    have hv6 := (h7.2.2 _ g2).1
    have fin : ∀ σ1, tw_fr (tc_S7 r) σ σ1 → tc_env r W N E (tw_do o R e) σ1 → tw_ok (f_run_fulfil_174 r (f_run_fulfil_7 r n) (nI o) (nI (o * 48)) (nI p) σ1) (fun σ' => tw_fr (tc_S7 r) σ σ' ∧ tc_env r W N E (tw_dos o (e :: es) R) σ') := by
      intro σ1 f1 e1
      unfold f_run_fulfil_174
      rw [show nI p + (1 : Int32) = nI (p + 1) from nI_add p 1]
      have := ih (p + 1) (tw_do o R e) σ1 n e1 (tc_evs.fr es _ (fun q j a b c d => f1.i (by unfold tc_S7; omega)) hev2) (by rw [f1.i (by unfold tc_S7; omega)]; exact h45) (by omega) (fun y hy => hok y (List.mem_cons_of_mem _ hy)) (by omega)
      exact tw_mono this (fun σ' h => ⟨f1.tr h.1, h.2⟩)
    rw [f_run_fulfil_7]
    simp (disch := omega) only [tw_L, tw_gN, tw_cl, tw_le, tw_lt, tw_eq, nI_add, pk_mul, tw_sub, tw_B0, tw_B1, tw_nb0, tw_nb1, tw_r1s, tw_r1n, if_true, if_false, Nat.le_refl, Nat.reduceEqDiff, Nat.reduceLeDiff, Nat.reduceLT, reduceIte, h45]
    rw [if_neg (by omega)]
    obtain ⟨s, v, x, to, u⟩ := e
    dsimp only at v0 v1 v2 v3 v4 k1 k2 k3
    rcases k3 with rfl | rfl | rfl | rfl
    · obtain ⟨e1, e2⟩ := v0 rfl
      have e4 := v4 (by decide)
      have hv := k1 (Or.inl rfl)
      simp (disch := omega) only [tw_L, tw_gN, tw_cl, tw_le, tw_lt, tw_eq, nI_add, pk_mul, tw_sub, tw_B0, tw_B1, tw_nb0, tw_nb1, tw_r1s, tw_r1n, if_true, if_false, Nat.le_refl, Nat.reduceEqDiff, Nat.reduceLeDiff, Nat.reduceLT, reduceIte, e1, e2, e4]
      rw [tc_addTo (by omega), Option.bind_some, show o * 6 + v = 6 * o + v by omega, g7 v (by omega)]
      exact fin _ (tw_fr.rf.si (by unfold tc_S7; omega)) (he.vars _)
    · have e1 := v1 rfl
      have e4 := v4 (by decide)
      simp (disch := omega) only [tw_L, tw_gN, tw_cl, tw_le, tw_lt, tw_eq, nI_add, pk_mul, tw_sub, tw_B0, tw_B1, tw_nb0, tw_nb1, tw_r1s, tw_r1n, if_true, if_false, Nat.le_refl, Nat.reduceEqDiff, Nat.reduceLeDiff, Nat.reduceLT, reduceIte, e1, e4, tc_floor, Option.bind_some, g4]
      have := tc_go (R.2.1 o) g5 x
      rw [nI_add] at this
      rw [this]
      exact fin _ (tw_fr.rf.si (by unfold tc_S7; omega)) (he.go (tw_go_lt _ _))
    · obtain ⟨e1, e2, e3, e5⟩ := v2 rfl
      have e4 := v4 (by decide)
      have hv := k1 (Or.inr rfl)
      simp (disch := omega) only [tw_L, tw_gN, tw_cl, tw_le, tw_lt, tw_eq, nI_add, pk_mul, tw_sub, tw_B0, tw_B1, tw_nb0, tw_nb1, tw_r1s, tw_r1n, if_true, if_false, Nat.le_refl, Nat.reduceEqDiff, Nat.reduceLeDiff, Nat.reduceLT, reduceIte, e1, e2, e3, e4, e5]
      refine tw_b (tc_hand (u := u) he hon (by omega) (fun q hq => ?_)) (fun σ1 hh => fin σ1 hh.1 hh.2)
      have := k2 rfl q hq
      exact ⟨this.1, Nat.lt_of_lt_of_le this.2 (h7.2.2 _ ((h3 q this.1).1.2)).1⟩
    · have e1 := v3 (by decide)
      simp (disch := omega) only [tw_L, tw_gN, tw_cl, tw_le, tw_lt, tw_eq, nI_add, pk_mul, tw_sub, tw_B0, tw_B1, tw_nb0, tw_nb1, tw_r1s, tw_r1n, if_true, if_false, Nat.le_refl, Nat.reduceEqDiff, Nat.reduceLeDiff, Nat.reduceLT, reduceIte, e1]
      exact fin _ (tw_fr.rf.si (by unfold tc_S7; omega)) he.quit
theorem tc_fulfil {o : Nat} {σ : rx_St} {es : List tw_Ev} (hon : o < N.1) (hc : es.length ≤ 48) (he : tc_env r W N E R σ) (hev : tc_evs σ (48 * o) es) (h45 : σ.1 45 o = nI es.length) (hok : ∀ e ∈ es, tw_evok W N o e) :
    tw_ok (f_run_fulfil r (nI o) σ) (fun σ' => tw_fr (tc_S7 r) σ σ' ∧ tc_env r W N E (tw_dos o es R) σ') := by
  unfold f_run_fulfil
  simp (disch := omega) only [tw_L, tw_gN, tw_cl, tw_le, tw_lt, tw_eq, nI_add, pk_mul, tw_sub, tw_B0, tw_B1, tw_nb0, tw_nb1, tw_r1s, tw_r1n, if_true, if_false, Nat.le_refl, Nat.reduceEqDiff, Nat.reduceLeDiff, Nat.reduceLT, reduceIte]
  exact tc_fulfil_l hon hc es (o * 48) R σ rx_fu he (by rw [Nat.mul_comm]; exact hev) h45 rfl hok (by show _ < 100000; omega)
theorem tc_held {σ : rx_St} (he : tc_env r W N E R σ) : tw_ok (f_run_hold r σ) (fun σ' => tw_fr (tc_S7 r) σ σ' ∧ tc_env r W N E (tw_held R) σ') := by
  have h20 := he.1.2
  have h8 := he.2.2.2.2.2.2
  unfold f_run_hold
  refine tw_lp (fun fu i σ => f_run_hold_2 r fu (nI i) σ) (fun i σ' => tw_fr (fun q _ => q = 59 + 7 * r) σ σ' ∧ ∀ q v, q < N.1 → v < 6 → σ'.1 (59 + 7 * r) (6 * q + v) = if 6 * q + v < i then tw_hold (R.1 (6 * q + v)) else R.1 (6 * q + v)) (N.1 * 6) _ ?_ ?_ rx_fu 0 σ (by show _ < 100000; omega) (Nat.zero_le _) ⟨tw_fr.rf, fun q v hq hv => by rw [if_neg (Nat.not_lt_zero _)]; exact (he.2.1 q hq).2.2.2.2 v hv⟩
  · intro n i σ1 hi h0 next
    obtain ⟨f1, hv1⟩ := h0
    have hN : σ1.1 38 2 = nI N.1 := by rw [f1.i (by omega)]; exact he.1.1
    rw [f_run_hold_2]
    have hh := tc_hold1 (σ1.1 (59 + 7 * r) i)
    rw [tw_L 9999] at hh
    simp (disch := omega) only [tw_L, tw_gN, tw_cl, tw_le, tw_lt, tw_eq, nI_add, pk_mul, tw_sub, tw_B0, tw_B1, tw_nb0, tw_nb1, tw_r1s, tw_r1n, if_true, if_false, Nat.le_refl, Nat.reduceEqDiff, Nat.reduceLeDiff, Nat.reduceLT, reduceIte, hN]
    rw [if_neg (by omega)]
    have hi1 := hv1 (i / 6) (i % 6) (by omega) (by omega)
    rw [show 6 * (i / 6) + i % 6 = i by omega, if_neg (by omega)] at hi1
    rw [hi1] at hh ⊢
    rw [show f_j_max (-nI 9999) (f_j_min (nI 9999) (R.1 i)) = tw_hold (R.1 i) from hh]
    refine next _ ⟨f1.si rfl, fun q v hq hv => ?_⟩
    rw [tw_r1]
    by_cases c : 6 * q + v = i
    · rw [if_pos ⟨rfl, c⟩, if_pos (by omega), c]
    · rw [if_neg (fun h => c h.2), hv1 q v hq hv]
      by_cases d : 6 * q + v < i
      · rw [if_pos d, if_pos (by omega)]
      · rw [if_neg d, if_neg (by omega)]
  · intro n σ1 h0
    obtain ⟨f1, hv1⟩ := h0
    have hN : σ1.1 38 2 = nI N.1 := by rw [f1.i (by omega)]; exact he.1.1
    rw [f_run_hold_2]
    simp (disch := omega) only [tw_L, tw_gN, tw_cl, tw_le, tw_lt, tw_eq, nI_add, pk_mul, tw_sub, tw_B0, tw_B1, tw_nb0, tw_nb1, tw_r1s, tw_r1n, if_true, if_false, Nat.le_refl, Nat.reduceEqDiff, Nat.reduceLeDiff, Nat.reduceLT, reduceIte, hN]
    rw [tw_some]
    refine ⟨f1.mn (fun q j h => by unfold tc_S7; omega), ?_⟩
    obtain ⟨⟨h1, h2⟩, h3, h4, h5, h6, h7, -⟩ := he
    refine ⟨⟨hN, h2⟩, fun q hq => ?_, fun i hi => by rw [f1.i (by omega)]; exact h4 i hi, by rw [f1.i (by omega)]; exact h5, by rw [f1.i (by omega)]; exact h6, h7, h8⟩
    obtain ⟨⟨g1, g2⟩, g3, ⟨g4, g5⟩, g6, g7⟩ := h3 q hq
    refine ⟨⟨by rw [f1.i (by omega)]; exact g1, g2⟩, by rw [f1.i (by omega)]; exact g3, ⟨by rw [f1.i (by omega)]; exact g4, g5⟩, by rw [f1.i (by omega)]; exact g6, fun v hv => ?_⟩
    rw [hv1 q v hq hv, if_pos (by omega)]
    rfl
end TC6
