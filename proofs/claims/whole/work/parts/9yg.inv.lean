/-! BETWEEN THE CALLS -/
theorem tq_tape.fr {n : Nat} {σ σ' : rx_St} (h : tq_tape n σ) (f : ∀ q j, q = 1 ∧ j = 1 ∨ q = 87 ∧ j = 2 ∨ q = 88 ∨ q = 2 → σ'.1 q j = σ.1 q j) : tq_tape n σ' := by
  obtain ⟨⟨h1, h2, h3⟩, h4⟩ := h
  refine ⟨⟨(f _ _ (by omega)).trans h1, (f _ _ (by omega)).trans h2, h3⟩, fun j hj => ?_⟩
  rw [f 88 j (by omega), f 2 j (by omega)]
  exact h4 j hj
section TBYG
variable {w : Nat} {W : tw_Wo} {N : tw_N} {dl : Bool} {st : Nat → Int32} {pl : Nat → Nat} {bg : Nat → Int32} {sp : List tw_Sp} {se : List tw_Se}
theorem tq_try.fr {x : Nat} {σ σ' : rx_St} (h : tq_try w W N dl st pl bg sp se x σ) (f : ∀ q j, q = 76 ∧ (j = 15 ∨ j = 16) ∨ q = 38 ∧ j = 8 ∨ q = 86 → σ'.1 q j = σ.1 q j) : tq_try w W N dl st pl bg sp se x σ' := by
  obtain ⟨y, n, h1, h2, h3, h4, h5⟩ := h
  exact ⟨y, n, (f _ _ (by omega)).trans h1, (f _ _ (by omega)).trans h2, h3, h4, fun z => (h5 z).fr (fun q j a => f _ _ (by omega))⟩
/-- what was tried before no longer counts -/
theorem tq_try.on {W' : tw_Wo} {w' : Nat} {N' : tw_N} {dl' : Bool} {st' : Nat → Int32} {pl' : Nat → Nat} {bg' : Nat → Int32} {sp' : List tw_Sp} {se' : List tw_Se} {x : Nat} {σ σ' : rx_St} (h : tq_try w W N dl st pl bg sp se x σ) (hx : x + 1 < 1000) (h8 : σ'.1 38 8 = σ.1 38 8 + nI 1) (h16 : σ'.1 76 16 = σ.1 76 16) : tq_try w' W' N' dl' st' pl' bg' sp' se' (x + 1) σ' := by
  obtain ⟨y, n, h1, h2, h3, h4, h5⟩ := h
  refine ⟨y, n, h16.trans h1, ?_, by omega, hx, fun z => absurd z (by omega)⟩
  rw [h8, h2]
  exact nI_add x 1
theorem tq_G.fr {σ σ' : rx_St} (h : tq_G W sp se σ) (f : ∀ q j, q = 76 ∧ (j = 2 ∨ j = 8 ∨ j = 13) ∨ 77 ≤ q ∧ q ≤ 85 ∨ q = 87 ∧ (j = 90 ∨ j = 96) ∨ 152 ≤ q ∧ q ≤ 160 → σ'.1 q j = σ.1 q j) : tq_G W sp se σ' := ⟨h.1, h.2.1.fr (fun q j a => f q j (by omega)), h.2.2.fr (fun q j a => f q j (by omega))⟩
end TBYG
/-- what stays of a text while it is the world -/
def rP (q j : Nat) : Prop := q = 0 ∨ 6 ≤ q ∧ q ≤ 35 ∨ 94 ≤ q ∧ q ≤ 122 ∨ q = 87 ∧ (j = 17 ∨ j = 18)
def rK (w : Nat) (T : List tw_Tk) (U : ty_Wo) (lv : Nat) (σ : rx_St) : Prop := ta_mr lv T U σ ∧ ((∀ (i : Nat) (x : tw_Tk), T[i]? = some x → tw_tkok x) ∧ ty_vP T U ∧ (∀ K ∈ U.2, ty_dK K) ∧ tz_E T U = []) ∧ tz_wr w T U σ ∧ σ.1 0 5 = σ.1 87 17 ∧ tc_words σ ∧ tm_keys σ ∧ ∃ q, q ≤ 21 ∧ σ.1 35 6 = nI q
theorem rK.fr {w : Nat} {T : List tw_Tk} {U : ty_Wo} {lv : Nat} {σ σ' : rx_St} (hw : w ≤ 1) (h : rK w T U lv σ) (f : ∀ q j, rP q j → σ'.1 q j = σ.1 q j ∧ σ'.2 q j = σ.2 q j) : rK w T U lv σ' := by
  obtain ⟨h1, h2, h3, h4, h5, h6, q, h7, h8⟩ := h
  refine ⟨h1.fr h2.2.1 (fun q j y => f q j ?_), h2, tz_wr.fr h3 (fun q j y => (f q j (by unfold rP; omega)).1), ?_, fun k hk => ?_, fun k hk => ?_, q, h7, ?_⟩
  · unfold rP
    rcases y with y | y | y | y | y | y | y | y <;> omega
  · rw [(f 0 5 (Or.inl rfl)).1, (f 87 17 (by unfold rP; omega)).1]; exact h4
  · rw [(f 6 k (by unfold rP; omega)).2]; exact h5 k hk
  · rw [(f 94 k (by unfold rP; omega)).2]; exact h6 k hk
  · rw [(f 35 6 (by unfold rP; omega)).1]; exact h8
/-- all that holds between the calls -/
def rC (w : Nat) (T : List tw_Tk) (U : ty_Wo) (lv : Nat) (N : tw_N) (pl : Nat → Nat) (bg : Nat → Int32) (dl : Bool) (st : Nat → Int32) (tn : Nat) (cs : List (Nat × Int32)) (sp : List tw_Sp) (se : List tw_Se) (σ : rx_St) : Prop :=
  rK w T U lv σ ∧ tq_T w (ta_Wo T U) lv N pl bg dl st σ ∧ tq_B (ta_Wo T U) N bg ∧ tq_tape tn σ ∧ tq_C (ta_Wo T U) cs σ ∧ tq_G (ta_Wo T U) sp se σ
def rI (n w _p2 _p3 : Nat) (σ : rx_St) : Prop := ∃ T U lv N pl bg dl st tn cs sp se x, rC w T U lv N pl bg dl st tn cs sp se σ ∧ tq_try w (ta_Wo T U) N dl st pl bg sp se x σ ∧ x + n ≤ 512
/-- places that questions write -/
def rS (q j : Nat) : Prop := tq_S q j ∨ q = 71 ∨ q = 75 ∨ q = 86 ∨ q = 147 ∨ q = 148 ∨ q = 151 ∨ q = 161 ∨ q = 76 ∧ (j = 15 ∨ j = 16)
section TBYG2
variable {w : Nat} {T : List tw_Tk} {U : ty_Wo} {lv : Nat} {N : tw_N} {dl : Bool} {st : Nat → Int32} {pl : Nat → Nat} {bg : Nat → Int32} {tn : Nat} {cs : List (Nat × Int32)} {sp : List tw_Sp} {se : List tw_Se}
theorem rC.q {σ σ' : rx_St} (h : rC w T U lv N pl bg dl st tn cs sp se σ) (f : tw_fr rS σ σ') : rC w T U lv N pl bg dl st tn cs sp se σ' := by
  obtain ⟨h1, h2, h3, h4, h5, h6⟩ := h
  refine ⟨h1.fr h2.2.2 (fun q j y => f q j ?_), h2.fg (fun q j y => f.i ?_), h3, h4.fr (fun q j y => f.i (by unfold rS tq_S; omega)), h5.fr (fun q j y => f.i (by unfold rS tq_S; omega)), h6.fr (fun q j y => f.i (by unfold rS tq_S; omega))⟩
  · unfold rP at y
    unfold rS tq_S
    omega
  · unfold tq_TP at y
    unfold rS tq_S
    omega
/-- another call -/
theorem rI.of {n x p2 p3 : Nat} {σ' : rx_St} (h : rC w T U lv N pl bg dl st tn cs sp se σ') (ht : tq_try w (ta_Wo T U) N dl st pl bg sp se x σ') (hx : x + n ≤ 512) : rI n w p2 p3 σ' := ⟨T, U, lv, N, pl, bg, dl, st, tn, cs, sp, se, x, h, ht, hx⟩
theorem rI.q {n x p2 p3 : Nat} {σ σ' : rx_St} (h : rC w T U lv N pl bg dl st tn cs sp se σ) (ht : tq_try w (ta_Wo T U) N dl st pl bg sp se x σ) (hx : x + (n + 1) ≤ 512) (f : tw_fr rS σ σ') (ht' : tq_try w (ta_Wo T U) N dl st pl bg sp se x σ') : rI n w p2 p3 σ' := rI.of (h.q f) ht' (by omega)
/-- begins of the WORLD -/
theorem rK.begins {σ : rx_St} (h : rK w T U lv σ) : (∀ k v, k < (ta_Wo T U).2.length → v < tw_vc (ta_Wo T U) k → σ.1 (13 + 14 * w) (6 * k + v) = (tw_kind (ta_Wo T U) k).1.getD v 0) ∧ (∀ k, k < (ta_Wo T U).2.length → σ.1 (12 + 14 * w) k = nI (tw_kind (ta_Wo T U) k).2.length) ∧ tw_wb (ta_Wo T U) := by
  obtain ⟨-, ⟨hT, hU, -, -⟩, hw, -⟩ := h
  have get : ∀ k, k < (ta_Wo T U).2.length → ∃ K, U.2[k]? = some K ∧ K ∈ U.2 := fun k hk => by
    rw [ta_Wo_len] at hk
    exact ⟨_, List.getElem?_eq_getElem hk, List.getElem_mem hk⟩
  have gv : ∀ k K, U.2[k]? = some K → ∀ v, v < tw_vc (ta_Wo T U) k → ∃ y, K.2.1[v]? = some y ∧ (tw_kind (ta_Wo T U) k).1.getD v 0 = tz_val T y := fun k K hK v hv => by
    rw [ta_Wo_vc hK] at hv
    refine ⟨_, List.getElem?_eq_getElem hv, ?_⟩
    rw [ta_Wo_kind hK]
    show (K.2.1.map (tz_val T)).getD v 0 = _
    rw [List.getD_eq_getElem?_getD, List.getElem?_map, List.getElem?_eq_getElem hv]
    rfl
  refine ⟨fun k v hk hv => ?_, fun k hk => ?_, fun k v hk hv => ?_⟩
  · obtain ⟨K, hK, -⟩ := get k hk
    obtain ⟨y, hy, e⟩ := gv k K hK v hv
    obtain ⟨-, ⟨-, -, q3⟩, -⟩ := tz_Krs_get U.2 0 0 k K hw.2.2.2 hK
    have := (q3 v y hy).2.1
    rw [Nat.zero_add, Nat.mul_comm k 6] at this
    rw [e]
    exact this
  · obtain ⟨K, hK, -⟩ := get k hk
    obtain ⟨-, -, q1, -⟩ := tz_Krs_get U.2 0 0 k K hw.2.2.2 hK
    rw [Nat.zero_add] at q1
    rw [ta_Wo_kind hK, q1]
    show _ = nI (K.2.2.map _).length
    rw [List.length_map]
  · obtain ⟨K, hK, hm⟩ := get k hk
    obtain ⟨y, hy, e⟩ := gv k K hK v hv
    have v9 := ty_V_le hT ((hU.2.2.1 K hm).2.1 y (List.mem_of_getElem? hy)).2
    rw [e]
    unfold tz_val
    have e1 : (nI (ty_V T y.2.1)).toInt = (ty_V T y.2.1 : Int) := nI_toInt (by omega)
    by_cases c : y.2.2.1 = true
    · rw [if_pos c, Int32.toInt_neg, e1, tw_bm32 (by omega) (by omega)]
      omega
    · rw [if_neg c, e1]
      omega
/-- a change -/
theorem rI.chg {n x p2 p3 : Nat} {σ σ' : rx_St} (h : rC w T U lv N pl bg dl st tn cs sp se σ) (ht : tq_try w (ta_Wo T U) N dl st pl bg sp se x σ) (hx : x + (n + 1) ≤ 512) (g : tq_chg w (ta_Wo T U) lv N pl bg dl st σ σ') : rI n w p2 p3 σ' := by
  rcases g with rfl | ⟨⟨N', pl', bg', dl', st', g1, g2⟩, g3, f⟩
  · exact rI.q h ht hx (tw_fr.rf.si (by unfold rS tq_S; omega)) (ht.fr (fun q j y => tw_r1n _ _ (by omega)))
  · obtain ⟨h1, h2, h3, h4, h5, h6⟩ := h
    refine rI.of (x := x + 1) ⟨h1.fr h2.2.2 (fun q j y => f q j (by unfold rP at y; omega)), g1, g2 h3 h1.begins.2.2, h4.fr (fun q j y => f.i (by omega)), h5.fr (fun q j y => f.i (by omega)), h6.fr (fun q j y => f.i (by omega))⟩ (ht.on (by omega) g3 (f.i (by omega))) (by omega)
end TBYG2
