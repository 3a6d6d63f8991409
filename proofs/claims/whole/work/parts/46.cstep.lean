/-! THE CLASS: ORDER; a TICK's WISHES, all chosen and done -/
section TC7
variable {r w : Nat} {W : tw_Wo} {N : tw_N} {E : tw_E} {R : tw_R}
theorem tc_env.fg {σ σ' : rx_St} (e : tc_env r W N E R σ) (h : ∀ q j, (57 + 7 * r ≤ q ∧ q ≤ 61 + 7 * r ∨ 38 ≤ q ∧ q ≤ 42) → σ'.1 q j = σ.1 q j) : tc_env r W N E R σ' := by
  obtain ⟨⟨h1, h2⟩, h3, h4, h5, h6, h7, h8⟩ := e
  refine ⟨⟨?_, h2⟩, fun q hq => ?_, fun i hi => ?_, ?_, ?_, h7, h8⟩
  · rw [h _ _ (by omega)]; exact h1
  · obtain ⟨⟨g1, g2⟩, g3, ⟨g4, g5⟩, g6, g7⟩ := h3 q hq
    refine ⟨⟨?_, g2⟩, ?_, ⟨?_, g5⟩, ?_, fun v hv => ?_⟩
    · rw [h _ _ (by omega)]; exact g1
    · rw [h _ _ (by omega)]; exact g3
    · rw [h _ _ (by omega)]; exact g4
    · rw [h _ _ (by omega)]; exact g6
    · rw [h _ _ (by omega)]; exact g7 v hv
  · rw [h _ _ (by omega)]; exact h4 i hi
  · rw [h _ _ (by omega)]; exact h5
  · rw [h _ _ (by omega)]; exact h6
/-- who is done when, the last first, with their LOTS -/
def tc_orO (r : Nat) (l : Nat → Int32) (σ : rx_St) (off : Nat) : List Nat → Prop
  | [] => True
  | x :: L => (σ.1 (62 + 7 * r) (off + L.length) = nI x ∧ σ.1 (63 + 7 * r) (off + L.length) = l x) ∧ tc_orO r l σ off L
theorem tc_orO_app {l : Nat → Int32} {σ : rx_St} : ∀ (A B : List Nat) (off : Nat), tc_orO r l σ off (A ++ B) ↔ tc_orO r l σ (off + B.length) A ∧ tc_orO r l σ off B
  | [], B, off => ⟨fun h => ⟨trivial, h⟩, fun h => h.2⟩
  | x :: A, B, off => by
    show ((σ.1 (62 + 7 * r) (off + (A ++ B).length) = nI x ∧ σ.1 (63 + 7 * r) (off + (A ++ B).length) = l x) ∧ tc_orO r l σ off (A ++ B)) ↔ ((σ.1 (62 + 7 * r) (off + B.length + A.length) = nI x ∧ σ.1 (63 + 7 * r) (off + B.length + A.length) = l x) ∧ tc_orO r l σ (off + B.length) A) ∧ _
    rw [tc_orO_app A B off, List.length_append, show off + (A.length + B.length) = off + B.length + A.length by omega]
    exact ⟨fun h => ⟨⟨h.1, h.2.1⟩, h.2.2⟩, fun h => ⟨h.1.1, h.1.2, h.2⟩⟩
theorem tc_orO.fr {l : Nat → Int32} {σ σ' : rx_St} : ∀ (L : List Nat) (off : Nat), (∀ q j, 62 + 7 * r ≤ q → q ≤ 63 + 7 * r → off ≤ j → j < off + L.length → σ'.1 q j = σ.1 q j) → tc_orO r l σ off L → tc_orO r l σ' off L
  | [], _, _, _ => trivial
  | x :: L, off, h, ⟨⟨h1, h2⟩, h3⟩ => ⟨⟨by rw [h _ _ (by omega) (by omega) (by omega) (by rw [List.length_cons]; omega)]; exact h1, by rw [h _ _ (by omega) (by omega) (by omega) (by rw [List.length_cons]; omega)]; exact h2⟩, tc_orO.fr L off (fun q j a b c d => h q j a b c (by rw [List.length_cons]; omega)) h3⟩
def tc_S8 (r q _j : Nat) : Prop := q = 62 + 7 * r ∨ q = 63 + 7 * r
theorem tc_ord48 {l : Nat → Int32} {i : Nat} (hi : i < 20) (hr : r ≤ 1) (k2 : Int32 → rx_St → Option rx_St) (Q : rx_St → Prop) : ∀ (L2 L1 : List Nat) (σ : rx_St) (fuel : Nat),
    tc_orO r l σ 0 L2 → tc_orO r l σ (L2.length + 1) L1 → L1.length + L2.length = i → L2.length < fuel →
    (∀ σ', tw_fr (tc_S8 r) σ σ' → tc_orO r l σ' 0 (L1 ++ tw_ins l i L2) → tw_ok (k2 (nI (i + 1)) σ') Q) →
    tw_ok (f_run_putInOrder_48 r k2 fuel (nI i) (l i) (nI L2.length) σ) Q := by
  intro L2
  induction L2 with
  | nil =>
    intro L1 σ fuel h1 h2 hlen hf cont
    obtain ⟨n, rfl⟩ : ∃ n, fuel = n + 1 := ⟨fuel - 1, by omega⟩
    rw [f_run_putInOrder_48]
    unfold f_run_putInOrder_98
    simp (disch := omega) only [tw_L, tw_gN, tw_cl, tw_le, tw_lt, tw_eq, nI_add, pk_mul, tw_sub, tw_B0, tw_B1, tw_nb0, tw_nb1, tw_r1s, tw_r1n, if_true, if_false, Nat.le_refl, Nat.reduceEqDiff, Nat.reduceLeDiff, Nat.reduceLT, reduceIte, List.length_nil]
    refine cont _ ((tw_fr.rf.si (by unfold tc_S8; omega)).si (by unfold tc_S8; omega)) ?_
    rw [tc_orO_app]
    rw [List.length_nil, Nat.zero_add] at h2
    refine ⟨tc_orO.fr L1 _ (fun q j a b c d => ?_) h2, ⟨tw_r1s _ _ _ _, ?_⟩, trivial⟩
    · have : 0 + (tw_ins l i []).length ≤ j := c
      rw [tw_ins_len] at this
      rw [tw_r1n _ _ (by omega), tw_r1n _ _ (by omega)]
    · rw [tw_r1n _ _ (by omega)]
      exact tw_r1s _ _ _ _
  | cons y L2 ih =>
    intro L1 σ fuel h1 h2 hlen hf cont
    obtain ⟨n, rfl⟩ : ∃ n, fuel = n + 1 := ⟨fuel - 1, by omega⟩
    obtain ⟨⟨t1, u1⟩, t2⟩ := h1
    rw [Nat.zero_add] at t1 u1
    rw [List.length_cons] at h2 hlen hf ⊢
    rw [f_run_putInOrder_48]
    unfold f_run_putInOrder_98
    simp (disch := omega) only [tw_L, tw_gN, tw_cl, tw_le, tw_lt, tw_eq, nI_add, pk_mul, tw_sub, tw_B0, tw_B1, tw_nb0, tw_nb1, tw_r1s, tw_r1n, if_true, if_false, Nat.le_refl, Nat.reduceEqDiff, Nat.reduceLeDiff, Nat.reduceLT, reduceIte, Nat.add_sub_cancel, t1, u1, tw_dec]
    by_cases c : l y ≤ l i
    · rw [if_pos c]
      refine cont _ ((tw_fr.rf.si (by unfold tc_S8; omega)).si (by unfold tc_S8; omega)) ?_
      rw [tw_ins, if_neg (Int32.not_lt.mpr c), tc_orO_app]
      refine ⟨?_, ⟨?_, ?_⟩, ⟨?_, ?_⟩, ?_⟩
      · refine tc_orO.fr L1 _ (fun q j a b c d => ?_) (by rw [List.length_cons, List.length_cons, Nat.zero_add]; exact h2)
        rw [List.length_cons, List.length_cons] at c
        rw [tw_r1n _ _ (by omega), tw_r1n _ _ (by omega)]
      · rw [List.length_cons, Nat.zero_add]; exact tw_r1s _ _ _ _
      · rw [List.length_cons, Nat.zero_add, tw_r1n _ _ (by omega)]; exact tw_r1s _ _ _ _
      · rw [Nat.zero_add, tw_r1n _ _ (by omega), tw_r1n _ _ (by omega)]; exact t1
      · rw [Nat.zero_add, tw_r1n _ _ (by omega), tw_r1n _ _ (by omega)]; exact u1
      · exact tc_orO.fr L2 _ (fun q j a b c d => by rw [tw_r1n _ _ (by omega), tw_r1n _ _ (by omega)]) t2
    · rw [if_neg c]
      have e9 : L1 ++ tw_ins l i (y :: L2) = (L1 ++ [y]) ++ tw_ins l i L2 := by rw [tw_ins, if_pos (Int32.not_le.mp c), List.append_assoc]; rfl
      refine ih (L1 ++ [y]) _ n (tc_orO.fr L2 _ (fun q j a b c d => by rw [tw_r1n _ _ (by omega), tw_r1n _ _ (by omega)]) t2) ?_ (by rw [List.length_append, List.length_singleton]; omega) (by omega) (fun σ' f k => cont σ' (tw_fr.tr (S := tc_S8 r) ((tw_fr.rf.si (by unfold tc_S8; omega)).si (by unfold tc_S8; omega)) f) (by rw [e9]; exact k))
      rw [tc_orO_app]
      refine ⟨?_, ⟨?_, ?_⟩, trivial⟩
      · refine tc_orO.fr L1 _ (fun q j a b c d => ?_) (by rw [List.length_singleton]; exact h2)
        rw [List.length_singleton] at c
        rw [tw_r1n _ _ (by omega), tw_r1n _ _ (by omega)]
      · exact tw_r1s _ _ _ _
      · rw [List.length_nil, Nat.add_zero, tw_r1n _ _ (by omega)]; exact tw_r1s _ _ _ _
theorem tc_order_l {σ0 : rx_St} {dl : Bool} (he : tc_env r W N E R σ0) (hdl : σ0.1 38 7 = tw_B dl) : ∀ (fuel i : Nat) (σ : rx_St), i ≤ N.1 → N.1 - i < fuel → tw_fr (tc_S8 r) σ0 σ → tc_orO r (tw_dl dl E) σ 0 (tw_ord (tw_dl dl E) i) →
    tw_ok (f_run_putInOrder_2 r fuel (nI i) σ) (fun σ' => tw_fr (tc_S8 r) σ0 σ' ∧ tc_orO r (tw_dl dl E) σ' 0 (tw_ord (tw_dl dl E) N.1)) := by
  obtain ⟨⟨h1, h2⟩, -, -, h5, h6, -, h8⟩ := id he
  intro fuel
  induction fuel with
  | zero => intro i σ _ h; exact absurd h (Nat.not_lt_zero _)
  | succ n ih =>
    intro i σ hi hf f0 hor
    have r1 : σ.1 38 2 = nI N.1 := (f0.i (by unfold tc_S8; omega)).trans h1
    have r2 : σ.1 38 7 = tw_B dl := (f0.i (by unfold tc_S8; omega)).trans hdl
    have r3 : σ.1 (57 + 7 * r) 9 = E.2.1 := (f0.i (by unfold tc_S8; omega)).trans h5
    have r4 : σ.1 (57 + 7 * r) 10 = nI E.2.2 := (f0.i (by unfold tc_S8; omega)).trans h6
    rw [f_run_putInOrder_2]
    by_cases hin : i = N.1
    · rw [hin] at hor ⊢
      simp (disch := omega) only [tw_L, tw_gN, tw_cl, tw_le, tw_lt, tw_eq, nI_add, pk_mul, tw_sub, tw_B0, tw_B1, tw_nb0, tw_nb1, tw_r1s, tw_r1n, if_true, if_false, Nat.le_refl, Nat.reduceEqDiff, Nat.reduceLeDiff, Nat.reduceLT, reduceIte, r1]
      rw [tw_some]
      exact ⟨f0, hor⟩
    · simp (disch := omega) only [tw_L, tw_gN, tw_cl, tw_le, tw_lt, tw_eq, nI_add, pk_mul, tw_sub, tw_B0, tw_B1, tw_nb0, tw_nb1, tw_r1s, tw_r1n, if_true, if_false, Nat.le_refl, Nat.reduceEqDiff, Nat.reduceLeDiff, Nat.reduceLT, reduceIte, r1, r2, r3, r4, tc_lot (show 1 ≤ 1000 by decide) (show 1000 < 2147483648 by decide), Option.bind_some]
      rw [if_neg (by omega)]
      obtain ⟨o1, o2⟩ := tw_ord_lt (l := tw_dl dl E) i
      have go : tw_ok (f_run_putInOrder_45 r (f_run_putInOrder_2 r n) (nI i) (tw_dl dl E i) σ) (fun σ' => tw_fr (tc_S8 r) σ0 σ' ∧ tc_orO r (tw_dl dl E) σ' 0 (tw_ord (tw_dl dl E) N.1)) := by
        unfold f_run_putInOrder_45
        have := tc_ord48 (l := tw_dl dl E) (i := i) (by omega) h8 (f_run_putInOrder_2 r n) (fun σ' => tw_fr (tc_S8 r) σ0 σ' ∧ tc_orO r (tw_dl dl E) σ' 0 (tw_ord (tw_dl dl E) N.1)) (tw_ord (tw_dl dl E) i) [] σ rx_fu hor trivial (by rw [o2]; exact Nat.zero_add _) (by rw [o2]; show _ < 100000; omega) (fun σ' f k => ih (i + 1) σ' (by omega) (by omega) (f0.tr f) k)
        rw [o2] at this
        exact this
      cases dl with
      | false => rw [if_pos rfl]; exact go
      | true => rw [if_neg (by decide)]; exact go
theorem tc_order {σ : rx_St} {dl : Bool} (he : tc_env r W N E R σ) (hdl : σ.1 38 7 = tw_B dl) : tw_ok (f_run_putInOrder r σ) (fun σ' => tw_fr (tc_S8 r) σ σ' ∧ tc_orO r (tw_dl dl E) σ' 0 (tw_ord (tw_dl dl E) N.1)) := by
  have h2 := he.1.2
  exact tc_order_l he hdl rx_fu 0 σ (Nat.zero_le _) (by show _ < 100000; omega) tw_fr.rf trivial
def tc_fw (r : Nat) (σ : rx_St) : Nat → List Nat → Prop
  | _, [] => True
  | i, x :: os => σ.1 (62 + 7 * r) i = nI x ∧ tc_fw r σ (i + 1) os
theorem tc_fw_app {σ : rx_St} : ∀ (a b : List Nat) (i : Nat), tc_fw r σ i (a ++ b) ↔ tc_fw r σ i a ∧ tc_fw r σ (i + a.length) b
  | [], b, i => ⟨fun h => ⟨trivial, h⟩, fun h => h.2⟩
  | x :: a, b, i => by
    show (σ.1 (62 + 7 * r) i = nI x ∧ tc_fw r σ (i + 1) (a ++ b)) ↔ (σ.1 (62 + 7 * r) i = nI x ∧ tc_fw r σ (i + 1) a) ∧ _
    rw [tc_fw_app a b (i + 1), List.length_cons, show i + 1 + a.length = i + (a.length + 1) by omega]
    exact ⟨fun h => ⟨⟨h.1, h.2.1⟩, h.2.2⟩, fun h => ⟨h.1.1, h.1.2, h.2⟩⟩
theorem tc_fw_of {l : Nat → Int32} {σ : rx_St} : ∀ (L : List Nat), tc_orO r l σ 0 L → tc_fw r σ 0 L.reverse
  | [], _ => trivial
  | x :: L, ⟨⟨h1, _⟩, h2⟩ => by
    rw [List.reverse_cons, tc_fw_app]
    refine ⟨tc_fw_of L h2, ?_, trivial⟩
    rw [List.length_reverse]
    exact h1
theorem tc_fw.fr {σ σ' : rx_St} (h : ∀ j, σ'.1 (62 + 7 * r) j = σ.1 (62 + 7 * r) j) : ∀ (os : List Nat) (i : Nat), tc_fw r σ i os → tc_fw r σ' i os
  | [], _, _ => trivial
  | x :: os, i, ⟨h1, h2⟩ => ⟨by rw [h]; exact h1, tc_fw.fr h os (i + 1) h2⟩
/-- all WISHES of a TICK are in their rows -/
def tc_all (ev : Nat → List tw_Ev) (n : Nat) (σ : rx_St) : Prop := ∀ o, o < n → σ.1 45 o = nI (ev o).length ∧ tc_evs σ (48 * o) (ev o)
theorem tc_all.fr {ev : Nat → List tw_Ev} {n : Nat} {σ σ' : rx_St} (h : ∀ q j, 45 ≤ q → q ≤ 50 → σ'.1 q j = σ.1 q j) (g : tc_all ev n σ) : tc_all ev n σ' :=
  fun o ho => ⟨by rw [h _ _ (by omega) (by omega)]; exact (g o ho).1, tc_evs.fr _ _ (fun q j a b c d => h q j (by omega) (by omega)) (g o ho).2⟩
def tc_S9 (r q j : Nat) : Prop := tc_S7 r q j ∨ q = 57 + 7 * r ∧ j = 10
/-- the TICK after it -/
def tw_nx (E : tw_E) : tw_E := (E.1, E.2.1, E.2.2 + 1)
theorem tc_t77 {ev : Nat → List tw_Ev} {out : Int32} (hevs : ∀ o, o < N.1 → (∀ e ∈ ev o, tw_evok W N o e) ∧ (ev o).length ≤ 48) : ∀ (os : List Nat) (i : Nat) (R : tw_R) (σ : rx_St) (fuel : Nat), tc_env r W N E R σ → tc_fw r σ i os → (∀ x ∈ os, x < N.1) → i + os.length = N.1 → tc_all ev N.1 σ → os.length < fuel →
    tw_ok (f_run_step_77 r w fuel out (nI i) σ) (fun σ' => tw_fr (tc_S9 r) σ σ' ∧ tc_env r W N (tw_nx E) (tw_held (tw_done ev out os R)) σ') := by
  intro os
  induction os with
  | nil =>
    intro i R σ fuel he hfw hx hi hall hf
    obtain ⟨n, rfl⟩ : ∃ n, fuel = n + 1 := ⟨fuel - 1, by omega⟩
    have h1 := he.1.1
    have h20 := he.1.2
    rw [List.length_nil] at hi
    rw [f_run_step_77]
    simp (disch := omega) only [tw_L, tw_gN, tw_cl, tw_le, tw_lt, tw_eq, nI_add, pk_mul, tw_sub, tw_B0, tw_B1, tw_nb0, tw_nb1, tw_r1s, tw_r1n, if_true, if_false, Nat.le_refl, Nat.reduceEqDiff, Nat.reduceLeDiff, Nat.reduceLT, reduceIte, h1]
    rw [if_pos (by omega)]
    refine tw_b (tc_held he) (fun σ1 h => ?_)
    obtain ⟨f1, e1⟩ := h
    have ht := e1.2.2.2.2.1
    simp (disch := omega) only [tw_L, tw_gN, tw_cl, tw_le, tw_lt, tw_eq, nI_add, pk_mul, tw_sub, tw_B0, tw_B1, tw_nb0, tw_nb1, tw_r1s, tw_r1n, if_true, if_false, Nat.le_refl, Nat.reduceEqDiff, Nat.reduceLeDiff, Nat.reduceLT, reduceIte, ht]
    rw [tw_some]
    refine ⟨(f1.mn (fun q j h => Or.inl h)).si (Or.inr ⟨rfl, rfl⟩), ?_⟩
    obtain ⟨⟨h1, h2⟩, h3, h4, h5, h6, h7, h8⟩ := e1
    refine ⟨⟨by rw [tw_r1n _ _ (by omega)]; exact h1, h2⟩, fun q hq => ?_, fun i hi => by rw [tw_r1n _ _ (by omega)]; exact h4 i hi, by rw [tw_r1n _ _ (by omega)]; exact h5, tw_r1s _ _ _ _, h7, h8⟩
    obtain ⟨⟨g1, g2⟩, g3, ⟨g4, g5⟩, g6, g7⟩ := h3 q hq
    exact ⟨⟨by rw [tw_r1n _ _ (by omega)]; exact g1, g2⟩, by rw [tw_r1n _ _ (by omega)]; exact g3, ⟨by rw [tw_r1n _ _ (by omega)]; exact g4, g5⟩, by rw [tw_r1n _ _ (by omega)]; exact g6, fun v hv => by rw [tw_r1n _ _ (by omega)]; exact g7 v hv⟩
  | cons o os ih =>
    intro i R σ fuel he hfw hx hi hall hf
    obtain ⟨n, rfl⟩ : ∃ n, fuel = n + 1 := ⟨fuel - 1, by omega⟩
    have h1 := he.1.1
    have h20 := he.1.2
    obtain ⟨w1, w2⟩ := hfw
    rw [List.length_cons] at hi hf
    have ho := hx o List.mem_cons_self
    obtain ⟨k1, k2⟩ := hevs o ho
    obtain ⟨a1, a2⟩ := hall o ho
    have next : ∀ (R' : tw_R) (σ1 : rx_St), tw_fr (tc_S7 r) σ σ1 → tc_env r W N E R' σ1 → tw_ok (f_run_step_77 r w n out (nI (i + 1)) σ1) (fun σ' => tw_fr (tc_S9 r) σ σ' ∧ tc_env r W N (tw_nx E) (tw_held (tw_done ev out os R')) σ') := by
      intro R' σ1 f1 e1
      refine tw_mono (ih (i + 1) R' σ1 n e1 (tc_fw.fr (fun j => f1.i (by unfold tc_S7; omega)) os _ w2) (fun x hx2 => hx x (List.mem_cons_of_mem _ hx2)) (by omega) (hall.fr (fun q j a b => f1.i (by unfold tc_S7; omega))) (by omega)) (fun σ' h => ⟨tw_fr.tr (f1.mn (fun q j h => Or.inl h)) h.1, h.2⟩)
    rw [f_run_step_77]
    unfold f_run_step_108
    simp (disch := omega) only [tw_L, tw_gN, tw_cl, tw_le, tw_lt, tw_eq, nI_add, pk_mul, tw_sub, tw_B0, tw_B1, tw_nb0, tw_nb1, tw_r1s, tw_r1n, if_true, if_false, Nat.le_refl, Nat.reduceEqDiff, Nat.reduceLeDiff, Nat.reduceLT, reduceIte, h1, w1]
    rw [if_neg (by omega)]
    by_cases c : nI o = out
    · rw [tw_done, if_pos c, if_pos c]
      exact next R σ tw_fr.rf he
    · rw [tw_done, if_neg c, if_neg c]
      exact tw_b (tc_fulfil ho k2 he a2 a1 k1) (fun σ1 h => next _ σ1 h.1 h.2)
def tc_S10 (r q j : Nat) : Prop := tc_S2 q j ∨ 59 + 7 * r ≤ q ∧ q ≤ 63 + 7 * r ∨ q = 57 + 7 * r ∧ j = 10
theorem tc_t23 {cnt dl : Bool} {out : Int32} {σ0 : rx_St} (hw : w ≤ 1) : ∀ (fuel i : Nat) (σ : rx_St), i ≤ N.1 → N.1 - i < fuel → tc_env r W N E R σ → (cnt = true → tc_tab W N R σ) → tc_WC w cnt W σ → σ.1 38 7 = tw_B dl → tw_fr tc_S2 σ0 σ → tc_all (tw_evs W N E R) i σ →
    tw_ok (f_run_step_23 r w fuel out (nI i) σ) (fun σ' => tw_fr (tc_S10 r) σ0 σ' ∧ tc_env r W N (tw_nx E) (tw_tick W N dl E out R) σ' ∧ tc_all (tw_evs W N E R) N.1 σ') := by
  intro fuel
  induction fuel with
  | zero => intro i σ _ h; exact absurd h (Nat.not_lt_zero _)
  | succ n ih =>
    intro i σ hi hf he htab hC hdl f0 hall
    have h1 := he.1.1
    have h20 := he.1.2
    have hW := he.2.2.2.2.2.1
    have hr := he.2.2.2.2.2.2
    rw [f_run_step_23]
    by_cases hin : i = N.1
    · rw [hin] at hall ⊢
      simp (disch := omega) only [tw_L, tw_gN, tw_cl, tw_le, tw_lt, tw_eq, nI_add, pk_mul, tw_sub, tw_B0, tw_B1, tw_nb0, tw_nb1, tw_r1s, tw_r1n, if_true, if_false, Nat.le_refl, Nat.reduceEqDiff, Nat.reduceLeDiff, Nat.reduceLT, reduceIte, h1]
      refine tw_b (tc_order he hdl) (fun σ1 h => ?_)
      obtain ⟨f1, o1⟩ := h
      obtain ⟨q1, q2⟩ := tw_ord_lt (l := tw_dl dl E) N.1
      refine tw_mono (tc_t77 (w := w) (ev := tw_evs W N E R) (out := out) (fun o ho => tw_evs_ok hW (he.2.1 o ho).1.2) (tw_ord (tw_dl dl E) N.1).reverse 0 R σ1 rx_fu (he.fg (fun q j a => f1.i (by unfold tc_S8; omega))) (tc_fw_of _ o1) (fun x hx => q1 x (List.mem_reverse.mp hx)) (by rw [List.length_reverse, q2]; exact Nat.zero_add _) (hall.fr (fun q j a b => f1.i (by unfold tc_S8; omega))) (by rw [List.length_reverse, q2]; show _ < 100000; omega)) (fun σ' h => ⟨?_, h.2, (hall.fr (fun q j a b => f1.i (by unfold tc_S8; omega))).fr (fun q j a b => h.1.i (by unfold tc_S9 tc_S7; omega))⟩)
      exact tw_fr.tn f0 (tw_fr.tn f1 h.1 (S := tc_S10 r) (fun q j h => by unfold tc_S8 at h; unfold tc_S10; omega) (fun q j h => by unfold tc_S9 tc_S7 at h; unfold tc_S10; omega)) (fun q j h => Or.inl h) (fun q j h => h)
    · obtain ⟨⟨g1, g2⟩, g3, ⟨g4, g5⟩, g6, g7⟩ := he.2.1 i (by omega)
      -- behind one's choice
      have next : ∀ σ1 : rx_St, tw_fr (tc_S6 i) σ σ1 → σ1.1 45 i = nI (tw_evs W N E R i).length → tc_evs σ1 (48 * i) (tw_evs W N E R i) → tw_ok (f_run_step_23 r w n out (nI (i + 1)) σ1) (fun σ' => tw_fr (tc_S10 r) σ0 σ' ∧ tc_env r W N (tw_nx E) (tw_tick W N dl E out R) σ' ∧ tc_all (tw_evs W N E R) N.1 σ') := by
        intro σ1 f1 k2 k3
        have f2 : tw_fr tc_S2 σ σ1 := f1.mn tc_S62
        refine ih (i + 1) σ1 (by omega) (by omega) (he.f2 f2) (fun z => (htab z).fr (fun q j a b => f2.i (by unfold tc_S2; omega))) (hC.fr (fun q j a b => f2.i (by unfold tc_S2; omega))) (by rw [f2.i (by unfold tc_S2; omega)]; exact hdl) (f0.tr f2) (fun o ho => ?_)
        by_cases e : o = i
        · subst e; exact ⟨k2, k3⟩
        · have hb := hall o (by omega)
          have hl := (tw_evs_ok (R := R) (E := E) hW (he.2.1 o (by omega)).1.2).2
          exact ⟨by rw [f1.i (by unfold tc_S6 tc_S3 tc_S1; omega)]; exact hb.1, tc_evs.fr _ _ (fun q j a b c d => f1.i (by unfold tc_S6 tc_S3 tc_S1; omega)) hb.2⟩
      unfold f_run_step_65
      simp (disch := omega) only [tw_L, tw_gN, tw_cl, tw_le, tw_lt, tw_eq, nI_add, pk_mul, tw_sub, tw_B0, tw_B1, tw_nb0, tw_nb1, tw_r1s, tw_r1n, if_true, if_false, Nat.le_refl, Nat.reduceEqDiff, Nat.reduceLeDiff, Nat.reduceLT, reduceIte, h1, g6]
      rw [if_neg (by omega)]
      cases hq : R.2.2 i with
      | true =>
        rw [if_neg (by decide)]
        have hev : tw_evs W N E R i = [] := by unfold tw_evs; rw [hq, if_pos rfl]
        exact next _ (tw_fr.rf.si (by unfold tc_S6 tc_S3; omega)) (by rw [tw_r1s, hev]; rfl) (by rw [hev]; trivial)
      | false =>
        rw [if_pos rfl]
        have hev : tw_evs W N E R i = tw_rules N E R i (tw_kind W (N.2.1 i)).2 0 := by unfold tw_evs; rw [hq, if_neg (by decide)]
        refine tw_b (tc_choose hw (show i < N.1 by omega) he htab hC) (fun σ1 h => ?_)
        rw [← hev] at h
        exact next σ1 h.1 h.2.1 h.2.2
end TC7
