/-! THE MODEL'S TICK AND RUN, whole -/
def tm_S7 (q j : Nat) : Prop := 135 ≤ q ∧ q ≤ 146 ∨ q = 87 ∧ (j = 80 ∨ j = 81 ∨ j = 83)
def tm_fw (σ : rx_St) : Nat → List Nat → Prop
  | _, [] => True
  | i, x :: os => σ.1 144 i = nI x ∧ tm_fw σ (i + 1) os
theorem tm_fw_app {σ : rx_St} : ∀ (a b : List Nat) (i : Nat), tm_fw σ i (a ++ b) ↔ tm_fw σ i a ∧ tm_fw σ (i + a.length) b
  | [], b, i => ⟨fun h => ⟨trivial, h⟩, fun h => h.2⟩
  | x :: a, b, i => by
    show (σ.1 144 i = nI x ∧ tm_fw σ (i + 1) (a ++ b)) ↔ (σ.1 144 i = nI x ∧ tm_fw σ (i + 1) a) ∧ _
    rw [tm_fw_app a b (i + 1), List.length_cons, show i + 1 + a.length = i + (a.length + 1) by omega]
    exact ⟨fun h => ⟨⟨h.1, h.2.1⟩, h.2.2⟩, fun h => ⟨h.1.1, h.1.2, h.2⟩⟩
theorem tm_fw_of {σ : rx_St} : ∀ (L : List Nat), tm_orO σ 0 L → tm_fw σ 0 L.reverse
  | [], _ => trivial
  | x :: L, ⟨h1, h2⟩ => by
    rw [List.reverse_cons, tm_fw_app]
    refine ⟨tm_fw_of L h2, ?_, trivial⟩
    rw [List.length_reverse]
    exact h1
theorem tm_fw.fr {σ σ' : rx_St} (h : ∀ j, σ'.1 144 j = σ.1 144 j) : ∀ (os : List Nat) (i : Nat), tm_fw σ i os → tm_fw σ' i os
  | [], _, _ => trivial
  | x :: os, i, ⟨h1, h2⟩ => ⟨by rw [h]; exact h1, tm_fw.fr h os (i + 1) h2⟩
section TM8
variable {W : tw_Wo} {N : tw_N} {E : tw_E}
/-- all WISHES of a TICK are in their rows -/
def tm_all (N : tw_N) (ev : Nat → List tw_Ev) (n : Nat) (σ : rx_St) : Prop := ∀ o, o < n → σ.1 138 o = nI (ev o).length ∧ tm_evs σ (48 * o) (ev o)
theorem tm_all.fr {ev : Nat → List tw_Ev} {n : Nat} {σ σ' : rx_St} (h : ∀ q j, 138 ≤ q → q ≤ 143 → σ'.1 q j = σ.1 q j) (g : tm_all N ev n σ) : tm_all N ev n σ' :=
  fun o ho => ⟨by rw [h _ _ (by omega) (by omega)]; exact (g o ho).1, tm_evs.fr _ _ (fun q j a b c d => h q j (by omega) (by omega)) (g o ho).2⟩
theorem tm_t48 {o i : Nat} (hon : o < N.1) (k27 : Int32 → Int32 → rx_St → Option rx_St) (Q : rx_St → Prop) (out : Int32) (hno : ¬ nI o = out) : ∀ (es : List tw_Ev) (p : Nat) (R : tw_R) (σ : rx_St) (fuel : Nat),
    tm_env W N E R σ → tm_evs σ p es → (∀ e ∈ es, tw_evok W N o e) → (∃ z, σ.1 138 o = nI z ∧ 48 * o + z = p + es.length) → p + es.length ≤ 960 → es.length < fuel →
    (∀ σ', tw_fr tm_S6 σ σ' → tm_env W N E (tw_dos o es R) σ' → tw_ok (k27 out (nI (i + 1)) σ') Q) → tw_ok (f_m_tick_48 k27 fuel out (nI i) (nI o) (nI p) σ) Q := by
  intro es
  induction es with
  | nil =>
    intro p R σ fuel he hev hok hz hp hf cont
    obtain ⟨n, rfl⟩ : ∃ n, fuel = n + 1 := ⟨fuel - 1, by omega⟩
    obtain ⟨z, h7, hz⟩ := hz
    have h20 := he.1.2
    rw [List.length_nil] at hz hp
    rw [f_m_tick_48]
    unfold f_m_tick_82
    simp (disch := omega) only [tw_L, tw_gN, tw_cl, tw_le, tw_lt, tw_eq, nI_add, pk_mul, tw_sub, tw_B0, tw_B1, tw_nb0, tw_nb1, tw_r1s, tw_r1n, if_true, if_false, Nat.le_refl, Nat.reduceEqDiff, Nat.reduceLeDiff, Nat.reduceLT, reduceIte, h7]
    rw [if_pos (by omega)]
    exact cont σ tw_fr.rf he
  | cons e es ih =>
    intro p R σ fuel he hev hok hz hp hf cont
    obtain ⟨n, rfl⟩ : ∃ n, fuel = n + 1 := ⟨fuel - 1, by omega⟩
    obtain ⟨z, h7, hz⟩ := hz
    have h20 := he.1.2
    rw [List.length_cons] at hz hp hf
    rw [f_m_tick_48]
    simp (disch := omega) only [tw_L, tw_gN, tw_cl, tw_le, tw_lt, tw_eq, nI_add, pk_mul, tw_sub, tw_B0, tw_B1, tw_nb0, tw_nb1, tw_r1s, tw_r1n, if_true, if_false, Nat.le_refl, Nat.reduceEqDiff, Nat.reduceLeDiff, Nat.reduceLT, reduceIte, h7]
    rw [if_neg (by omega), if_neg hno]
    refine tw_b (tm_does hon he (by omega) hev.1 (hok e List.mem_cons_self)) (fun σ1 h1 => ?_)
    obtain ⟨f1, e1⟩ := h1
    refine ih (p + 1) (tw_do o R e) σ1 n e1 (tm_evs.fr es _ (fun q j a b c d => f1.i (by unfold tm_S6; omega)) hev.2) (fun e he => hok e (List.mem_cons_of_mem _ he)) ⟨z, by rw [f1.i (by unfold tm_S6; omega)]; exact h7, by omega⟩ (by omega) (by omega) (fun σ' f2 e2 => cont σ' (f1.tr f2) e2)
theorem tw_clamp (x : Int32) : (if -nI 9999 ≤ x then (if x ≤ nI 9999 then x else nI 9999) else -nI 9999) = tw_hold x := by
  unfold tw_hold
  by_cases h : x < -nI 9999
  · rw [if_pos h, if_neg (Int32.not_le.mpr h)]
  · rw [if_neg h, if_pos (Int32.not_lt.mp h)]
    by_cases h2 : nI 9999 < x
    · rw [if_pos h2, if_neg (Int32.not_le.mpr h2)]
    · rw [if_neg h2, if_pos (Int32.not_lt.mp h2)]
theorem tm_t90 {n : Nat} (hn : n ≤ 20) (σ0 : rx_St) (h1 : σ0.1 87 60 = nI n) : ∀ (fuel i : Nat) (σ : rx_St), i ≤ 6 * n → 6 * n - i < fuel → tw_fr (fun q _ => q = 135) σ0 σ → (∀ j, j < i → σ.1 135 j = tw_hold (σ0.1 135 j)) → (∀ j, i ≤ j → σ.1 135 j = σ0.1 135 j) →
    tw_ok (f_m_tick_90 fuel (nI i) σ) (fun σ' => tw_fr (fun q _ => q = 135) σ0 σ' ∧ ∀ j, j < 6 * n → σ'.1 135 j = tw_hold (σ0.1 135 j)) := by
  intro fuel
  induction fuel with
  | zero => intro i σ _ h; exact absurd h (Nat.not_lt_zero _)
  | succ m ih =>
    intro i σ hi hf f0 ha hb
    have r1 : σ.1 87 60 = nI n := (f0.i (show ¬ 87 = 135 by decide)).trans h1
    rw [f_m_tick_90]
    simp (disch := omega) only [tw_L, tw_gN, tw_cl, tw_le, tw_lt, tw_eq, nI_add, pk_mul, tw_sub, tw_B0, tw_B1, tw_nb0, tw_nb1, tw_r1s, tw_r1n, if_true, if_false, Nat.le_refl, Nat.reduceEqDiff, Nat.reduceLeDiff, Nat.reduceLT, reduceIte, r1]
    by_cases hin : i = 6 * n
    · rw [if_pos (by omega), tw_some]
      exact ⟨f0, fun j hj => ha j (by omega)⟩
    · rw [if_neg (by omega), hb i (Nat.le_refl _)]
      have go : ∀ z, z = tw_hold (σ0.1 135 i) → tw_ok (f_m_tick_148 (f_m_tick_90 m) (nI i) (nI i) z σ) (fun σ' => tw_fr (fun q _ => q = 135) σ0 σ' ∧ ∀ j, j < 6 * n → σ'.1 135 j = tw_hold (σ0.1 135 j)) := by
        intro z hz
        unfold f_m_tick_148
        simp (disch := omega) only [tw_L, tw_gN, tw_cl, tw_le, tw_lt, tw_eq, nI_add, pk_mul, tw_sub, tw_B0, tw_B1, tw_nb0, tw_nb1, tw_r1s, tw_r1n, if_true, if_false, Nat.le_refl, Nat.reduceEqDiff, Nat.reduceLeDiff, Nat.reduceLT, reduceIte]
        refine ih (i + 1) _ (by omega) (by omega) (f0.si rfl) (fun j hj => ?_) (fun j hj => by rw [tw_r1n _ _ (by omega)]; exact hb j (by omega))
        by_cases e : j = i
        · subst e; rw [tw_r1s]; exact hz
        · rw [tw_r1n _ _ (by omega)]; exact ha j (by omega)
      have hc := tw_clamp (σ0.1 135 i)
      by_cases c1 : -nI 9999 ≤ σ0.1 135 i
      · rw [if_pos c1] at hc ⊢
        by_cases c2 : σ0.1 135 i ≤ nI 9999
        · rw [if_pos c2] at hc ⊢; exact go _ hc
        · rw [if_neg c2] at hc ⊢; exact go _ hc
      · rw [if_neg c1] at hc ⊢; exact go _ hc
theorem tm_held {R : tw_R} {σ σ' : rx_St} (he : tm_env W N E R σ) (f : tw_fr (fun q _ => q = 135) σ σ') (h : ∀ j, j < 6 * N.1 → σ'.1 135 j = tw_hold (σ.1 135 j)) : tm_env W N E (tw_held R) σ' := by
  obtain ⟨⟨h1, h2⟩, h3, h4, h5, h6, h7⟩ := he
  have g : ∀ {q j : Nat}, q ≠ 135 → σ'.1 q j = σ.1 q j := fun h => f.i h
  refine ⟨⟨by rw [g (by decide)]; exact h1, h2⟩, fun q hq => ?_, fun i hi => by rw [g (by decide)]; exact h4 i hi, by rw [g (by decide)]; exact h5, by rw [g (by decide)]; exact h6, h7⟩
  obtain ⟨⟨g1, g2⟩, g3, ⟨g4, g5⟩, g6, g7⟩ := h3 q hq
  refine ⟨⟨by rw [g (by decide)]; exact g1, g2⟩, by rw [g (by decide)]; exact g3, ⟨by rw [g (by decide)]; exact g4, g5⟩, by rw [g (by decide)]; exact g6, fun v hv => ?_⟩
  have := (h7.2.2 _ g2).1
  rw [h _ (by omega), g7 v hv]
  rfl
theorem tm_t27 {ev : Nat → List tw_Ev} {out : Int32} (hevs : ∀ o, o < N.1 → (∀ e ∈ ev o, tw_evok W N o e) ∧ (ev o).length ≤ 48) : ∀ (os : List Nat) (i : Nat) (R : tw_R) (σ : rx_St) (fuel : Nat), tm_env W N E R σ → tm_fw σ i os → (∀ x ∈ os, x < N.1) → i + os.length = N.1 → tm_all N ev N.1 σ → os.length < fuel →
    tw_ok (f_m_tick_27 fuel out (nI i) σ) (fun σ' => tw_fr tm_S6 σ σ' ∧ tm_env W N E (tw_held (tw_done ev out os R)) σ') := by
  intro os
  induction os with
  | nil =>
    intro i R σ fuel he hfw hx hi hall hf
    obtain ⟨n, rfl⟩ : ∃ n, fuel = n + 1 := ⟨fuel - 1, by omega⟩
    have h1 := he.1.1
    have h20 := he.1.2
    rw [List.length_nil] at hi
    rw [f_m_tick_27]
    simp (disch := omega) only [tw_L, tw_gN, tw_cl, tw_le, tw_lt, tw_eq, nI_add, pk_mul, tw_sub, tw_B0, tw_B1, tw_nb0, tw_nb1, tw_r1s, tw_r1n, if_true, if_false, Nat.le_refl, Nat.reduceEqDiff, Nat.reduceLeDiff, Nat.reduceLT, reduceIte, h1]
    rw [if_pos (by omega)]
    refine tw_mono (tm_t90 h20 σ h1 rx_fu 0 σ (Nat.zero_le _) (by unfold rx_fu; omega) tw_fr.rf (fun j h => absurd h (Nat.not_lt_zero _)) (fun _ _ => rfl)) (fun σ' h => ?_)
    exact ⟨h.1.mn (fun q j h => by unfold tm_S6; omega), tm_held he h.1 h.2⟩
  | cons o os ih =>
    intro i R σ fuel he hfw hx hi hall hf
    obtain ⟨n, rfl⟩ : ∃ n, fuel = n + 1 := ⟨fuel - 1, by omega⟩
    have h1 := he.1.1
    have h20 := he.1.2
    obtain ⟨w1, w2⟩ := hfw
    rw [List.length_cons] at hi hf
    have ho := hx o List.mem_cons_self
    rw [f_m_tick_27]
    simp (disch := omega) only [tw_L, tw_gN, tw_cl, tw_le, tw_lt, tw_eq, nI_add, pk_mul, tw_sub, tw_B0, tw_B1, tw_nb0, tw_nb1, tw_r1s, tw_r1n, if_true, if_false, Nat.le_refl, Nat.reduceEqDiff, Nat.reduceLeDiff, Nat.reduceLT, reduceIte, h1, w1]
    rw [if_neg (by omega)]
    obtain ⟨k1, k2⟩ := hevs o ho
    obtain ⟨a1, a2⟩ := hall o ho
    have next : ∀ (R' : tw_R) (σ1 : rx_St), tw_fr tm_S6 σ σ1 → tm_env W N E R' σ1 → tw_ok (f_m_tick_27 n out (nI (i + 1)) σ1) (fun σ' => tw_fr tm_S6 σ σ' ∧ tm_env W N E (tw_held (tw_done ev out os R')) σ') := by
      intro R' σ1 f1 e1
      refine tw_mono (ih (i + 1) R' σ1 n e1 (tm_fw.fr (fun j => f1.i (by unfold tm_S6; omega)) os _ w2) (fun x hx2 => hx x (List.mem_cons_of_mem _ hx2)) (by omega) (hall.fr (fun q j a b => f1.i (by unfold tm_S6; omega))) (by omega)) (fun σ' h => ⟨f1.tr h.1, h.2⟩)
    by_cases c : nI o = out
    · rw [tw_done, if_pos c]
      obtain ⟨m, hm⟩ : ∃ m, rx_fu = m + 1 := ⟨99999, rfl⟩
      rw [hm, f_m_tick_48]
      unfold f_m_tick_82
      simp (disch := omega) only [tw_L, tw_gN, tw_cl, tw_le, tw_lt, tw_eq, nI_add, pk_mul, tw_sub, tw_B0, tw_B1, tw_nb0, tw_nb1, tw_r1s, tw_r1n, if_true, if_false, Nat.le_refl, Nat.reduceEqDiff, Nat.reduceLeDiff, Nat.reduceLT, reduceIte, a1]
      by_cases c2 : 48 * o + (ev o).length ≤ 48 * o
      · rw [if_pos c2]; exact next R σ tw_fr.rf he
      · rw [if_neg c2, if_pos c]; exact next R σ tw_fr.rf he
    · rw [tw_done, if_neg c]
      exact tm_t48 (i := i) ho (f_m_tick_27 n) _ out c (ev o) (48 * o) R σ rx_fu he a2 k1 ⟨_, a1, rfl⟩ (by omega) (by unfold rx_fu; omega) (fun σ' f1 e1 => next _ σ' f1 e1)
theorem tm_t2 {R : tw_R} {lv : Nat} {dl : Bool} {out : Int32} {σ0 : rx_St} (hM0 : tm_MW W lv σ0) (hdl : σ0.1 87 65 = tw_B dl) : ∀ (fuel i : Nat) (σ : rx_St), i ≤ N.1 → N.1 - i < fuel → tm_env W N E R σ → tw_fr tm_S2 σ0 σ → tm_all N (tw_evs W N E R) i σ →
    tw_ok (f_m_tick_2 fuel out (nI i) σ) (fun σ' => tw_fr tm_S7 σ0 σ' ∧ tm_env W N E (tw_tick W N dl E out R) σ') := by
  intro fuel
  induction fuel with
  | zero => intro i σ _ h; exact absurd h (Nat.not_lt_zero _)
  | succ n ih =>
    intro i σ hi hf he f0 hall
    have h1 := he.1.1
    have h20 := he.1.2
    have hW := he.2.2.2.2.2
    have hM := hM0.fr (fun q j a b => f0.i (by unfold tm_S2 tm_S1; omega)) (f0.i (by unfold tm_S2 tm_S1; omega))
    rw [f_m_tick_2]
    by_cases hin : i = N.1
    · subst hin
      simp (disch := omega) only [tw_L, tw_gN, tw_cl, tw_le, tw_lt, tw_eq, nI_add, pk_mul, tw_sub, tw_B0, tw_B1, tw_nb0, tw_nb1, tw_r1s, tw_r1n, if_true, if_false, Nat.le_refl, Nat.reduceEqDiff, Nat.reduceLeDiff, Nat.reduceLT, reduceIte, h1]
      refine tw_b (tm_orders (dl := dl) he (by rw [f0.i (by unfold tm_S2 tm_S1; omega)]; exact hdl)) (fun σ1 h => ?_)
      obtain ⟨f1, o1⟩ := h
      obtain ⟨q1, q2⟩ := tw_ord_lt (l := tw_dl dl E) N.1
      have he1 : tm_env W N E R σ1 := by
        obtain ⟨⟨h1, h2⟩, h3, h4, h5, h6, h7⟩ := he
        have g : ∀ {q j : Nat}, q ≠ 144 → q ≠ 145 → σ1.1 q j = σ.1 q j := fun a b => f1.i (by unfold tm_S5; omega)
        refine ⟨⟨by rw [g (by decide) (by decide)]; exact h1, h2⟩, fun q hq => ?_, fun i hi => by rw [g (by decide) (by decide)]; exact h4 i hi, by rw [g (by decide) (by decide)]; exact h5, by rw [g (by decide) (by decide)]; exact h6, h7⟩
        obtain ⟨⟨g1, g2⟩, g3, ⟨g4, g5⟩, g6, g7⟩ := h3 q hq
        exact ⟨⟨by rw [g (by decide) (by decide)]; exact g1, g2⟩, by rw [g (by decide) (by decide)]; exact g3, ⟨by rw [g (by decide) (by decide)]; exact g4, g5⟩, by rw [g (by decide) (by decide)]; exact g6, fun v hv => by rw [g (by decide) (by decide)]; exact g7 v hv⟩
      refine tw_mono (tm_t27 (ev := tw_evs W N E R) (out := out) (fun o ho => tw_evs_ok hW (he.2.1 o ho).1.2) (tw_ord (tw_dl dl E) N.1).reverse 0 R σ1 rx_fu he1 (tm_fw_of _ o1) (fun x hx => q1 x (List.mem_reverse.mp hx)) (by rw [List.length_reverse, q2]; exact Nat.zero_add _) (hall.fr (fun q j a b => f1.i (by unfold tm_S5; omega))) (by rw [List.length_reverse, q2]; unfold rx_fu; omega)) (fun σ' h => ⟨?_, h.2⟩)
      exact tw_fr.tn f0 (tw_fr.tn f1 h.1 (S := tm_S7) (fun q j h => by unfold tm_S5 at h; unfold tm_S7; omega) (fun q j h => by unfold tm_S6 at h; unfold tm_S7; omega)) (fun q j h => by unfold tm_S2 tm_S1 at h; unfold tm_S7; omega) (fun q j h => h)
    · simp (disch := omega) only [tw_L, tw_gN, tw_cl, tw_le, tw_lt, tw_eq, nI_add, pk_mul, tw_sub, tw_B0, tw_B1, tw_nb0, tw_nb1, tw_r1s, tw_r1n, if_true, if_false, Nat.le_refl, Nat.reduceEqDiff, Nat.reduceLeDiff, Nat.reduceLT, reduceIte, h1]
      rw [if_neg (by omega)]
      refine tw_b (tm_chooses (o := i) (by omega) he hM) (fun σ1 h => ?_)
      obtain ⟨f1, k1, k2, k3⟩ := h
      refine ih (i + 1) σ1 (by omega) (by omega) (he.fr f1) (f0.tr f1) (fun o ho => ?_)
      by_cases e : o = i
      · subst e; exact ⟨k2, k3⟩
      · have hb := hall o (by omega)
        have hl := (tw_evs_ok (R := R) (E := E) hW (he.2.1 o (by omega)).1.2).2
        exact ⟨by rw [k1 _ _ (by omega) (by omega) (by unfold tm_S3 tm_S1; omega)]; exact hb.1, tm_evs.fr _ _ (fun q j a b c d => k1 q j (by omega) (by omega) (by unfold tm_S3 tm_S1; omega)) hb.2⟩
theorem tm_tick {R : tw_R} {lv : Nat} {dl : Bool} {out : Int32} {σ : rx_St} (he : tm_env W N E R σ) (hM : tm_MW W lv σ) (hdl : σ.1 87 65 = tw_B dl) :
    tw_ok (f_m_tick out σ) (fun σ' => tw_fr tm_S7 σ σ' ∧ tm_env W N E (tw_tick W N dl E out R) σ') := by
  have h20 := he.1.2
  exact tm_t2 hM hdl rx_fu 0 σ (Nat.zero_le _) (by unfold rx_fu; omega) he tw_fr.rf (fun o ho => absurd ho (Nat.not_lt_zero _))
end TM8
