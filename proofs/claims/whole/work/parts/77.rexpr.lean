/-! THE CLASS'S READER: parseE -/
theorem ty_tkn_m {T : List tw_Tk} {k : Nat} {s : ty_Ps} (h : (ty_tkn T k s).1 = 0) : s.1 = 0 ∧ s.2 + 1 = (ty_tkn T k s).2 := by
  obtain ⟨a, -, -, b⟩ := ty_tkn_0 h
  exact ⟨a, b.symm⟩
theorem ty_eO_m {T : List tw_Tk} : ∀ (j : Nat) (s : ty_Ps) (op : Nat) (ws : List Nat), (ty_eO T j s op ws).1.1 = 0 → s.1 = 0 ∧ s.2 ≤ (ty_eO T j s op ws).1.2
  | 0, s, op, ws, h => ⟨h, Nat.le_refl _⟩
  | j + 1, s, op, ws, h => by
    unfold ty_eO at h ⊢
    by_cases c : ty_nx T s = 35
    · rw [if_pos c] at h ⊢
      obtain ⟨h1, h2⟩ := ty_eO_m j _ _ _ h
      obtain ⟨h3, h4⟩ := ty_tkn_m h1
      obtain ⟨h5, -, h6⟩ := ty_room_0 h3
      rw [h6] at h4 h2 ⊢
      exact ⟨h5, by omega⟩
    · rw [if_neg c] at h ⊢
      exact ⟨h, Nat.le_refl _⟩
theorem ty_eU_m {T : List tw_Tk} {s : ty_Ps} (h : (ty_eU T s).1.1 = 0) : s.1 = 0 ∧ s.2 + 1 ≤ (ty_eU T s).1.2 := by
  have one : ∀ k (o : List ty_Uo), (ty_tkn T k s, o).1.1 = 0 → s.1 = 0 ∧ s.2 + 1 ≤ (ty_tkn T k s, o).1.2 := fun k o z => by
    obtain ⟨a, b⟩ := ty_tkn_m (show (ty_tkn T k s).1 = 0 from z)
    exact ⟨a, Nat.le_of_eq b⟩
  have two : ∀ k k' (o : List ty_Uo), (ty_tkn T k' (ty_tkn T k s), o).1.1 = 0 → s.1 = 0 ∧ s.2 + 1 ≤ (ty_tkn T k' (ty_tkn T k s), o).1.2 := fun k k' o z => by
    obtain ⟨a, b⟩ := ty_tkn_m (show (ty_tkn T k' (ty_tkn T k s)).1 = 0 from z)
    obtain ⟨c, d⟩ := ty_tkn_m a
    refine ⟨c, ?_⟩
    show s.2 + 1 ≤ (ty_tkn T k' (ty_tkn T k s)).2
    omega
  unfold ty_eU at h ⊢
  by_cases c : ty_nx T s = 24
  · rw [if_pos c] at h ⊢; exact one _ _ h
  rw [if_neg c] at h ⊢
  by_cases c : ty_nx T s = 23
  · rw [if_pos c] at h ⊢; exact one _ _ h
  rw [if_neg c] at h ⊢
  by_cases c : ty_nx T s = 17
  · rw [if_pos c] at h ⊢; exact one _ _ h
  rw [if_neg c] at h ⊢
  by_cases c : ty_nx T s = 18
  · rw [if_pos c] at h ⊢; exact one _ _ h
  rw [if_neg c] at h ⊢
  by_cases c : ty_nx T s = 19
  · rw [if_pos c] at h ⊢; exact one _ _ h
  rw [if_neg c] at h ⊢
  by_cases c : ty_nx T s = 20
  · rw [if_pos c] at h ⊢; exact two _ _ _ h
  rw [if_neg c] at h ⊢
  by_cases c : ty_nx T s = 22
  · rw [if_pos c] at h ⊢; exact two _ _ _ h
  rw [if_neg c] at h ⊢
  by_cases c : ty_nx T s = 21
  · rw [if_pos c] at h ⊢
    obtain ⟨a, b⟩ := ty_tkn_m (show (ty_tkn T 23 (ty_tkn T 23 (ty_tkn T 21 s))).1 = 0 from h)
    obtain ⟨a', b'⟩ := ty_tkn_m a
    obtain ⟨c, d⟩ := ty_tkn_m a'
    refine ⟨c, ?_⟩
    show s.2 + 1 ≤ (ty_tkn T 23 (ty_tkn T 23 (ty_tkn T 21 s))).2
    omega
  rw [if_neg c] at h ⊢
  exact one _ _ h
theorem ty_eC_m {T : List tw_Tk} : ∀ (j : Nat) (s : ty_Ps) (op : Nat) (ws : List Nat) (o : List ty_Uo), (ty_eC T j s op ws o).1.1 = 0 → s.1 = 0 ∧ s.2 ≤ (ty_eC T j s op ws o).1.2
  | 0, s, op, ws, o, h => ⟨h, Nat.le_refl _⟩
  | j + 1, s, op, ws, o, h => by
    unfold ty_eC at h ⊢
    by_cases c : 0 < op ∧ ty_nx T s = 36
    · rw [if_pos c] at h ⊢
      obtain ⟨h1, h2⟩ := ty_eC_m j _ _ _ _ h
      obtain ⟨h3, h4⟩ := ty_tkn_m h1
      exact ⟨h3, by omega⟩
    · rw [if_neg c] at h ⊢
      exact ⟨h, Nat.le_refl _⟩
/-- behind the brackets -/
def ty_eLk (T : List tw_Tk) (m : Nat) (c : ty_Ps × Nat × List Nat × List ty_Uo) : ty_Ps × List ty_Uo :=
  if 27 ≤ ty_nx T c.1 ∧ ty_nx T c.1 ≤ 30 then ty_eL T m (ty_tkn T (ty_nx T c.1) c.1) c.2.1 (ty_nx T c.1 :: (ty_dr (ty_nx T c.1) c.2.2.1).1) (c.2.2.2 ++ (ty_dr (ty_nx T c.1) c.2.2.1).2) else ((if c.1.1 = 0 ∧ 0 < c.2.1 then (1, c.1.2) else c.1), c.2.2.2 ++ (ty_dr 27 c.2.2.1).2)
def ty_eLc (T : List tw_Tk) (s : ty_Ps) (op : Nat) (ws : List Nat) (o : List ty_Uo) : ty_Ps × Nat × List Nat × List ty_Uo :=
  ty_eC T 7 (ty_eU T (ty_eO T 7 s op ws).1).1 (ty_eO T 7 s op ws).2.1 (ty_eO T 7 s op ws).2.2 (o ++ (ty_eU T (ty_eO T 7 s op ws).1).2)
theorem ty_eL_s {T : List tw_Tk} {m : Nat} {s : ty_Ps} {op : Nat} {ws : List Nat} {o : List ty_Uo} (h : s.1 = 0) : ty_eL T (m + 1) s op ws o = ty_eLk T m (ty_eLc T s op ws o) := by
  unfold ty_eL
  rw [if_pos h]
  rfl
theorem ty_eL_f {T : List tw_Tk} {m : Nat} {s : ty_Ps} {op : Nat} {ws : List Nat} {o : List ty_Uo} (h : ¬ s.1 = 0) : ty_eL T (m + 1) s op ws o = (s, o) := by
  unfold ty_eL
  rw [if_neg h]
section TZ4
variable {v : Nat} {T : List tw_Tk} {n : Nat}
theorem tz_172 {s : ty_Ps} {d op : Nat} {ws : List Nat} {C : List tz_Cd} {o : List ty_Uo} {σ0 σ : rx_St} (hv : v ≤ 1) (hop : op ≤ 13) (h : tz_ee v T n s d op ws (C ++ o.map tz_uc) σ) (f : tw_fr (tz_S v) σ0 σ) : tw_ok (f_rea_parseE_172 v (nI op) σ) (fun σ' => tw_fr (tz_S v) σ0 σ' ∧ tz_pp v T n (if s.1 = 0 ∧ 0 < op then (1, s.2) else s) d (C ++ (o ++ (ty_dr 27 ws).2).map tz_uc) σ') := by
  have fin : ∀ (s' : ty_Ps) (τ : rx_St), tz_ee v T n s' d op ws (C ++ o.map tz_uc) τ → tw_fr (tz_S v) σ0 τ → tw_ok (f_rea_parseE_188 v τ) (fun σ' => tw_fr (tz_S v) σ0 σ' ∧ tz_pp v T n s' d (C ++ (o ++ (ty_dr 27 ws).2).map tz_uc) σ') := by
    intro s' τ g fτ
    unfold f_rea_parseE_188
    refine tw_b (tz_ew hv (sg := 27) (by omega) g) (fun σ' k => ?_)
    rw [tw_some]
    refine ⟨fτ.tr k.1, ?_⟩
    rw [List.map_append, ← List.append_assoc]
    exact k.2.pp.le (by omega)
  have s2 := h.2.1.2.2.1
  unfold f_rea_parseE_172
  rw [h.2.1.1, show (0 : Int32) = nI 0 from rfl, tw_ifE (tw_eq (a := s.1) (b := 0) (by omega) (by omega))]
  by_cases z : s.1 = 0
  · rw [if_pos z, tw_ifE (tw_le (a := op) (b := 0) (by omega) (by omega))]
    by_cases c : op ≤ 0
    · rw [if_pos c, if_neg (fun y => absurd y.2 (by omega))]
      exact fin s σ h f
    · rw [if_neg c, if_pos ⟨z, by omega⟩]
      refine fin (1, s.2) _ ⟨h.1.fr (fun q j a b => ⟨tw_r1n _ _ (by omega), rfl⟩), ⟨tw_r1s _ _ _ _, by rw [tw_r1n _ _ (by omega)]; exact h.2.1.2.1, by show 1 ≤ 2; omega, h.2.1.2.2.2⟩, h.2.2.1.fr (tw_r1n _ _ (by omega)) (tw_r1n _ _ (by omega)), fun y => absurd (show 1 = 0 from y) (by decide)⟩ (f.si (by unfold tz_S; omega))
  · rw [if_neg z, if_neg (fun y => z y.1)]
    exact fin s σ h f
theorem tz_loopE {d : Nat} {σ0 : rx_St} (hv : v ≤ 1) : ∀ (m i f op : Nat) (ws : List Nat) (s : ty_Ps) (C : List tz_Cd) (o : List ty_Uo) (σ : rx_St), m + i = 501 → m < f → (s.1 = 0 → 2 * i ≤ s.2) → op ≤ 13 → tz_ee v T n s d op ws (C ++ o.map tz_uc) σ → tw_fr (tz_S v) σ0 σ →
    tw_ok (f_rea_parseE_9 v f (nI op) (nI i) σ) (fun σ' => tw_fr (tz_S v) σ0 σ' ∧ tz_pp v T n (ty_eL T m s op ws o).1 d (C ++ (ty_eL T m s op ws o).2.map tz_uc) σ') := by
  intro m
  induction m with
  | zero =>
    intro i f op ws s C o σ hi hm hs hop h fr
    obtain ⟨f, rfl⟩ : ∃ f', f = f' + 1 := ⟨f - 1, by omega⟩
    have s5 := h.2.1.2.2.2.1
    have z : ¬ s.1 = 0 := fun z => by have := hs z; omega
    unfold f_rea_parseE_9
    rw [if_pos (show (500 : Int32) ≤ nI i by rw [show (500 : Int32) = nI 500 from rfl, tw_le (by omega) (by omega)]; omega)]
    have := tz_172 hv hop h fr
    rw [if_neg (fun y => z y.1)] at this
    exact tw_mono this (fun σ' g => ⟨g.1, ⟨g.2.1, g.2.2.1, g.2.2.2.1, fun y => absurd y z⟩⟩)
  | succ m ih =>
    intro i f op ws s C o σ hi hm hs hop h fr
    obtain ⟨f, rfl⟩ : ∃ f', f = f' + 1 := ⟨f - 1, by omega⟩
    have s5 := h.2.1.2.2.2.1
    have s2 := h.2.1.2.2.1
    unfold f_rea_parseE_9
    by_cases z : s.1 = 0
    · have i500 : ¬ 500 ≤ i := by have := hs z; omega
      obtain ⟨-, -, -, -, -, op6⟩ := h.2.2.2 z
      rw [ty_eL_s z, if_neg (show ¬ (500 : Int32) ≤ nI i by rw [show (500 : Int32) = nI 500 from rfl, tw_le (by omega) (by omega)]; exact i500), h.2.1.1, if_pos (show nI s.1 = (0 : Int32) by rw [z]; rfl)]
      refine tz_opens (v2 := nI i) (k9 := f_rea_parseE_9 v f) hv _ 7 rx_fu op ws s (C ++ o.map tz_uc) σ (by omega) (by show _ < 100000; omega) (by omega) h fr (fun σ1 f1 o1 h1 => ?_)
      unfold f_rea_parseE_69
      refine tw_b (tz_unit hv h1) (fun σ2 g => ?_)
      obtain ⟨f2, h2⟩ := g
      have h2' : tz_ee v T n (ty_eU T (ty_eO T 7 s op ws).1).1 d (ty_eO T 7 s op ws).2.1 (ty_eO T 7 s op ws).2.2 (C ++ (o ++ (ty_eU T (ty_eO T 7 s op ws).1).2).map tz_uc) σ2 := by
        rw [List.map_append, ← List.append_assoc]
        exact h2
      refine tz_closes (σ0 := σ0) (v2 := nI i) (k9 := f_rea_parseE_9 v f) hv _ 7 rx_fu _ _ _ C _ σ2 (by omega) (by show _ < 100000; omega) o1 h2' (f1.tr f2) (fun σ3 f3 o3 h3 => ?_)
      unfold ty_eLc
      generalize hc : ty_eC T 7 (ty_eU T (ty_eO T 7 s op ws).1).1 (ty_eO T 7 s op ws).2.1 (ty_eO T 7 s op ws).2.2 (o ++ (ty_eU T (ty_eO T 7 s op ws).1).2) = c at h3 o3 ⊢
      unfold ty_eLk
      have hn := tz_next h3.1 h3.2.1
      have hK := ty_nx_le (fun i x y => (h3.1.2 i x y).1) c.1
      unfold f_rea_parseE_130
      rw [hn, Option.bind_some]
      rw [tw_ifE (show (nI (ty_nx T c.1) < (27 : Int32)) = (ty_nx T c.1 < 27) by rw [show (27 : Int32) = nI 27 from rfl, tw_lt (by omega) (by omega)])]
      by_cases k1 : ty_nx T c.1 < 27
      · rw [if_pos k1, if_neg (fun y => absurd y.1 (by omega))]
        exact tz_172 hv o3 h3 f3
      · rw [if_neg k1, tw_ifE (show (nI (ty_nx T c.1) ≤ (30 : Int32)) = (ty_nx T c.1 ≤ 30) by rw [show (30 : Int32) = nI 30 from rfl, tw_le (by omega) (by omega)])]
        by_cases k2 : ty_nx T c.1 ≤ 30
        · rw [if_pos k2, if_pos ⟨by omega, k2⟩]
          refine tw_b (tz_ew hv (sg := ty_nx T c.1) (by omega) h3) (fun σ4 g => ?_)
          obtain ⟨f4, h4⟩ := g
          refine tw_b (h4.tk hv (k := ty_nx T c.1) (by omega) (by omega)) (fun y g => ?_)
          obtain ⟨-, f5, h5⟩ := g
          have gz := ty_nx_0 (T := T) (s := c.1) (by omega)
          obtain ⟨-, -, -, -, w1, w2⟩ := h3.2.2.2 gz.1
          have wd := ty_dr_ok (ty_nx T c.1) _ _ w1
          have ln := ty_wf_len _ _ wd.1
          have t2 := ty_tp2 (ty_dr (ty_nx T c.1) c.2.2.1).1
          have n35 : ¬ ty_nx T c.1 = 35 := by omega
          refine tw_b (tz_ee.aw (k := ty_nx T c.1) (d := d) (op' := c.2.1) (by rw [if_neg n35]; exact h5) (by omega) (fun _ => ⟨ty_wf_push w1 (by omega) k2, w2, by omega⟩)) (fun σ6 g => ?_)
          obtain ⟨f6, h6⟩ := g
          rw [show nI i + (1 : Int32) = nI (i + 1) from nI_add i 1]
          refine ih (i + 1) f c.2.1 _ _ C _ σ6 (by omega) (by omega) (fun y => ?_) o3 ?_ (((f3.tr f4).tr (f5.mn tz_S1S)).tr f6)
          · obtain ⟨y1, y2⟩ := ty_tkn_m y
            rw [← hc] at y1 y2
            obtain ⟨y3, y4⟩ := ty_eC_m 7 _ _ _ _ y1
            obtain ⟨y5, y6⟩ := ty_eU_m y3
            obtain ⟨-, y8⟩ := ty_eO_m 7 _ _ _ y5
            have := hs z
            rw [hc] at y2 y4
            omega
          · rw [List.map_append, ← List.append_assoc]
            exact h6
        · rw [if_neg k2, if_neg (fun y => k2 y.2)]
          exact tz_172 hv o3 h3 f3
    · rw [ty_eL_f z]
      have e172 : tw_ok (f_rea_parseE_172 v (nI op) σ) (fun σ' => tw_fr (tz_S v) σ0 σ' ∧ tz_pp v T n s d (C ++ o.map tz_uc) σ') := by
        have := tz_172 hv hop h fr
        rw [if_neg (fun y => z y.1)] at this
        exact tw_mono this (fun σ' g => ⟨g.1, ⟨g.2.1, g.2.2.1, g.2.2.2.1, fun y => absurd y z⟩⟩)
      refine tw_ite (fun _ => e172) (fun _ => ?_)
      rw [h.2.1.1, if_neg (show ¬ nI s.1 = (0 : Int32) by rw [show (0 : Int32) = nI 0 from rfl, tw_eq (by omega) (by omega)]; exact z)]
      exact e172
/-- an E -/
theorem tz_parseE {s : ty_Ps} {d : Nat} {C : List tz_Cd} {σ : rx_St} (hv : v ≤ 1) (h : tz_pp v T n s d C σ) : tw_ok (f_rea_parseE v σ) (fun σ' => tw_fr (tz_S v) σ σ' ∧ tz_pp v T n (ty_E1 T s).1 d (C ++ (ty_E1 T s).2.map tz_uc) σ') := by
  unfold f_rea_parseE ty_E1
  obtain ⟨h1, h2, ⟨c, q, r1, r2, r3, r4⟩, h4⟩ := h
  refine tz_loopE (C := C) (o := []) hv 501 0 rx_fu 0 [] s _ (by omega) (by show _ < 100000; omega) (fun _ => by omega) (by omega) ?_ (tw_fr.rf.si (by unfold tz_S; omega))
  refine ⟨h1.fr (fun a b e f => ⟨tw_r1n _ _ (by omega), rfl⟩), ⟨by rw [tw_r1n _ _ (by omega)]; exact h2.1, by rw [tw_r1n _ _ (by omega)]; exact h2.2.1, h2.2.2⟩, ⟨c, 0, by rw [tw_r1n _ _ (by omega)]; exact r1, r2, tw_r1s _ _ _ _, by omega⟩, fun z => ?_⟩
  obtain ⟨c1, c2⟩ := h4 z
  refine ⟨?_, ?_, tw_r1s _ _ _ _, trivial, rfl, by omega⟩
  · show tz_cds v (C ++ []) _
    rw [List.append_nil]
    exact c1.fr (fun a b e => tw_r1n _ _ (by omega))
  · show (C ++ []).length + d + 0 ≤ s.2
    rw [List.append_nil]
    omega
end TZ4
