/-! THE CLASS'S READER: an E, from its first to its last TOKEN -/
section TZ3
variable {v : Nat} {T : List tw_Tk} {n : Nat}
theorem tz_valueOf {σ : rx_St} {i : Nat} (hi : i ≤ 500) : f_tap_valueOf (nI i) σ = some (σ.2 5 i) := by
  unfold f_tap_valueOf
  rw [if_neg (show ¬ nI i < (0 : Int32) by rw [show (0 : Int32) = nI 0 from rfl, tw_lt (by omega) (by omega)]; omega), if_neg (show ¬ (502 : Int32) ≤ nI i by rw [show (502 : Int32) = nI 502 from rfl, tw_le (by omega) (by omega)]; omega), tw_gN (by omega) (by decide), nI_clamp (by omega)]
/-- the number of an INT -/
theorem tz_tk.V {σ : rx_St} {i : Nat} (h : tz_tk T n σ) (hi : i ≤ 500) (hK : ty_K T i = 24) : (σ.2 5 i).toInt32 = nI (ty_V T i) ∧ ty_V T i ≤ 9999 := by
  unfold ty_K at hK
  unfold ty_V
  cases e : T[i]? with
  | none => rw [e] at hK; exact absurd hK (by decide)
  | some x =>
    rw [e] at hK
    have hK' : x.1 = 24 := hK
    have v9 := (h.2 i x e).2.1 hK'
    have r := (h.1.1 i x hi e).2.2.1 hK'
    refine ⟨?_, v9⟩
    show (σ.2 5 i).toInt32 = nI x.2.2.1
    rw [r, qL_I (by omega)]
theorem tz_ee.tk {k d op : Nat} {ws : List Nat} {s : ty_Ps} {C : List tz_Cd} {σ : rx_St} (h : tz_ee v T n s d op ws C σ) (hv : v ≤ 1) (hk38 : k ≤ 38) (h37 : k ≠ 37) : tw_ok (f_rea_take (nI k) σ) (fun y => y.1 = nI s.2 ∧ tw_fr tz_S1 σ y.2 ∧ tz_ee v T n (ty_tkn T k s) (d + 1) op ws C y.2) := by
  obtain ⟨h1, h2, h3, h4⟩ := h
  refine tw_mono (tz_take h1 h2 hk38 h37) (fun y g => ?_)
  obtain ⟨g1, g2, g3⟩ := g
  refine ⟨g1, g2, h1.fr (fun q j a b => ⟨g2.i (by unfold tz_S1; omega), g2.l (by unfold tz_S1; omega)⟩), g3, h3.fr (g2.i (by unfold tz_S1; omega)) (g2.i (by unfold tz_S1; omega)), fun z => ?_⟩
  obtain ⟨z1, -, -, z4⟩ := ty_tkn_0 z
  obtain ⟨c1, c2, c3, c4, c5⟩ := h4 z1
  exact ⟨c1.fr (fun q j a => g2.i (by unfold tz_S1; omega)), by omega, (g2.i (by unfold tz_S1; omega)).trans c3, c4.fr ws (fun j hj => g2.i (by unfold tz_S1; omega)), c5⟩
theorem tz_ee.em {k d op : Nat} {a b : Int32} {x : ty_Uo} {ws : List Nat} {s : ty_Ps} {C : List tz_Cd} {σ : rx_St} (h : tz_ee v T n s (d + 1) op ws C σ) (hv : v ≤ 1) (hk : k < 100) (hx : s.1 = 0 → tz_uc x = (k, a, b)) : tw_ok (f_wor_emit v (nI k) a b σ) (fun σ' => tw_fr (tz_S v) σ σ' ∧ tz_ee v T n s d op ws (C ++ [x].map tz_uc) σ') := by
  have pp1 : tz_pp v T n s (d + ty_bin ws + 1) C σ := h.pp.le (by omega)
  refine tw_mono (pp1.em hv hk (a := a) (b := b)) (fun σ' g => ?_)
  obtain ⟨g1, g2, g3, g4, g5, g6, g7⟩ := g
  refine ⟨g1, g4, g5, g6, fun z => ?_⟩
  obtain ⟨-, -, c3, c4, c5⟩ := h.2.2.2 z
  obtain ⟨k1, k2⟩ := g7 z
  have e : C ++ [x].map tz_uc = C ++ [(k, a, b)] := by
    show C ++ [tz_uc x] = _
    rw [hx z]
  rw [e]
  exact ⟨k1, by omega, g2.trans c3, c4.fr ws (fun j _ => g3 j), c5⟩
theorem tz_ee.le {d d' op : Nat} {ws : List Nat} {s : ty_Ps} {C : List tz_Cd} {σ : rx_St} (h : tz_ee v T n s d op ws C σ) (hd : d' ≤ d) : tz_ee v T n s d' op ws C σ :=
  ⟨h.1, h.2.1, h.2.2.1, fun z => by obtain ⟨a, b, c⟩ := h.2.2.2 z; exact ⟨a, by omega, c⟩⟩
theorem tz_unit {d op : Nat} {ws : List Nat} {s : ty_Ps} {C : List tz_Cd} {σ : rx_St} (hv : v ≤ 1) (h : tz_ee v T n s d op ws C σ) : tw_ok (f_rea_parseUnit v σ) (fun σ' => tw_fr (tz_S v) σ σ' ∧ tz_ee v T n (ty_eU T s).1 d op ws (C ++ (ty_eU T s).2.map tz_uc) σ') := by
  have hn := tz_next h.1 h.2.1
  have hK := ty_nx_le (fun i x z => (h.1.2 i x z).1) s
  have s1S : ∀ {τ τ' : rx_St}, tw_fr tz_S1 τ τ' → tw_fr (tz_S v) τ τ' := fun f => f.mn tz_S1S
  have one : ∀ (k : Nat) (x : ty_Uo), k ≤ 38 → k ≠ 37 → tz_uc x = (k, nI s.2, nI 0) → tw_ok (f_rea_parseUnit_79 v (nI k) σ) (fun σ' => tw_fr (tz_S v) σ σ' ∧ tz_ee v T n (ty_tkn T k s) d op ws (C ++ [x].map tz_uc) σ') := by
    intro k x h38 h37 hx
    unfold f_rea_parseUnit_79
    refine tw_b (h.tk hv h38 h37) (fun y g => ?_)
    obtain ⟨g1, g2, g3⟩ := g
    rw [g1]
    refine tw_b (g3.em hv (by omega) (a := nI s.2) (b := nI 0) (fun _ => hx)) (fun σ' g => ?_)
    rw [tw_some]
    exact ⟨(s1S g2).tr g.1, g.2⟩
  unfold f_rea_parseUnit ty_eU
  rw [hn, Option.bind_some]
  by_cases c17 : ty_nx T s = 17
  · rw [c17, if_pos (show nI 17 = (17 : Int32) from rfl), if_neg (by decide), if_neg (by decide), if_pos rfl]
    exact one 17 _ (by omega) (by omega) rfl
  by_cases c18 : ty_nx T s = 18
  · rw [c18, if_neg (show ¬ nI 18 = (17 : Int32) by decide), if_pos (show nI 18 = (18 : Int32) from rfl), if_neg (by decide), if_neg (by decide), if_neg (by decide), if_pos rfl]
    exact one 18 _ (by omega) (by omega) rfl
  by_cases c19 : ty_nx T s = 19
  · rw [c19, if_neg (show ¬ nI 19 = (17 : Int32) by decide), if_neg (show ¬ nI 19 = (18 : Int32) by decide), if_pos (show nI 19 = (19 : Int32) from rfl), if_neg (by decide), if_neg (by decide), if_neg (by decide), if_neg (by decide), if_pos rfl]
    exact one 19 _ (by omega) (by omega) rfl
  rw [tw_ifE (show (nI (ty_nx T s) = (17 : Int32)) = (ty_nx T s = 17) by rw [show (17 : Int32) = nI 17 from rfl, tw_eq (by omega) (by omega)]), if_neg c17, tw_ifE (show (nI (ty_nx T s) = (18 : Int32)) = (ty_nx T s = 18) by rw [show (18 : Int32) = nI 18 from rfl, tw_eq (by omega) (by omega)]), if_neg c18, tw_ifE (show (nI (ty_nx T s) = (19 : Int32)) = (ty_nx T s = 19) by rw [show (19 : Int32) = nI 19 from rfl, tw_eq (by omega) (by omega)]), if_neg c19]
  by_cases c20 : ty_nx T s = 20
  · rw [c20, if_pos (show nI 20 = (20 : Int32) from rfl), if_neg (by decide), if_neg (by decide), if_neg (by decide), if_neg (by decide), if_neg (by decide), if_pos rfl]
    refine tw_b (h.tk hv (k := 20) (by omega) (by omega)) (fun y g => ?_)
    obtain ⟨-, g2, g3⟩ := g
    refine tw_b (g3.tk hv (k := 24) (by omega) (by omega)) (fun y' g => ?_)
    obtain ⟨k1, k2, k3⟩ := g
    rw [k1]
    refine tw_b ((k3.le (show d + 1 ≤ d + 1 + 1 by omega)).em hv (k := 20) (by omega) (a := nI (ty_tkn T 20 s).2) (b := nI 0) (x := (6, (ty_tkn T 20 s).2, 0)) (fun _ => rfl)) (fun σ' g => ?_)
    rw [tw_some]
    exact ⟨((s1S g2).tr (s1S k2)).tr g.1, g.2⟩
  rw [tw_ifE (show (nI (ty_nx T s) = (20 : Int32)) = (ty_nx T s = 20) by rw [show (20 : Int32) = nI 20 from rfl, tw_eq (by omega) (by omega)]), if_neg c20]
  by_cases c21 : ty_nx T s = 21
  · rw [c21, if_pos (show nI 21 = (21 : Int32) from rfl), if_neg (by decide), if_neg (by decide), if_neg (by decide), if_neg (by decide), if_neg (by decide), if_neg (by decide), if_neg (by decide), if_pos rfl]
    refine tw_b (h.tk hv (k := 21) (by omega) (by omega)) (fun y g => ?_)
    obtain ⟨-, g2, g3⟩ := g
    refine tw_b (g3.tk hv (k := 23) (by omega) (by omega)) (fun y' g => ?_)
    obtain ⟨k1, k2, k3⟩ := g
    refine tw_b (k3.tk hv (k := 23) (by omega) (by omega)) (fun y'' g => ?_)
    obtain ⟨l1, l2, l3⟩ := g
    rw [k1, l1]
    refine tw_b ((l3.le (show d + 1 ≤ d + 1 + 1 + 1 by omega)).em hv (k := 21) (by omega) (a := nI (ty_tkn T 21 s).2) (b := nI (ty_tkn T 23 (ty_tkn T 21 s)).2) (x := (7, (ty_tkn T 21 s).2, (ty_tkn T 23 (ty_tkn T 21 s)).2)) (fun _ => rfl)) (fun σ' g => ?_)
    rw [tw_some]
    exact ⟨(((s1S g2).tr (s1S k2)).tr (s1S l2)).tr g.1, g.2⟩
  rw [tw_ifE (show (nI (ty_nx T s) = (21 : Int32)) = (ty_nx T s = 21) by rw [show (21 : Int32) = nI 21 from rfl, tw_eq (by omega) (by omega)]), if_neg c21]
  by_cases c22 : ty_nx T s = 22
  · rw [c22, if_pos (show nI 22 = (22 : Int32) from rfl), if_neg (by decide), if_neg (by decide), if_neg (by decide), if_neg (by decide), if_neg (by decide), if_neg (by decide), if_pos rfl]
    refine tw_b (h.tk hv (k := 22) (by omega) (by omega)) (fun y g => ?_)
    obtain ⟨-, g2, g3⟩ := g
    refine tw_b (g3.tk hv (k := 23) (by omega) (by omega)) (fun y' g => ?_)
    obtain ⟨k1, k2, k3⟩ := g
    rw [k1]
    refine tw_b ((k3.le (show d + 1 ≤ d + 1 + 1 by omega)).em hv (k := 22) (by omega) (a := nI (ty_tkn T 22 s).2) (b := nI 0) (x := (8, (ty_tkn T 22 s).2, 0)) (fun _ => rfl)) (fun σ' g => ?_)
    rw [tw_some]
    exact ⟨((s1S g2).tr (s1S k2)).tr g.1, g.2⟩
  rw [tw_ifE (show (nI (ty_nx T s) = (22 : Int32)) = (ty_nx T s = 22) by rw [show (22 : Int32) = nI 22 from rfl, tw_eq (by omega) (by omega)]), if_neg c22]
  by_cases c23 : ty_nx T s = 23
  · rw [c23, if_pos (show nI 23 = (23 : Int32) from rfl), if_neg (by decide), if_pos rfl]
    exact one 23 _ (by omega) (by omega) rfl
  rw [tw_ifE (show (nI (ty_nx T s) = (23 : Int32)) = (ty_nx T s = 23) by rw [show (23 : Int32) = nI 23 from rfl, tw_eq (by omega) (by omega)]), if_neg c23]
  by_cases c24 : ty_nx T s = 24
  · rw [c24, if_pos (show nI 24 = (24 : Int32) from rfl), if_pos rfl]
    have s5 := h.2.1.2.2.2.1
    refine tw_b (h.tk hv (k := 24) (by omega) (by omega)) (fun y g => ?_)
    obtain ⟨g1, g2, g3⟩ := g
    rw [g1, tz_valueOf s5, Option.bind_some]
    refine tw_b (g3.em hv (k := 24) (by omega) (a := (y.2.2 5 s.2).toInt32) (b := nI 0) (x := (0, ty_V T s.2, 0)) (fun z => ?_)) (fun σ' g => ?_)
    · obtain ⟨-, z2, -, -⟩ := ty_tkn_0 z
      rw [(g3.1.V s5 z2).1]
      rfl
    · rw [tw_some]
      exact ⟨(s1S g2).tr g.1, g.2⟩
  rw [tw_ifE (show (nI (ty_nx T s) = (24 : Int32)) = (ty_nx T s = 24) by rw [show (24 : Int32) = nI 24 from rfl, tw_eq (by omega) (by omega)]), if_neg c24, if_neg c24, if_neg c23, if_neg c17, if_neg c18, if_neg c19, if_neg c20, if_neg c22, if_neg c21]
  refine tw_b (h.tk hv (k := 23) (by omega) (by omega)) (fun y g => ?_)
  obtain ⟨-, g2, g3⟩ := g
  rw [tw_some]
  refine ⟨s1S g2, ?_⟩
  show tz_ee v T n (ty_tkn T 23 s) d op ws (C ++ []) y.2
  rw [List.append_nil]
  exact g3.le (by omega)
theorem tz_ee.rm {d op : Nat} {ws : List Nat} {s : ty_Ps} {C : List tz_Cd} {σ : rx_St} (h : tz_ee v T n s d op ws C σ) (a m : Nat) (ha : a < 2147483648) (hm : m < 2147483648) : tw_ok (f_rea_needRoom (nI a) (nI m) σ) (fun σ' => tw_fr tz_S1 σ σ' ∧ tz_ee v T n (ty_room a m s) d op ws C σ') := by
  obtain ⟨h1, h2, h3, h4⟩ := h
  refine tw_mono (tz_room h2 ha hm) (fun y g => ?_)
  obtain ⟨g2, g3⟩ := g
  refine ⟨g2.mn (fun q j h => by unfold tz_S1; omega), h1.fr (fun q j a b => ⟨g2.i (by omega), g2.l (by omega)⟩), g3, h3.fr (g2.i (by omega)) (g2.i (by omega)), fun z => ?_⟩
  obtain ⟨z1, -, z3⟩ := ty_room_0 z
  obtain ⟨c1, c2, c3, c4, c5⟩ := h4 z1
  rw [z3]
  exact ⟨c1.fr (fun q j a => g2.i (by omega)), c2, (g2.i (by omega)).trans c3, c4.fr ws (fun j hj => g2.i (by omega)), c5⟩
/-- a sign waits -/
theorem tz_ee.aw {k d op op' : Nat} {ws : List Nat} {s : ty_Ps} {C : List tz_Cd} {σ : rx_St} (h : tz_ee v T n s (d + (if k = 35 then 0 else 1)) op ws C σ) (hk : k < 100) (hw : s.1 = 0 → ty_wf (k :: ws) op' ∧ op' ≤ 6 ∧ ws.length < 21) : tw_ok (f_rea_await (nI k) σ) (fun σ' => tw_fr (tz_S v) σ σ' ∧ tz_ee v T n s d op' (k :: ws) C σ') := by
  obtain ⟨h1, h2, ⟨c, q, r1, r2, r3, r4⟩, h4⟩ := h
  refine tw_mono (tz_await r3 r4) (fun σ' g => ?_)
  obtain ⟨g1, ⟨q', g2, g3⟩, g4⟩ := g
  refine ⟨g1.mn (fun a b h => by unfold tz_S; omega), h1.fr (fun q j a b => ⟨g1.i (by omega), g1.l (by omega)⟩), ⟨(g1.i (by omega)).trans h2.1, (g1.i (by omega)).trans h2.2.1, h2.2.2⟩, ⟨c, q', ?_, r2, g3, g2⟩, fun z => ?_⟩
  · rw [g1.i (by omega)]; exact r1
  · obtain ⟨c1, c2, c3, c4, c5, c6⟩ := h4 z
    obtain ⟨w1, w2, w3⟩ := hw z
    have eq : q = ws.length := by
      rw [r3, tw_eq (by omega) (by omega)] at c3
      exact c3
    obtain ⟨k1, k2⟩ := g4 (by omega)
    refine ⟨c1.fr (fun a b h => g1.i (by omega)), ?_, by rw [k1, eq]; rfl, ⟨by rw [← eq]; exact k2, c4.fr ws (fun j hj => g1.i (by omega))⟩, w1, w2⟩
    rw [ty_bin]
    omega
/-- brackets -/
theorem tz_opens {d : Nat} {σ0 : rx_St} {v2 : Int32} {k9 : Int32 → Int32 → rx_St → Option rx_St} (hv : v ≤ 1) (Q : rx_St → Prop) : ∀ (j m op : Nat) (ws : List Nat) (s : ty_Ps) (C : List tz_Cd) (σ : rx_St), j ≤ 7 → j < m → op + j ≤ 13 → tz_ee v T n s d op ws C σ → tw_fr (tz_S v) σ0 σ →
    (∀ σ', tw_fr (tz_S v) σ0 σ' → (ty_eO T j s op ws).2.1 ≤ 13 → tz_ee v T n (ty_eO T j s op ws).1 d (ty_eO T j s op ws).2.1 (ty_eO T j s op ws).2.2 C σ' → tw_ok (f_rea_parseE_69 v k9 (nI (ty_eO T j s op ws).2.1) v2 σ') Q) →
    tw_ok (f_rea_parseE_25 v k9 m (nI op) v2 (nI (7 - j)) σ) Q := by
  intro j
  induction j with
  | zero =>
    intro m op ws s C σ hj hm ho h f hQ
    obtain ⟨m, rfl⟩ : ∃ m', m = m' + 1 := ⟨m - 1, by omega⟩
    unfold f_rea_parseE_25
    rw [if_pos (show (6 : Int32) < nI (7 - 0) by decide)]
    exact hQ σ f (by show op ≤ 13; omega) h
  | succ j ih =>
    intro m op ws s C σ hj hm ho h f hQ
    obtain ⟨m, rfl⟩ : ∃ m', m = m' + 1 := ⟨m - 1, by omega⟩
    have hn := tz_next h.1 h.2.1
    have hK := ty_nx_le (fun i x z => (h.1.2 i x z).1) s
    unfold f_rea_parseE_25
    rw [if_neg (show ¬ (6 : Int32) < nI (7 - (j + 1)) by rw [show (6 : Int32) = nI 6 from rfl, tw_lt (by omega) (by omega)]; omega), hn, Option.bind_some, tw_ifE (show (nI (ty_nx T s) = (35 : Int32)) = (ty_nx T s = 35) by rw [show (35 : Int32) = nI 35 from rfl, tw_eq (by omega) (by omega)])]
    unfold ty_eO at hQ
    by_cases c : ty_nx T s = 35
    · rw [if_pos c]
      rw [if_pos c] at hQ
      refine tw_b (h.rm op 6 (by omega) (by omega)) (fun σ1 g => ?_)
      obtain ⟨g1, g2⟩ := g
      refine tw_b (g2.tk hv (k := 35) (by omega) (by omega)) (fun y g => ?_)
      obtain ⟨-, k2, k3⟩ := g
      refine tw_b ((k3.le (show d + 0 ≤ d + 1 by omega)).aw (k := 35) (op' := op + 1) (by omega) (fun z => ?_)) (fun σ3 g => ?_)
      · obtain ⟨z1, -, -, -⟩ := ty_tkn_0 z
        obtain ⟨z2, z3, -⟩ := ty_room_0 z1
        obtain ⟨-, -, -, -, w1, w2⟩ := h.2.2.2 z2
        have ln := ty_wf_len _ _ w1
        have t2 := ty_tp2 ws
        exact ⟨Or.inl ⟨rfl, by omega, w1⟩, by omega, by omega⟩
      · obtain ⟨l1, l2⟩ := g
        have e1 : nI op + (1 : Int32) = nI (op + 1) := nI_add op 1
        have e2 : nI (7 - (j + 1)) + (1 : Int32) = nI (7 - j) := by
          rw [show nI (7 - (j + 1)) + (1 : Int32) = nI (7 - (j + 1) + 1) from nI_add _ 1, show 7 - (j + 1) + 1 = 7 - j by omega]
        rw [e1, e2]
        exact ih m (op + 1) (35 :: ws) _ C σ3 (by omega) (by omega) (by omega) l2 (((f.tr (g1.mn tz_S1S)).tr (k2.mn tz_S1S)).tr l1) hQ
    · rw [if_neg c]
      rw [if_neg c] at hQ
      exact hQ σ f (by show op ≤ 13; omega) h
theorem tz_closes {d : Nat} {σ0 : rx_St} {v2 : Int32} {k9 : Int32 → Int32 → rx_St → Option rx_St} (hv : v ≤ 1) (Q : rx_St → Prop) : ∀ (j m op : Nat) (ws : List Nat) (s : ty_Ps) (C : List tz_Cd) (o : List ty_Uo) (σ : rx_St), j ≤ 7 → j < m → op ≤ 13 → tz_ee v T n s d op ws (C ++ o.map tz_uc) σ → tw_fr (tz_S v) σ0 σ →
    (∀ σ', tw_fr (tz_S v) σ0 σ' → (ty_eC T j s op ws o).2.1 ≤ 13 → tz_ee v T n (ty_eC T j s op ws o).1 d (ty_eC T j s op ws o).2.1 (ty_eC T j s op ws o).2.2.1 (C ++ (ty_eC T j s op ws o).2.2.2.map tz_uc) σ' → tw_ok (f_rea_parseE_130 v k9 (nI (ty_eC T j s op ws o).2.1) v2 σ') Q) →
    tw_ok (f_rea_parseE_75 v k9 m (nI op) v2 (nI (7 - j)) σ) Q := by
  intro j
  induction j with
  | zero =>
    intro m op ws s C o σ hj hm ho h f hQ
    obtain ⟨m, rfl⟩ : ∃ m', m = m' + 1 := ⟨m - 1, by omega⟩
    unfold f_rea_parseE_75
    rw [if_pos (show (6 : Int32) < nI (7 - 0) by decide)]
    exact hQ σ f ho h
  | succ j ih =>
    intro m op ws s C o σ hj hm ho h f hQ
    obtain ⟨m, rfl⟩ : ∃ m', m = m' + 1 := ⟨m - 1, by omega⟩
    have hn := tz_next h.1 h.2.1
    have hK := ty_nx_le (fun i x z => (h.1.2 i x z).1) s
    unfold f_rea_parseE_75
    unfold ty_eC at hQ
    rw [if_neg (show ¬ (6 : Int32) < nI (7 - (j + 1)) by rw [show (6 : Int32) = nI 6 from rfl, tw_lt (by omega) (by omega)]; omega), tw_ifE (show (nI op ≤ (0 : Int32)) = (op ≤ 0) by rw [show (0 : Int32) = nI 0 from rfl, tw_le (by omega) (by omega)])]
    by_cases c0 : op ≤ 0
    · rw [if_pos c0]
      rw [if_neg (fun z => absurd z.1 (by omega))] at hQ
      exact hQ σ f ho h
    · rw [if_neg c0, hn, Option.bind_some, tw_ifE (show (nI (ty_nx T s) = (36 : Int32)) = (ty_nx T s = 36) by rw [show (36 : Int32) = nI 36 from rfl, tw_eq (by omega) (by omega)])]
      by_cases c : ty_nx T s = 36
      · rw [if_pos c]
        rw [if_pos ⟨by omega, c⟩] at hQ
        refine tw_b (h.tk hv (k := 36) (by omega) (by omega)) (fun y g => ?_)
        obtain ⟨-, g2, g3⟩ := g
        refine tw_b (tz_ew hv (sg := 27) (by omega) g3) (fun σ2 g => ?_)
        obtain ⟨k1, k2⟩ := g
        obtain ⟨h1, h2, ⟨cc, q, r1, r2, r3, r4⟩, h4⟩ := k2
        have emax : f_j_max (σ2.1 35 6 - (1 : Int32)) (0 : Int32) = nI (q - 1) := by
          rw [r3]
          unfold f_j_max
          by_cases q0 : q = 0
          · subst q0
            exact if_pos (by decide)
          · rw [show nI q - (1 : Int32) = nI (q - 1) from tw_sub (a := q) (b := 1) (by omega), if_neg (show ¬ nI (q - 1) < (0 : Int32) by rw [show (0 : Int32) = nI 0 from rfl, tw_lt (by omega) (by omega)]; omega)]
        show tw_ok (f_rea_parseE_75 v k9 m (nI op + (-1 : Int32)) v2 (nI (7 - (j + 1)) + (1 : Int32)) (rx_si σ2 35 6 (f_j_max (σ2.1 35 6 - (1 : Int32)) (0 : Int32)))) Q
        have e2 : nI (7 - (j + 1)) + (1 : Int32) = nI (7 - j) := by
          rw [show nI (7 - (j + 1)) + (1 : Int32) = nI (7 - (j + 1) + 1) from nI_add _ 1, show 7 - (j + 1) + 1 = 7 - j by omega]
        rw [emax, show nI op + (-1 : Int32) = nI (op - 1) from tw_dec (a := op) (by omega), e2]
        have fT : tw_fr (tz_S v) σ0 (rx_si σ2 35 6 (nI (q - 1))) := ((f.tr (g2.mn tz_S1S)).tr k1).si (by unfold tz_S; omega)
        refine ih m (op - 1) (ty_dr 27 ws).1.tail _ C (o ++ (ty_dr 27 ws).2) _ (by omega) (by omega) (by omega) ?_ fT hQ
        refine ⟨h1.fr (fun a b e f => ⟨tw_r1n _ _ (by omega), rfl⟩), ⟨by rw [tw_r1n _ _ (by omega)]; exact h2.1, by rw [tw_r1n _ _ (by omega)]; exact h2.2.1, h2.2.2⟩, ⟨cc, q - 1, by rw [tw_r1n _ _ (by omega)]; exact r1, r2, tw_r1s _ _ _ _, by omega⟩, fun z => ?_⟩
        obtain ⟨c1, c2, c3, c4, c5, c6⟩ := h4 z
        obtain ⟨z1, -, -, -⟩ := ty_tkn_0 z
        obtain ⟨-, -, -, -, w1, w2⟩ := h.2.2.2 z1
        obtain ⟨-, -, -, d4, -⟩ := ty_dr_ok 27 ws op w1
        obtain ⟨w', hw'⟩ : ∃ w', (ty_dr 27 ws).1 = 35 :: w' := by
          rcases d4 (by omega) with ⟨-, z0⟩ | z0
          · omega
          · exact z0
        rw [hw'] at c2 c3 c4 c5 ⊢
        have qe : q = w'.length + 1 := by
          rw [r3, tw_eq (by omega) (by
            have ln := ty_wf_len _ _ c5
            have t2 := ty_tp2 (35 :: w')
            omega)] at c3
          exact c3
        refine ⟨?_, ?_, ?_, ?_, ?_, by omega⟩
        · rw [List.map_append, ← List.append_assoc]
          exact c1.fr (fun a b e => tw_r1n _ _ (by omega))
        · rw [List.map_append, ← List.append_assoc]
          rw [ty_bin, if_pos rfl] at c2
          show _ + ty_bin w' ≤ _
          omega
        · show (rx_si σ2 35 6 (nI (q - 1))).1 35 6 = nI w'.length
          rw [tw_r1s, qe]; rfl
        · exact (show tz_wt σ2 w' from c4.2).fr w' (fun j hj => tw_r1n _ _ (by omega))
        · rcases c5 with ⟨-, -, z3⟩ | ⟨z3, -⟩ | ⟨z3, -⟩
          · exact z3
          · omega
          · omega
      · rw [if_neg c]
        rw [if_neg (fun z => c z.2)] at hQ
        exact hQ σ f ho h
end TZ3
