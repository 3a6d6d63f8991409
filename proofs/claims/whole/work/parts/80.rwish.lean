/-! THE CLASS'S READER: WISHES -/
def ty_wk (ws : List Nat) : Prop := ∀ x ∈ ws, x = 35 ∨ x ≤ 30
theorem ty_dr_so (sg : Nat) : ∀ (ws : List Nat), ty_wk ws → ty_so (ty_dr sg ws).2 ∧ ty_wk (ty_dr sg ws).1
  | [], h => ⟨fun x hx => (by cases hx), h⟩
  | x :: ws, h => by
    unfold ty_dr
    by_cases c : x = 35 ∨ ¬ (29 ≤ x ∨ sg ≤ 28)
    · rw [if_pos c]
      exact ⟨fun x hx => (by cases hx), h⟩
    · rw [if_neg c]
      obtain ⟨a, b⟩ := ty_dr_so sg ws (fun y hy => h y (List.mem_cons_of_mem _ hy))
      refine ⟨fun y hy => ?_, b⟩
      rcases List.mem_cons.mp hy with rfl | hy
      · have := h x List.mem_cons_self
        show x - 18 ≤ 12
        omega
      · exact a y hy
theorem ty_so_app {o o' : List ty_Uo} (h : ty_so o) (h' : ty_so o') : ty_so (o ++ o') := fun x hx => (List.mem_append.mp hx).elim (h x) (h' x)
theorem ty_eU_so (T : List tw_Tk) (s : ty_Ps) : ty_so (ty_eU T s).2 := by
  have one : ∀ (k : ty_Ps) (x : ty_Uo), x.1 ≤ 12 → ty_so (k, [x]).2 := fun k x h y hy => by
    rw [List.mem_singleton.mp hy]; exact h
  unfold ty_eU
  by_cases c : ty_nx T s = 24
  · rw [if_pos c]; exact one _ _ (by show 0 ≤ 12; omega)
  rw [if_neg c]
  by_cases c : ty_nx T s = 23
  · rw [if_pos c]; exact one _ _ (by show 1 ≤ 12; omega)
  rw [if_neg c]
  by_cases c : ty_nx T s = 17
  · rw [if_pos c]; exact one _ _ (by show 3 ≤ 12; omega)
  rw [if_neg c]
  by_cases c : ty_nx T s = 18
  · rw [if_pos c]; exact one _ _ (by show 4 ≤ 12; omega)
  rw [if_neg c]
  by_cases c : ty_nx T s = 19
  · rw [if_pos c]; exact one _ _ (by show 5 ≤ 12; omega)
  rw [if_neg c]
  by_cases c : ty_nx T s = 20
  · rw [if_pos c]; exact one _ _ (by show 6 ≤ 12; omega)
  rw [if_neg c]
  by_cases c : ty_nx T s = 22
  · rw [if_pos c]; exact one _ _ (by show 8 ≤ 12; omega)
  rw [if_neg c]
  by_cases c : ty_nx T s = 21
  · rw [if_pos c]; exact one _ _ (by show 7 ≤ 12; omega)
  rw [if_neg c]
  exact fun x hx => (by cases hx)
theorem ty_eO_so (T : List tw_Tk) : ∀ (j : Nat) (s : ty_Ps) (op : Nat) (ws : List Nat), ty_wk ws → ty_wk (ty_eO T j s op ws).2.2
  | 0, s, op, ws, h => h
  | j + 1, s, op, ws, h => by
    unfold ty_eO
    by_cases c : ty_nx T s = 35
    · rw [if_pos c]
      exact ty_eO_so T j _ _ _ (fun x hx => (List.mem_cons.mp hx).elim (fun e => Or.inl e) (h x))
    · rw [if_neg c]; exact h
theorem ty_eC_so (T : List tw_Tk) : ∀ (j : Nat) (s : ty_Ps) (op : Nat) (ws : List Nat) (o : List ty_Uo), ty_wk ws → ty_so o → ty_wk (ty_eC T j s op ws o).2.2.1 ∧ ty_so (ty_eC T j s op ws o).2.2.2
  | 0, s, op, ws, o, h, g => ⟨h, g⟩
  | j + 1, s, op, ws, o, h, g => by
    unfold ty_eC
    by_cases c : 0 < op ∧ ty_nx T s = 36
    · rw [if_pos c]
      obtain ⟨a, b⟩ := ty_dr_so 27 ws h
      exact ty_eC_so T j _ _ _ _ (fun x hx => b x (List.mem_of_mem_tail hx)) (ty_so_app g a)
    · rw [if_neg c]; exact ⟨h, g⟩
theorem ty_eL_so (T : List tw_Tk) : ∀ (m : Nat) (s : ty_Ps) (op : Nat) (ws : List Nat) (o : List ty_Uo), ty_wk ws → ty_so o → ty_so (ty_eL T m s op ws o).2
  | 0, s, op, ws, o, _, g => g
  | m + 1, s, op, ws, o, h, g => by
    by_cases z : s.1 = 0
    · rw [ty_eL_s z]
      have c := ty_eC_so T 7 (ty_eU T (ty_eO T 7 s op ws).1).1 (ty_eO T 7 s op ws).2.1 (ty_eO T 7 s op ws).2.2 (o ++ (ty_eU T (ty_eO T 7 s op ws).1).2) (ty_eO_so T 7 s op ws h) (ty_so_app g (ty_eU_so T _))
      unfold ty_eLc
      generalize ty_eC T 7 (ty_eU T (ty_eO T 7 s op ws).1).1 (ty_eO T 7 s op ws).2.1 (ty_eO T 7 s op ws).2.2 (o ++ (ty_eU T (ty_eO T 7 s op ws).1).2) = cc at c ⊢
      unfold ty_eLk
      by_cases k : 27 ≤ ty_nx T cc.1 ∧ ty_nx T cc.1 ≤ 30
      · rw [if_pos k]
        obtain ⟨a, b⟩ := ty_dr_so (ty_nx T cc.1) cc.2.2.1 c.1
        exact ty_eL_so T m _ _ _ _ (fun x hx => (List.mem_cons.mp hx).elim (fun e => Or.inr (by omega)) (b x)) (ty_so_app c.2 a)
      · rw [if_neg k]
        exact ty_so_app c.2 (ty_dr_so 27 _ c.1).1
    · rw [ty_eL_f z]; exact g
theorem ty_E1_so (T : List tw_Tk) (s : ty_Ps) : ty_so (ty_E1 T s).2 := ty_eL_so T 501 s 0 [] [] (fun x hx => (by cases hx)) (fun x hx => (by cases hx))
theorem ty_L1_so (T : List tw_Tk) (s : ty_Ps) : ty_Lso (ty_L1 T s).2 := by
  refine ⟨?_, ty_E1_so T _, ty_E1_so T _⟩
  show ty_tst T _ - 31 < 4
  unfold ty_tst
  split <;> omega
def tz_ok (C : List tz_Cd) : Prop := ∀ x ∈ C, x.1 < 100
theorem tz_ok_app {A B : List tz_Cd} (h : tz_ok A) (h' : tz_ok B) : tz_ok (A ++ B) := fun x hx => (List.mem_append.mp hx).elim (h x) (h' x)
theorem tz_ok_map {o : List ty_Uo} (h : ty_so o) : tz_ok (o.map tz_uc) := fun x hx => by have := (tz_map_w h x hx).1; omega
theorem tz_ok_lc {l : ty_Li} {t : Nat} (h : ty_Lso l) : tz_ok (tz_lc l t) := by
  unfold tz_lc
  refine tz_ok_app (tz_ok_map h.2.1) (tz_ok_app (tz_ok_map h.2.2) (fun x hx => ?_))
  rw [List.mem_singleton.mp hx]
  have := h.1
  show 31 + l.2.1 < 100
  omega
theorem tz_ok_lco {b e : Nat} : ∀ (ls : List ty_Lf) (p : Nat), (∀ l ∈ ls, ty_Lso l.2) → tz_ok (tz_lco b e p ls)
  | [], p, _ => fun x hx => (by cases hx)
  | l :: ls, p, h => by
    have h1 := h l List.mem_cons_self
    have ih := fun p => tz_ok_lco (b := b) (e := e) ls p (fun x hx => h x (List.mem_cons_of_mem _ hx))
    rw [tz_lco]
    by_cases c : l.1 = true
    · rw [if_pos c]
      intro x hx
      rcases List.mem_cons.mp hx with rfl | hx
      · show 14 < 100; omega
      · exact tz_ok_app (tz_ok_lc h1) (ih _) x hx
    · rw [if_neg c]
      exact tz_ok_app (tz_ok_lc h1) (ih _)
/-- sort, its TOKENS, E -/
abbrev ty_Wi : Type := Nat × Nat × Nat × List ty_Uo
def ty_Wa (T : List tw_Tk) (s : ty_Ps) : ty_Ps × Nat := if ty_nx T s = 7 ∨ ty_nx T s = 9 then (ty_tkn T 23 (ty_tkn T (ty_nx T s) s), (ty_tkn T (ty_nx T s) s).2) else (ty_tkn T (ty_nx T s) s, s.2)
def ty_Wb (T : List tw_Tk) (s : ty_Ps) : ty_Ps × List ty_Uo := if ty_nx T s = 13 then ((ty_Wa T s).1, []) else ty_E1 T (ty_Wa T s).1
def ty_pk (T : List tw_Tk) (s : ty_Ps) : Nat := if ty_nx T s = 12 then 12 else 11
def ty_W1 (T : List tw_Tk) (s : ty_Ps) : ty_Ps × ty_Wi :=
  if ty_nx T s = 9 then (ty_tkn T 25 (ty_tkn T 23 (ty_tkn T (ty_pk T (ty_tkn T 10 (ty_Wb T s).1)) (ty_tkn T 10 (ty_Wb T s).1))), (ty_pk T (ty_tkn T 10 (ty_Wb T s).1) - 9, (ty_Wa T s).2, (ty_tkn T (ty_pk T (ty_tkn T 10 (ty_Wb T s).1)) (ty_tkn T 10 (ty_Wb T s).1)).2, (ty_Wb T s).2))
  else (ty_tkn T 25 (ty_Wb T s).1, ((if ty_nx T s = 7 then 0 else if ty_nx T s = 8 then 1 else 4), (ty_Wa T s).2, s.2, (ty_Wb T s).2))
def ty_isw (k : Nat) : Prop := k = 7 ∨ k = 8 ∨ k = 9 ∨ k = 13
def tz_wc (w : ty_Wi) : List tz_Cd := w.2.2.2.map tz_uc ++ [(tc_wop w.1, nI w.2.1, nI w.2.2.1)]
section TZ7
variable {v : Nat} {T : List tw_Tk} {n : Nat}
theorem ty_eL_0 {T : List tw_Tk} : ∀ (m : Nat) (s : ty_Ps) (op : Nat) (ws : List Nat) (o : List ty_Uo), (ty_eL T m s op ws o).1.1 = 0 → s.1 = 0 := by
  intro m
  induction m with
  | zero => intro s op ws o y; exact y
  | succ m ih =>
    intro s op ws o y
    by_cases q : s.1 = 0
    · exact q
    · rw [ty_eL_f q] at y; exact y
theorem ty_E1_0 {s : ty_Ps} (h : (ty_E1 T s).1.1 = 0) : s.1 = 0 := ty_eL_0 _ _ _ _ _ h
/-- a WISH: where nothing was amiss ahead of it, it is one -/
theorem tz_parseWish {s : ty_Ps} {d : Nat} {C : List tz_Cd} {σ : rx_St} (hv : v ≤ 1) (h : tz_pp v T n s d C σ) (hw : s.1 = 0 → ty_isw (ty_nx T s)) : tw_ok (f_rea_parseWish v σ) (fun σ' => tw_fr (tz_S v) σ σ' ∧ tz_pp v T n (ty_W1 T s).1 (d + 1) (C ++ tz_wc (ty_W1 T s).2) σ') := by
  have hn := tz_next h.1 h.2.1
  have hK := ty_nx_le (fun i x z => (h.1.2 i x z).1) s
  have h37 : ty_nx T s ≠ 37 := by
    by_cases z : s.1 = 0
    · have := hw z; unfold ty_isw at this; omega
    · rw [ty_nx_f z]; omega
  unfold f_rea_parseWish
  rw [hn, Option.bind_some]
  refine tw_b (h.tk hv (k := ty_nx T s) hK h37) (fun y g => ?_)
  obtain ⟨y1, f1, h1⟩ := g
  -- the end of a WISH
  have fin : ∀ (w : ty_Wi) (k : Nat) (s7 : ty_Ps) (d7 : Nat) (τ : rx_St), d + 1 ≤ d7 → tz_pp v T n s7 d7 (C ++ w.2.2.2.map tz_uc) τ → tw_fr (tz_S v) σ τ → k < 100 → ((ty_tkn T 25 s7).1 = 0 → k = tc_wop w.1) → tw_ok (f_rea_parseWish_85 v (nI k) (nI w.2.1) (nI w.2.2.1) τ) (fun σ' => tw_fr (tz_S v) σ σ' ∧ tz_pp v T n (ty_tkn T 25 s7) (d + 1) (C ++ tz_wc w) σ') := by
    intro w k s7 d7 τ hd g fτ hk hkw
    unfold f_rea_parseWish_85
    refine tw_b (g.tk hv (k := 25) (by omega) (by omega)) (fun y g => ?_)
    obtain ⟨-, f2, g2⟩ := g
    refine tw_b ((g2.le (show d + 1 + 1 ≤ d7 + 1 by omega)).em hv (k := k) (a := nI w.2.1) (b := nI w.2.2.1) hk) (fun σ' g => ?_)
    obtain ⟨f3, -, -, g3⟩ := g
    rw [tw_some]
    refine ⟨(fτ.tr (f2.mn tz_S1S)).tr f3, g3.1, g3.2.1, g3.2.2.1, fun z => ?_⟩
    have e : C ++ tz_wc w = C ++ w.2.2.2.map tz_uc ++ [(k, nI w.2.1, nI w.2.2.1)] := by
      unfold tz_wc
      rw [hkw z, List.append_assoc]
    rw [e]
    exact g3.2.2.2 z
  have e42 : ∀ (a : Nat) (s3 : ty_Ps) (e : List ty_Uo) (τ : rx_St), a = (ty_Wa T s).2 → s3 = (ty_Wb T s).1 → e = (ty_Wb T s).2 → ((ty_Wb T s).1.1 = 0 → s.1 = 0) → tz_pp v T n s3 (d + 1) (C ++ e.map tz_uc) τ → tw_fr (tz_S v) σ τ → tw_ok (f_rea_parseWish_42 v (nI (ty_nx T s)) (nI a) (nI s.2) τ) (fun σ' => tw_fr (tz_S v) σ σ' ∧ tz_pp v T n (ty_W1 T s).1 (d + 1) (C ++ tz_wc (ty_W1 T s).2) σ') := by
    intro a s3 e τ ha hs3 he h30 g fτ
    unfold f_rea_parseWish_42 ty_W1
    rw [tw_ifE (show (nI (ty_nx T s) = (9 : Int32)) = (ty_nx T s = 9) by rw [show (9 : Int32) = nI 9 from rfl, tw_eq (by omega) (by omega)])]
    by_cases c9 : ty_nx T s = 9
    · rw [if_pos c9, if_pos c9]
      refine tw_b (g.tk hv (k := 10) (by omega) (by omega)) (fun y g => ?_)
      obtain ⟨-, f2, g2⟩ := g
      have hn2 := tz_next g2.1 g2.2.1
      have hK2 := ty_nx_le (fun i x z => (g2.1.2 i x z).1) (ty_tkn T 10 s3)
      rw [hn2, Option.bind_some, tw_ifE (show (nI (ty_nx T (ty_tkn T 10 s3)) = (12 : Int32)) = (ty_nx T (ty_tkn T 10 s3) = 12) by rw [show (12 : Int32) = nI 12 from rfl, tw_eq (by omega) (by omega)])]
      have r71 : ∀ k : Nat, k = ty_pk T (ty_tkn T 10 s3) → tw_ok (f_rea_parseWish_71 v (nI a) (nI k) y.2) (fun σ' => tw_fr (tz_S v) σ σ' ∧ tz_pp v T n (ty_tkn T 25 (ty_tkn T 23 (ty_tkn T (ty_pk T (ty_tkn T 10 (ty_Wb T s).1)) (ty_tkn T 10 (ty_Wb T s).1)))) (d + 1) (C ++ tz_wc (ty_pk T (ty_tkn T 10 (ty_Wb T s).1) - 9, (ty_Wa T s).2, (ty_tkn T (ty_pk T (ty_tkn T 10 (ty_Wb T s).1)) (ty_tkn T 10 (ty_Wb T s).1)).2, (ty_Wb T s).2)) σ') := by
        intro k hk
        have kb : ty_pk T (ty_tkn T 10 s3) = 11 ∨ ty_pk T (ty_tkn T 10 s3) = 12 := by
          unfold ty_pk
          split
          · exact Or.inr rfl
          · exact Or.inl rfl
        subst hk
        subst hs3
        unfold f_rea_parseWish_71
        refine tw_b (g2.tk hv (k := ty_pk T (ty_tkn T 10 (ty_Wb T s).1)) (by omega) (by omega)) (fun y g => ?_)
        obtain ⟨-, f3, g3⟩ := g
        refine tw_b (g3.tk hv (k := 23) (by omega) (by omega)) (fun y g => ?_)
        obtain ⟨q1, f4, g4⟩ := g
        rw [q1, ha]
        have := fin (ty_pk T (ty_tkn T 10 (ty_Wb T s).1) - 9, (ty_Wa T s).2, (ty_tkn T (ty_pk T (ty_tkn T 10 (ty_Wb T s).1)) (ty_tkn T 10 (ty_Wb T s).1)).2, (ty_Wb T s).2) (ty_pk T (ty_tkn T 10 (ty_Wb T s).1)) _ (d + 1 + 1 + 1 + 1) y.2 (by omega) (by rw [he] at g4; exact g4) (((fτ.tr (f2.mn tz_S1S)).tr (f3.mn tz_S1S)).tr (f4.mn tz_S1S)) (by omega) (fun _ => by
          rcases kb with kb | kb
          · rw [kb]; rfl
          · rw [kb]; rfl)
        exact this
      by_cases c12 : ty_nx T (ty_tkn T 10 s3) = 12
      · rw [if_pos c12]
        exact r71 12 (if_pos c12).symm
      · rw [if_neg c12]
        exact r71 11 (if_neg c12).symm
    · rw [if_neg c9, if_neg c9]
      have := fin ((if ty_nx T s = 7 then 0 else if ty_nx T s = 8 then 1 else 4), (ty_Wa T s).2, s.2, (ty_Wb T s).2) (ty_nx T s) s3 _ τ (Nat.le_refl _) (by rw [he] at g; exact g) fτ (by omega) (fun z => by
        obtain ⟨z1, -, -, -⟩ := ty_tkn_0 z
        rw [hs3] at z1
        have := hw (h30 z1)
        unfold ty_isw at this
        rcases this with q | q | q | q
        · rw [q]; rfl
        · rw [q]; rfl
        · exact absurd q c9
        · rw [q]; rfl)
      rw [ha, ← hs3]
      exact this
  have e32 : ∀ (a : Nat) (s2 : ty_Ps) (d2 : Nat) (τ : rx_St), a = (ty_Wa T s).2 → s2 = (ty_Wa T s).1 → ((ty_Wa T s).1.1 = 0 → s.1 = 0) → d + 1 ≤ d2 → tz_pp v T n s2 d2 C τ → tw_fr (tz_S v) σ τ → tw_ok (f_rea_parseWish_32 v (nI (ty_nx T s)) (nI a) (nI s.2) τ) (fun σ' => tw_fr (tz_S v) σ σ' ∧ tz_pp v T n (ty_W1 T s).1 (d + 1) (C ++ tz_wc (ty_W1 T s).2) σ') := by
    intro a s2 d2 τ ha hs2 h20 hd g fτ
    unfold f_rea_parseWish_32
    rw [tw_ifE (show (nI (ty_nx T s) = (13 : Int32)) = (ty_nx T s = 13) by rw [show (13 : Int32) = nI 13 from rfl, tw_eq (by omega) (by omega)])]
    by_cases c : ty_nx T s = 13
    · rw [if_pos c]
      have eb : ty_Wb T s = ((ty_Wa T s).1, []) := if_pos c
      refine e42 a s2 [] τ ha (by rw [eb, hs2]) (by rw [eb]) (fun z => h20 (by rw [eb] at z; exact z)) ?_ fτ
      rw [show ([] : List ty_Uo).map tz_uc = [] from rfl, List.append_nil]
      exact g.le hd
    · rw [if_neg c]
      have eb : ty_Wb T s = ty_E1 T (ty_Wa T s).1 := if_neg c
      refine tw_b (tz_parseE hv g) (fun σ2 k => ?_)
      subst hs2
      exact e42 a _ (ty_E1 T (ty_Wa T s).1).2 σ2 ha (by rw [eb]) (by rw [eb]) (fun z => h20 (ty_E1_0 (by rw [eb] at z; exact z))) (k.2.le hd) (fτ.tr k.1)
  have a1 : ∀ {τ : rx_St} (c : ty_nx T s = 7 ∨ ty_nx T s = 9), τ = y.2 → tw_ok (f_rea_parseWish_25 v (nI (ty_nx T s)) (nI s.2) τ) (fun σ' => tw_fr (tz_S v) σ σ' ∧ tz_pp v T n (ty_W1 T s).1 (d + 1) (C ++ tz_wc (ty_W1 T s).2) σ') := by
    intro τ c hτ
    subst hτ
    have ea : ty_Wa T s = (ty_tkn T 23 (ty_tkn T (ty_nx T s) s), (ty_tkn T (ty_nx T s) s).2) := if_pos c
    unfold f_rea_parseWish_25
    refine tw_b (h1.tk hv (k := 23) (by omega) (by omega)) (fun z g => ?_)
    obtain ⟨q1, f2, g2⟩ := g
    rw [q1]
    exact e32 _ _ _ z.2 (by rw [ea]) (by rw [ea]) (fun u => by
      rw [ea] at u
      exact (ty_tkn_0 (ty_tkn_0 (show (ty_tkn T 23 (ty_tkn T (ty_nx T s) s)).1 = 0 from u)).1).1) (by omega) g2 ((f1.mn tz_S1S).tr (f2.mn tz_S1S))
  rw [y1, tw_ifE (show (nI (ty_nx T s) = (7 : Int32)) = (ty_nx T s = 7) by rw [show (7 : Int32) = nI 7 from rfl, tw_eq (by omega) (by omega)])]
  by_cases c7 : ty_nx T s = 7
  · rw [if_pos c7]
    exact a1 (Or.inl c7) rfl
  · rw [if_neg c7, tw_ifE (show (nI (ty_nx T s) = (9 : Int32)) = (ty_nx T s = 9) by rw [show (9 : Int32) = nI 9 from rfl, tw_eq (by omega) (by omega)])]
    by_cases c9 : ty_nx T s = 9
    · rw [if_pos c9]
      exact a1 (Or.inr c9) rfl
    · rw [if_neg c9]
      have ea : ty_Wa T s = (ty_tkn T (ty_nx T s) s, s.2) := if_neg (fun z => z.elim c7 c9)
      exact e32 _ _ _ y.2 (by rw [ea]) (by rw [ea]) (fun u => by
        rw [ea] at u
        exact (ty_tkn_0 (show (ty_tkn T (ty_nx T s) s).1 = 0 from u)).1) (Nat.le_refl _) h1 (f1.mn tz_S1S)
end TZ7
