/-! THE GRAMMAR: what a good text's TOKENS are -/
def ty_nm (T : List tw_Tk) (i : Nat) : Prop := ty_K T i = 23 ∧ i < 500
def ty_vo (T : List tw_Tk) (x : ty_Uo) : Prop := (x.1 = 0 → x.2.1 ≤ 9999) ∧ (x.1 = 1 → ty_nm T x.2.1) ∧ (x.1 = 6 → ty_K T x.2.1 = 24 ∧ x.2.1 < 500) ∧ (x.1 = 7 → ty_nm T x.2.1 ∧ ty_nm T x.2.2) ∧ (x.1 = 8 → ty_nm T x.2.1) ∧ x.1 ≤ 12 ∧ x.1 ≠ 2 ∧ x.2.1 < 10000 ∧ x.2.2 < 10000
def ty_vs (T : List tw_Tk) (o : List ty_Uo) : Prop := ∀ x ∈ o, ty_vo T x
theorem ty_vs_app {T : List tw_Tk} {o o' : List ty_Uo} (h : ty_vs T o) (h' : ty_vs T o') : ty_vs T (o ++ o') := fun x hx => (List.mem_append.mp hx).elim (h x) (h' x)
theorem ty_V_le {T : List tw_Tk} (hT : ∀ (i : Nat) (x : tw_Tk), T[i]? = some x → tw_tkok x) {i : Nat} (h : ty_K T i = 24) : ty_V T i ≤ 9999 := by
  unfold ty_K at h
  unfold ty_V
  cases e : T[i]? with
  | none => show 0 ≤ 9999; omega
  | some x => rw [e] at h; exact (hT i x e).2.1 h
theorem ty_nm_L {T : List tw_Tk} (hT : ∀ (i : Nat) (x : tw_Tk), T[i]? = some x → tw_tkok x) {i : Nat} (h : ty_K T i = 23) : tw_az (ty_Lt T i) ∧ (ty_Lt T i).length ≤ 8 := by
  unfold ty_K at h
  unfold ty_Lt
  cases e : T[i]? with
  | none => rw [e] at h; exact absurd h (by decide)
  | some x =>
    rw [e] at h
    have h' : x.1 = 23 := h
    exact (hT i x e).2.2 (by omega)
theorem ty_nm_of {T : List tw_Tk} {s : ty_Ps} {k : Nat} (h : (ty_tkn T k s).1 = 0) : ty_K T s.2 = k ∧ s.2 < 500 := ⟨(ty_tkn_0 h).2.1, (ty_tkn_0 h).2.2.1⟩
theorem ty_eU_v {T : List tw_Tk} (hT : ∀ (i : Nat) (x : tw_Tk), T[i]? = some x → tw_tkok x) {s : ty_Ps} (h : (ty_eU T s).1.1 = 0) : ty_vs T (ty_eU T s).2 := by
  have one : ∀ (k : ty_Ps) (x : ty_Uo), ty_vo T x → ty_vs T (k, [x]).2 := fun k x h y hy => by
    rw [List.mem_singleton.mp hy]; exact h
  have tr : ∀ (a : Nat), a = 3 ∨ a = 4 ∨ a = 5 → ∀ b, b < 500 → ty_vo T (a, b, 0) := fun a ha b hb => by
    refine ⟨fun z => ?_, fun z => ?_, fun z => ?_, fun z => ?_, fun z => ?_, ?_, ?_, ?_, ?_⟩ <;> (simp only at *; omega)
  unfold ty_eU at h ⊢
  by_cases c : ty_nx T s = 24
  · rw [if_pos c] at h ⊢
    have g := ty_nm_of (show (ty_tkn T 24 s).1 = 0 from h)
    have v9 := ty_V_le hT g.1
    refine one _ _ ⟨fun _ => v9, fun z => ?_, fun z => ?_, fun z => ?_, fun z => ?_, ?_, ?_, ?_, ?_⟩ <;> (simp only at *; omega)
  rw [if_neg c] at h ⊢
  by_cases c : ty_nx T s = 23
  · rw [if_pos c] at h ⊢
    have g := ty_nm_of (show (ty_tkn T 23 s).1 = 0 from h)
    refine one _ _ ⟨fun z => ?_, fun z => g, fun z => ?_, fun z => ?_, fun z => ?_, ?_, ?_, ?_, ?_⟩ <;> (simp only at *; omega)
  rw [if_neg c] at h ⊢
  by_cases c : ty_nx T s = 17
  · rw [if_pos c] at h ⊢
    have g := ty_nm_of (show (ty_tkn T 17 s).1 = 0 from h)
    exact one _ _ (tr 3 (Or.inl rfl) _ g.2)
  rw [if_neg c] at h ⊢
  by_cases c : ty_nx T s = 18
  · rw [if_pos c] at h ⊢
    have g := ty_nm_of (show (ty_tkn T 18 s).1 = 0 from h)
    exact one _ _ (tr 4 (Or.inr (Or.inl rfl)) _ g.2)
  rw [if_neg c] at h ⊢
  by_cases c : ty_nx T s = 19
  · rw [if_pos c] at h ⊢
    have g := ty_nm_of (show (ty_tkn T 19 s).1 = 0 from h)
    exact one _ _ (tr 5 (Or.inr (Or.inr rfl)) _ g.2)
  rw [if_neg c] at h ⊢
  by_cases c : ty_nx T s = 20
  · rw [if_pos c] at h ⊢
    have g := ty_nm_of (show (ty_tkn T 24 (ty_tkn T 20 s)).1 = 0 from h)
    refine one _ _ ⟨fun z => ?_, fun z => ?_, fun z => g, fun z => ?_, fun z => ?_, ?_, ?_, ?_, ?_⟩ <;> (simp only at *; omega)
  rw [if_neg c] at h ⊢
  by_cases c : ty_nx T s = 22
  · rw [if_pos c] at h ⊢
    have g := ty_nm_of (show (ty_tkn T 23 (ty_tkn T 22 s)).1 = 0 from h)
    refine one _ _ ⟨fun z => ?_, fun z => ?_, fun z => ?_, fun z => ?_, fun z => g, ?_, ?_, ?_, ?_⟩ <;> (simp only at *; omega)
  rw [if_neg c] at h ⊢
  by_cases c : ty_nx T s = 21
  · rw [if_pos c] at h ⊢
    have h0 : (ty_tkn T 23 (ty_tkn T 23 (ty_tkn T 21 s))).1 = 0 := h
    have g := ty_nm_of h0
    have g' := ty_nm_of (ty_tkn_0 h0).1
    refine one _ _ ⟨fun z => ?_, fun z => ?_, fun z => ?_, fun z => ⟨g', g⟩, fun z => ?_, ?_, ?_, ?_, ?_⟩ <;> (simp only at *; omega)
  rw [if_neg c] at h ⊢
  exact fun x hx => by cases hx
theorem ty_dr_v (T : List tw_Tk) (sg : Nat) : ∀ (ws : List Nat), (∀ x ∈ ws, x = 35 ∨ 27 ≤ x ∧ x ≤ 30) → ty_vs T (ty_dr sg ws).2 ∧ ∀ x ∈ (ty_dr sg ws).1, x = 35 ∨ 27 ≤ x ∧ x ≤ 30
  | [], h => ⟨fun x hx => (by cases hx), h⟩
  | x :: ws, h => by
    unfold ty_dr
    by_cases c : x = 35 ∨ ¬ (29 ≤ x ∨ sg ≤ 28)
    · rw [if_pos c]
      exact ⟨fun x hx => (by cases hx), h⟩
    · rw [if_neg c]
      obtain ⟨a, b⟩ := ty_dr_v T sg ws (fun y hy => h y (List.mem_cons_of_mem _ hy))
      refine ⟨fun y hy => ?_, b⟩
      rcases List.mem_cons.mp hy with rfl | hy
      · have := h x List.mem_cons_self
        refine ⟨fun z => ?_, fun z => ?_, fun z => ?_, fun z => ?_, fun z => ?_, ?_, ?_, ?_, ?_⟩ <;> (simp only at *; omega)
      · exact a y hy
theorem ty_eO_v (T : List tw_Tk) : ∀ (j : Nat) (s : ty_Ps) (op : Nat) (ws : List Nat), (∀ x ∈ ws, x = 35 ∨ 27 ≤ x ∧ x ≤ 30) → ∀ x ∈ (ty_eO T j s op ws).2.2, x = 35 ∨ 27 ≤ x ∧ x ≤ 30
  | 0, s, op, ws, h => h
  | j + 1, s, op, ws, h => by
    unfold ty_eO
    by_cases c : ty_nx T s = 35
    · rw [if_pos c]
      exact ty_eO_v T j _ _ _ (fun x hx => (List.mem_cons.mp hx).elim (fun e => Or.inl e) (h x))
    · rw [if_neg c]; exact h
theorem ty_eC_v (T : List tw_Tk) : ∀ (j : Nat) (s : ty_Ps) (op : Nat) (ws : List Nat) (o : List ty_Uo), (∀ x ∈ ws, x = 35 ∨ 27 ≤ x ∧ x ≤ 30) → ty_vs T o → (∀ x ∈ (ty_eC T j s op ws o).2.2.1, x = 35 ∨ 27 ≤ x ∧ x ≤ 30) ∧ ty_vs T (ty_eC T j s op ws o).2.2.2
  | 0, s, op, ws, o, h, g => ⟨h, g⟩
  | j + 1, s, op, ws, o, h, g => by
    unfold ty_eC
    by_cases c : 0 < op ∧ ty_nx T s = 36
    · rw [if_pos c]
      obtain ⟨a, b⟩ := ty_dr_v T 27 ws h
      exact ty_eC_v T j _ _ _ _ (fun x hx => b x (List.mem_of_mem_tail hx)) (ty_vs_app g a)
    · rw [if_neg c]; exact ⟨h, g⟩
theorem ty_eL_v {T : List tw_Tk} (hT : ∀ (i : Nat) (x : tw_Tk), T[i]? = some x → tw_tkok x) : ∀ (m : Nat) (s : ty_Ps) (op : Nat) (ws : List Nat) (o : List ty_Uo), (∀ x ∈ ws, x = 35 ∨ 27 ≤ x ∧ x ≤ 30) → ty_vs T o → (ty_eL T m s op ws o).1.1 = 0 → ty_vs T (ty_eL T m s op ws o).2
  | 0, s, op, ws, o, _, g, _ => g
  | m + 1, s, op, ws, o, h, g, hz => by
    by_cases z : s.1 = 0
    · rw [ty_eL_s z] at hz ⊢
      have cc0 := ty_eC_v T 7 (ty_eU T (ty_eO T 7 s op ws).1).1 (ty_eO T 7 s op ws).2.1 (ty_eO T 7 s op ws).2.2 (o ++ (ty_eU T (ty_eO T 7 s op ws).1).2) (ty_eO_v T 7 s op ws h)
      have cm := ty_eC_m (T := T) 7 (ty_eU T (ty_eO T 7 s op ws).1).1 (ty_eO T 7 s op ws).2.1 (ty_eO T 7 s op ws).2.2 (o ++ (ty_eU T (ty_eO T 7 s op ws).1).2)
      unfold ty_eLc at hz ⊢
      generalize ty_eC T 7 (ty_eU T (ty_eO T 7 s op ws).1).1 (ty_eO T 7 s op ws).2.1 (ty_eO T 7 s op ws).2.2 (o ++ (ty_eU T (ty_eO T 7 s op ws).1).2) = cc at cc0 cm hz ⊢
      unfold ty_eLk at hz ⊢
      by_cases k : 27 ≤ ty_nx T cc.1 ∧ ty_nx T cc.1 ≤ 30
      · rw [if_pos k] at hz ⊢
        have z1 := (ty_nx_0 (T := T) (s := cc.1) (by omega)).1
        have c := cc0 (ty_vs_app g (ty_eU_v hT (cm z1).1))
        obtain ⟨a, b⟩ := ty_dr_v T (ty_nx T cc.1) cc.2.2.1 c.1
        exact ty_eL_v hT m _ _ _ _ (fun x hx => (List.mem_cons.mp hx).elim (fun e => Or.inr (by omega)) (b x)) (ty_vs_app c.2 a) hz
      · rw [if_neg k] at hz ⊢
        have z1 : cc.1.1 = 0 := by
          by_cases y : cc.1.1 = 0 ∧ 0 < cc.2.1
          · exact y.1
          · have hz' : (if cc.1.1 = 0 ∧ 0 < cc.2.1 then (1, cc.1.2) else cc.1).1 = 0 := hz
            rw [if_neg y] at hz'
            exact hz'
        have c := cc0 (ty_vs_app g (ty_eU_v hT (cm z1).1))
        exact ty_vs_app c.2 (ty_dr_v T 27 _ c.1).1
    · rw [ty_eL_f z] at hz; exact absurd hz z
theorem ty_E1_v {T : List tw_Tk} (hT : ∀ (i : Nat) (x : tw_Tk), T[i]? = some x → tw_tkok x) {s : ty_Ps} (h : (ty_E1 T s).1.1 = 0) : ty_vs T (ty_E1 T s).2 := ty_eL_v hT 501 s 0 [] [] (fun x hx => (by cases hx)) (fun x hx => (by cases hx)) h
theorem ty_no_0 {T : List tw_Tk} : ∀ (j : Nat) (s : ty_Ps) (k : Nat), (ty_no T j s k).1.1 = 0 → s.1 = 0
  | 0, s, k, z => z
  | j + 1, s, k, z => by
    unfold ty_no at z
    by_cases c : ty_nx T s = 16
    · rw [if_pos c] at z
      exact (ty_tkn_0 (ty_no_0 j _ _ z)).1
    · rw [if_neg c] at z; exact z
theorem ty_L1_0 {T : List tw_Tk} {s : ty_Ps} (h : (ty_L1 T s).1.1 = 0) : s.1 = 0 ∧ (ty_E1 T (ty_no T 501 s 0).1).1.1 = 0 := by
  have z1 := ty_E1_0 (T := T) h
  have z2 := (ty_tkn_0 z1).1
  exact ⟨ty_no_0 _ _ _ (ty_E1_0 (T := T) z2), z2⟩
def ty_vL (T : List tw_Tk) (l : ty_Li) : Prop := l.2.1 < 4 ∧ ty_vs T l.2.2.1 ∧ ty_vs T l.2.2.2
theorem ty_L1_v {T : List tw_Tk} (hT : ∀ (i : Nat) (x : tw_Tk), T[i]? = some x → tw_tkok x) {s : ty_Ps} (h : (ty_L1 T s).1.1 = 0) : ty_vL T (ty_L1 T s).2 :=
  ⟨(ty_L1_so T s).1, ty_E1_v hT (ty_L1_0 h).2, ty_E1_v hT h⟩
theorem ty_lo_v {T : List tw_Tk} (hT : ∀ (i : Nat) (x : tw_Tk), T[i]? = some x → tw_tkok x) : ∀ (j : Nat) (s : ty_Ps) (ls : List ty_Lf), (ty_lo T j s ls).1.1 = 0 → s.1 = 0 ∧ ((∀ l ∈ ls, ty_vL T l.2) → ∀ l ∈ (ty_lo T j s ls).2, ty_vL T l.2)
  | 0, s, ls, z => ⟨z, fun h => h⟩
  | j + 1, s, ls, z => by
    unfold ty_lo at z ⊢
    by_cases c : ty_nx T s = 15 ∨ ty_nx T s = 14
    · rw [if_pos c] at z ⊢
      obtain ⟨z1, g⟩ := ty_lo_v hT j _ _ z
      refine ⟨(ty_nx_0 (T := T) (s := s) (by omega)).1, fun h => g (fun l hl => ?_)⟩
      rcases List.mem_append.mp hl with hl | hl
      · exact h l hl
      · rw [List.mem_singleton.mp hl]; exact ty_L1_v hT z1
    · rw [if_neg c] at z ⊢
      exact ⟨z, fun h => h⟩
def ty_vW (T : List tw_Tk) (w : ty_Wi) : Prop := w.1 ≤ 4 ∧ ty_vs T w.2.2.2 ∧ (w.1 = 0 ∨ w.1 = 2 ∨ w.1 = 3 → ty_nm T w.2.1) ∧ (w.1 = 2 ∨ w.1 = 3 → ty_nm T w.2.2.1) ∧ w.2.1 ≤ 500 ∧ w.2.2.1 ≤ 500
theorem ty_W1_0 {T : List tw_Tk} {s : ty_Ps} (h : (ty_W1 T s).1.1 = 0) : s.1 = 0 ∧ (ty_Wb T s).1.1 = 0 ∧ (ty_Wa T s).1.1 = 0 := by
  have bz : (ty_Wb T s).1.1 = 0 := by
    unfold ty_W1 at h
    by_cases c : ty_nx T s = 9
    · rw [if_pos c] at h
      exact (ty_tkn_0 (ty_tkn_0 (ty_tkn_0 (ty_tkn_0 (show (ty_tkn T 25 (ty_tkn T 23 (ty_tkn T (ty_pk T (ty_tkn T 10 (ty_Wb T s).1)) (ty_tkn T 10 (ty_Wb T s).1)))).1 = 0 from h)).1).1).1).1
    · rw [if_neg c] at h
      exact (ty_tkn_0 (show (ty_tkn T 25 (ty_Wb T s).1).1 = 0 from h)).1
  have az : (ty_Wa T s).1.1 = 0 := by
    unfold ty_Wb at bz
    by_cases c : ty_nx T s = 13
    · rw [if_pos c] at bz; exact bz
    · rw [if_neg c] at bz; exact ty_E1_0 bz
  refine ⟨?_, bz, az⟩
  unfold ty_Wa at az
  by_cases c : ty_nx T s = 7 ∨ ty_nx T s = 9
  · rw [if_pos c] at az
    exact (ty_tkn_0 (ty_tkn_0 (show (ty_tkn T 23 (ty_tkn T (ty_nx T s) s)).1 = 0 from az)).1).1
  · rw [if_neg c] at az
    exact (ty_tkn_0 (show (ty_tkn T (ty_nx T s) s).1 = 0 from az)).1
theorem ty_W1_v {T : List tw_Tk} (hT : ∀ (i : Nat) (x : tw_Tk), T[i]? = some x → tw_tkok x) {s : ty_Ps} (h : (ty_W1 T s).1.1 = 0) : ty_vW T (ty_W1 T s).2 := by
  obtain ⟨sz, bz, az⟩ := ty_W1_0 h
  have eb : ty_vs T (ty_Wb T s).2 := by
    unfold ty_Wb at bz ⊢
    by_cases c : ty_nx T s = 13
    · rw [if_pos c]; exact fun x hx => (by cases hx)
    · rw [if_neg c] at bz ⊢; exact ty_E1_v hT bz
  have ea : (ty_nx T s = 7 ∨ ty_nx T s = 9 → ty_nm T (ty_Wa T s).2) ∧ (ty_Wa T s).2 ≤ 500 := by
    unfold ty_Wa at az ⊢
    by_cases c : ty_nx T s = 7 ∨ ty_nx T s = 9
    · rw [if_pos c] at az ⊢
      have g := ty_nm_of (show (ty_tkn T 23 (ty_tkn T (ty_nx T s) s)).1 = 0 from az)
      exact ⟨fun _ => g, by have := g.2; show (ty_tkn T (ty_nx T s) s).2 ≤ 500; omega⟩
    · rw [if_neg c] at az ⊢
      have g := ty_nm_of (show (ty_tkn T (ty_nx T s) s).1 = 0 from az)
      exact ⟨fun y => absurd y c, by have := g.2; show s.2 ≤ 500; omega⟩
  unfold ty_W1 at h ⊢
  by_cases c : ty_nx T s = 9
  · rw [if_pos c] at h ⊢
    have h1 : (ty_tkn T 25 (ty_tkn T 23 (ty_tkn T (ty_pk T (ty_tkn T 10 (ty_Wb T s).1)) (ty_tkn T 10 (ty_Wb T s).1)))).1 = 0 := h
    have g := ty_nm_of (ty_tkn_0 h1).1
    refine ⟨?_, eb, fun _ => ea.1 (Or.inr c), fun _ => g, ea.2, by have := g.2; show (ty_tkn T (ty_pk T (ty_tkn T 10 (ty_Wb T s).1)) (ty_tkn T 10 (ty_Wb T s).1)).2 ≤ 500; omega⟩
    show ty_pk T _ - 9 ≤ 4
    unfold ty_pk
    split <;> omega
  · rw [if_neg c] at h ⊢
    have kk : ∀ y, y = (if ty_nx T s = 7 then 0 else if ty_nx T s = 8 then 1 else 4) → y ≤ 4 ∧ (y = 0 ∨ y = 2 ∨ y = 3 → ty_nx T s = 7) ∧ ¬ (y = 2 ∨ y = 3) := fun y hy => by
      by_cases c7 : ty_nx T s = 7
      · rw [if_pos c7] at hy; omega
      · rw [if_neg c7] at hy
        by_cases c8 : ty_nx T s = 8
        · rw [if_pos c8] at hy; omega
        · rw [if_neg c8] at hy; omega
    have k := kk _ rfl
    have s5 : s.2 ≤ 500 := by
      unfold ty_Wa at az
      by_cases c : ty_nx T s = 7 ∨ ty_nx T s = 9
      · rw [if_pos c] at az
        have := (ty_nm_of (ty_tkn_0 (show (ty_tkn T 23 (ty_tkn T (ty_nx T s) s)).1 = 0 from az)).1).2
        omega
      · rw [if_neg c] at az
        have := (ty_nm_of (show (ty_tkn T (ty_nx T s) s).1 = 0 from az)).2
        omega
    exact ⟨k.1, eb, fun z => ea.1 (Or.inl (k.2.1 z)), fun z => absurd z k.2.2, ea.2, s5⟩
theorem ty_wo_v {T : List tw_Tk} (hT : ∀ (i : Nat) (x : tw_Tk), T[i]? = some x → tw_tkok x) : ∀ (j : Nat) (s : ty_Ps) (ws : List ty_Wi), (ty_wo T j s ws).1.1 = 0 → s.1 = 0 ∧ ((∀ w ∈ ws, ty_vW T w) → (∀ w ∈ (ty_wo T j s ws).2, ty_vW T w)) ∧ (1 ≤ j → j ≤ 7 → ws.length = 7 - j → (ty_wo T j s ws).2.length ≤ 6)
  | 0, s, ws, z => ⟨z, fun h => h, fun a => absurd a (by omega)⟩
  | j + 1, s, ws, z => by
    unfold ty_wo at z ⊢
    by_cases c : ty_nx T s = 7 ∨ ty_nx T s = 8 ∨ ty_nx T s = 9 ∨ ty_nx T s = 13
    · rw [if_pos c] at z ⊢
      obtain ⟨z1, g, gl⟩ := ty_wo_v hT j _ _ z
      have z0 := (ty_nx_0 (T := T) (s := s) (by omega)).1
      have zr := ty_room_0 (ty_W1_0 z1).1
      refine ⟨z0, fun h => g (fun w hw => ?_), fun _ a b => gl (by omega) (by omega) (by rw [List.length_append, b]; show 7 - (j + 1) + 1 = 7 - j; omega)⟩
      rcases List.mem_append.mp hw with hw | hw
      · exact h w hw
      · rw [List.mem_singleton.mp hw]
        exact ty_W1_v hT z1
    · rw [if_neg c] at z ⊢
      exact ⟨z, fun h => h, fun _ a b => by rw [b]; omega⟩
def ty_vR (T : List tw_Tk) (r : ty_Ru) : Prop := (∀ l ∈ r.1, ty_vL T l.2) ∧ (∀ w ∈ r.2, ty_vW T w) ∧ r.2.length ≤ 6 ∧ (∀ l ls, r.1 = l :: ls → l.1 = false)
theorem ty_lo_hd (T : List tw_Tk) : ∀ (j : Nat) (s : ty_Ps) (ls : List ty_Lf) (l : ty_Lf), ∃ ms, (ty_lo T j s (l :: ls)).2 = l :: ms
  | 0, s, ls, l => ⟨ls, rfl⟩
  | j + 1, s, ls, l => by
    unfold ty_lo
    by_cases c : ty_nx T s = 15 ∨ ty_nx T s = 14
    · rw [if_pos c]
      exact ty_lo_hd T j _ _ l
    · rw [if_neg c]
      exact ⟨ls, rfl⟩
theorem ty_R1_v {T : List tw_Tk} (hT : ∀ (i : Nat) (x : tw_Tk), T[i]? = some x → tw_tkok x) {cnt : Nat} {s : ty_Ps} (h : (ty_R1 T cnt s).1.1 = 0) : s.1 = 0 ∧ cnt < 8 ∧ ty_vR T (ty_R1 T cnt s).2 := by
  have y1 : (ty_wo T 7 (ty_Ra T (ty_tkn T 5 (ty_room cnt 8 s))).1 []).1.1 = 0 := (ty_tkn_0 (T := T) (k := 2) h).1
  obtain ⟨y2, y3, y4⟩ := ty_wo_v hT 7 _ _ y1
  have a : (ty_tkn T 5 (ty_room cnt 8 s)).1 = 0 ∧ (∀ l ∈ (ty_Ra T (ty_tkn T 5 (ty_room cnt 8 s))).2, ty_vL T l.2) ∧ ∀ l ls, (ty_Ra T (ty_tkn T 5 (ty_room cnt 8 s))).2 = l :: ls → l.1 = false := by
    unfold ty_Ra at y2 ⊢
    by_cases c6 : ty_nx T (ty_tkn T 5 (ty_room cnt 8 s)) = 6
    · rw [if_pos c6] at y2 ⊢
      obtain ⟨l1, l2⟩ := ty_lo_v hT 501 _ _ y2
      refine ⟨(ty_nx_0 (T := T) (s := ty_tkn T 5 (ty_room cnt 8 s)) (by omega)).1, l2 (fun l hl => by rw [List.mem_singleton.mp hl]; exact ty_L1_v hT l1), fun l ls e => ?_⟩
      obtain ⟨ms, hm⟩ := ty_lo_hd T 501 (ty_L1 T (ty_tkn T 6 (ty_tkn T 5 (ty_room cnt 8 s)))).1 [] (false, (ty_L1 T (ty_tkn T 6 (ty_tkn T 5 (ty_room cnt 8 s)))).2)
      rw [hm] at e
      rw [← (List.cons.inj e).1]
    · rw [if_neg c6] at y2 ⊢
      exact ⟨y2, fun l hl => (by cases hl), fun l ls e => (by cases e)⟩
  have zr := ty_room_0 (ty_tkn_0 a.1).1
  exact ⟨zr.1, zr.2.1, a.2.1, y3 (fun w hw => by cases hw), y4 (by omega) (by omega) rfl, a.2.2⟩
def ty_vV (T : List tw_Tk) (x : ty_Va) : Prop := ty_nm T x.1 ∧ ty_K T x.2.1 = 24
def ty_vK (T : List tw_Tk) (K : ty_Ki) : Prop := ty_nm T K.1 ∧ (∀ x ∈ K.2.1, ty_vV T x) ∧ (∀ r ∈ K.2.2, ty_vR T r) ∧ K.2.1.length ≤ 6 ∧ K.2.2.length ≤ 8
theorem ty_H1_v {T : List tw_Tk} {cnt : Nat} {s : ty_Ps} (h : (ty_H1 T cnt s).1.1 = 0) : s.1 = 0 ∧ cnt < 6 ∧ ty_vV T (ty_H1 T cnt s).2 := by
  have h1 : (ty_tkn T 25 (ty_tkn T 24 (ty_Hc T cnt s))).1 = 0 := h
  have h2 := (ty_tkn_0 h1).1
  have g2 := ty_nm_of h2
  have h3 := (ty_tkn_0 h2).1
  have hb0 : (ty_Hb T cnt s).1 = 0 := by
    unfold ty_Hc at h3
    by_cases c : ty_nx T (ty_Hb T cnt s) = 28
    · rw [if_pos c] at h3; exact (ty_tkn_0 h3).1
    · rw [if_neg c] at h3; exact h3
  have h4 : (ty_tkn T 23 (ty_Ha T cnt s)).1 = 0 := (ty_tkn_0 hb0).1
  have g4 := ty_nm_of h4
  have h5 : (ty_Ha T cnt s).1 = 0 := (ty_tkn_0 h4).1
  have zr := ty_room_0 (ty_tkn_0 h5).1
  exact ⟨zr.1, zr.2.1, g4, g2.1⟩
theorem ty_hs_v {T : List tw_Tk} : ∀ (j : Nat) (s : ty_Ps) (l : List ty_Va), (ty_hs T j s l).1.1 = 0 → s.1 = 0 ∧ ((∀ x ∈ l, ty_vV T x) → ∀ x ∈ (ty_hs T j s l).2, ty_vV T x) ∧ (l.length ≤ 6 → (ty_hs T j s l).2.length ≤ 6)
  | 0, s, l, z => ⟨z, fun h => h, fun h => h⟩
  | j + 1, s, l, z => by
    unfold ty_hs at z ⊢
    by_cases c : ty_nx T s = 3 ∨ ty_nx T s = 4
    · rw [if_pos c] at z ⊢
      obtain ⟨z1, g, gl⟩ := ty_hs_v j _ _ z
      obtain ⟨a1, a2, a3⟩ := ty_H1_v z1
      refine ⟨a1, fun h => g (fun x hx => ?_), fun _ => gl (by rw [List.length_append]; show l.length + 1 ≤ 6; omega)⟩
      rcases List.mem_append.mp hx with hx | hx
      · exact h x hx
      · rw [List.mem_singleton.mp hx]; exact a3
    · rw [if_neg c] at z ⊢
      exact ⟨z, fun h => h, fun h => h⟩
theorem ty_rs_v {T : List tw_Tk} (hT : ∀ (i : Nat) (x : tw_Tk), T[i]? = some x → tw_tkok x) : ∀ (j : Nat) (s : ty_Ps) (l : List ty_Ru), (ty_rs T j s l).1.1 = 0 → s.1 = 0 ∧ ((∀ x ∈ l, ty_vR T x) → ∀ x ∈ (ty_rs T j s l).2, ty_vR T x) ∧ (l.length ≤ 8 → (ty_rs T j s l).2.length ≤ 8)
  | 0, s, l, z => ⟨z, fun h => h, fun h => h⟩
  | j + 1, s, l, z => by
    unfold ty_rs at z ⊢
    by_cases c : ty_nx T s = 5
    · rw [if_pos c] at z ⊢
      obtain ⟨z1, g, gl⟩ := ty_rs_v hT j _ _ z
      obtain ⟨a1, a2, a3⟩ := ty_R1_v hT z1
      refine ⟨a1, fun h => g (fun x hx => ?_), fun _ => gl (by rw [List.length_append]; show l.length + 1 ≤ 8; omega)⟩
      rcases List.mem_append.mp hx with hx | hx
      · exact h x hx
      · rw [List.mem_singleton.mp hx]; exact a3
    · rw [if_neg c] at z ⊢
      exact ⟨z, fun h => h, fun h => h⟩
theorem ty_K1_v {T : List tw_Tk} (hT : ∀ (i : Nat) (x : tw_Tk), T[i]? = some x → tw_tkok x) {cnt : Nat} {s : ty_Ps} (h : (ty_K1 T cnt s).1.1 = 0) : s.1 = 0 ∧ cnt < 5 ∧ ty_vK T (ty_K1 T cnt s).2 := by
  have h1 : (ty_rs T 9 (ty_hs T 7 (ty_tkn T 23 (ty_Ko T cnt s)) []).1 []).1.1 = 0 := (ty_tkn_0 (T := T) (k := 2) h).1
  obtain ⟨h2, h3, h4⟩ := ty_rs_v hT 9 _ _ h1
  obtain ⟨h5, h6, h7⟩ := ty_hs_v 7 _ _ h2
  have g := ty_nm_of h5
  have h8 : (ty_Ko T cnt s).1 = 0 := (ty_tkn_0 h5).1
  have zr := ty_room_0 (ty_tkn_0 h8).1
  exact ⟨zr.1, zr.2.1, g, h6 (fun x hx => by cases hx), h3 (fun x hx => by cases hx), h7 (Nat.zero_le _), h4 (Nat.zero_le _)⟩
theorem ty_ks_v {T : List tw_Tk} (hT : ∀ (i : Nat) (x : tw_Tk), T[i]? = some x → tw_tkok x) : ∀ (j : Nat) (s : ty_Ps) (l : List ty_Ki), (ty_ks T j s l).1.1 = 0 → s.1 = 0 ∧ ((∀ x ∈ l, ty_vK T x) → ∀ x ∈ (ty_ks T j s l).2, ty_vK T x) ∧ (l.length ≤ 5 → (ty_ks T j s l).2.length ≤ 5)
  | 0, s, l, z => ⟨z, fun h => h, fun h => h⟩
  | j + 1, s, l, z => by
    unfold ty_ks at z ⊢
    by_cases c : ty_nx T s = 1
    · rw [if_pos c] at z ⊢
      obtain ⟨z1, g, gl⟩ := ty_ks_v hT j _ _ z
      obtain ⟨a1, a2, a3⟩ := ty_K1_v hT z1
      refine ⟨a1, fun h => g (fun x hx => ?_), fun _ => gl (by rw [List.length_append]; show l.length + 1 ≤ 5; omega)⟩
      rcases List.mem_append.mp hx with hx | hx
      · exact h x hx
      · rw [List.mem_singleton.mp hx]; exact a3
    · rw [if_neg c] at z ⊢
      exact ⟨z, fun h => h, fun h => h⟩
def ty_vS (T : List tw_Tk) (x : ty_Se) : Prop := ty_nm T x.1 ∧ ty_K T x.2 = 24
theorem ty_ss_v {T : List tw_Tk} : ∀ (j : Nat) (s : ty_Ps) (l : List ty_Se), (ty_ss T j s l).1.1 = 0 → s.1 = 0 ∧ ((∀ x ∈ l, ty_vS T x) → ∀ x ∈ (ty_ss T j s l).2, ty_vS T x) ∧ (l.length ≤ 6 → (ty_ss T j s l).2.length ≤ 6)
  | 0, s, l, z => ⟨z, fun h => h, fun h => h⟩
  | j + 1, s, l, z => by
    unfold ty_ss at z ⊢
    by_cases c : ty_nx T s = 0
    · rw [if_pos c] at z ⊢
      obtain ⟨z1, g, gl⟩ := ty_ss_v j _ _ z
      have y1 : (ty_tkn T 25 (ty_tkn T 24 (ty_tkn T 26 (ty_tkn T 23 (ty_tkn T 0 (ty_room l.length 6 s)))))).1 = 0 := z1
      have y2 := (ty_tkn_0 y1).1
      have g2 := ty_nm_of y2
      have y3 := (ty_tkn_0 y2).1
      have y4 := (ty_tkn_0 y3).1
      have g4 := ty_nm_of y4
      have y5 := (ty_tkn_0 y4).1
      have zr := ty_room_0 (ty_tkn_0 y5).1
      refine ⟨zr.1, fun h => g (fun x hx => ?_), fun _ => gl (by rw [List.length_append]; show l.length + 1 ≤ 6; omega)⟩
      rcases List.mem_append.mp hx with hx | hx
      · exact h x hx
      · rw [List.mem_singleton.mp hx]; exact ⟨g4, g2.1⟩
    · rw [if_neg c] at z ⊢
      exact ⟨z, fun h => h, fun h => h⟩
/-- a good text -/
def ty_vP (T : List tw_Tk) (U : ty_Wo) : Prop := (∀ x ∈ U.1, ty_vS T x) ∧ U.1.length ≤ 6 ∧ (∀ K ∈ U.2, ty_vK T K) ∧ U.2.length ≤ 5
theorem ty_P_v {T : List tw_Tk} (hT : ∀ (i : Nat) (x : tw_Tk), T[i]? = some x → tw_tkok x) (h : (ty_P T).1.1 = 0) : ty_vP T (ty_P T).2 := by
  have h1 : (ty_ks T 6 (ty_ss T 7 (0, 0) []).1 []).1.1 = 0 := by
    have h' : (ty_end T (ty_ks T 6 (ty_ss T 7 (0, 0) []).1 []).1).1 = 0 := h
    unfold ty_end at h'
    by_cases c : (ty_ks T 6 (ty_ss T 7 (0, 0) []).1 []).1.1 = 0 ∧ ty_nx T (ty_ks T 6 (ty_ss T 7 (0, 0) []).1 []).1 ≠ 37
    · exact c.1
    · rw [if_neg c] at h'; exact h'
  obtain ⟨h2, h3, h4⟩ := ty_ks_v hT 6 _ _ h1
  obtain ⟨-, h6, h7⟩ := ty_ss_v 7 _ _ h2
  exact ⟨h6 (fun x hx => by cases hx), h7 (Nat.zero_le _), h3 (fun x hx => by cases hx), h4 (Nat.zero_le _)⟩
