/-! HOW DEEP a good E goes -/
def ty_dp : List ty_Uo → Nat → Nat → Prop
  | [], d, e => d = e
  | x :: c, d, e => if x.1 < 9 then d + 1 ≤ 15 ∧ ty_dp c (d + 1) e else x.1 ≤ 12 ∧ 2 ≤ d ∧ ty_dp c (d - 1) e
theorem ty_dp_app : ∀ (a b : List ty_Uo) (d m e : Nat), ty_dp a d m → ty_dp b m e → ty_dp (a ++ b) d e
  | [], b, d, m, e, h, g => by
    have h : d = m := h
    subst h
    exact g
  | x :: a, b, d, m, e, h, g => by
    rw [List.cons_append]
    unfold ty_dp at h ⊢
    by_cases c : x.1 < 9
    · rw [if_pos c] at h ⊢
      exact ⟨h.1, ty_dp_app a b _ m e h.2 g⟩
    · rw [if_neg c] at h ⊢
      exact ⟨h.1, h.2.1, ty_dp_app a b _ m e h.2.2 g⟩
theorem ty_wf_all : ∀ (ws : List Nat) (op : Nat), ty_wf ws op → ∀ x ∈ ws, x = 35 ∨ 27 ≤ x ∧ x ≤ 30
  | [], _, _, x, hx => by cases hx
  | y :: ws, op, h, x, hx => by
    have g : (y = 35 ∨ 27 ≤ y ∧ y ≤ 30) ∧ ∃ op', ty_wf ws op' := by
      rcases h with ⟨h1, -, h3⟩ | ⟨h1, -, h3⟩ | ⟨h1, -, h3⟩
      · exact ⟨Or.inl h1, _, h3⟩
      · exact ⟨Or.inr (by omega), _, h3⟩
      · exact ⟨Or.inr (by omega), _, h3⟩
    obtain ⟨g1, op', g2⟩ := g
    rcases List.mem_cons.mp hx with e | hx
    · rw [e]; exact g1
    · exact ty_wf_all ws op' g2 x hx
theorem ty_dr_dp (sg : Nat) : ∀ (ws : List Nat), (∀ x ∈ ws, x = 35 ∨ 27 ≤ x ∧ x ≤ 30) → ty_dp (ty_dr sg ws).2 (ty_bin ws + 1) (ty_bin (ty_dr sg ws).1 + 1)
  | [], _ => rfl
  | x :: ws, h => by
    unfold ty_dr
    by_cases c : x = 35 ∨ ¬ (29 ≤ x ∨ sg ≤ 28)
    · rw [if_pos c]; exact rfl
    · rw [if_neg c]
      have hx := h x (List.mem_cons_self ..)
      have n35 : ¬ x = 35 := fun z => c (Or.inl z)
      have ih := ty_dr_dp sg ws (fun y hy => h y (List.mem_cons_of_mem _ hy))
      show ty_dp ((x - 18, 0, 0) :: (ty_dr sg ws).2) _ _
      unfold ty_dp
      rw [if_neg (show ¬ (x - 18, 0, 0).1 < 9 from by show ¬ x - 18 < 9; omega), ty_bin, if_neg n35]
      refine ⟨by show x - 18 ≤ 12; omega, by omega, ?_⟩
      rw [show 1 + ty_bin ws + 1 - 1 = ty_bin ws + 1 by omega]
      exact ih
theorem ty_eO_wf {T : List tw_Tk} : ∀ (j : Nat) (s : ty_Ps) (op : Nat) (ws : List Nat), ty_wf ws op → op ≤ 6 → (ty_eO T j s op ws).1.1 = 0 → ty_wf (ty_eO T j s op ws).2.2 (ty_eO T j s op ws).2.1 ∧ (ty_eO T j s op ws).2.1 ≤ 6 ∧ ty_bin (ty_eO T j s op ws).2.2 = ty_bin ws
  | 0, s, op, ws, h, o6, _ => ⟨h, o6, rfl⟩
  | j + 1, s, op, ws, h, o6, z => by
    unfold ty_eO at z ⊢
    by_cases c : ty_nx T s = 35
    · rw [if_pos c] at z ⊢
      have z1 := (ty_eO_m (T := T) j _ _ _ z).1
      obtain ⟨-, l6, -⟩ := ty_room_0 (ty_tkn_0 z1).1
      obtain ⟨a, b, e⟩ := ty_eO_wf j _ (op + 1) (35 :: ws) (Or.inl ⟨rfl, by omega, by rw [Nat.add_sub_cancel]; exact h⟩) (by omega) z
      refine ⟨a, b, e.trans ?_⟩
      rw [ty_bin, if_pos rfl, Nat.zero_add]
    · rw [if_neg c] at z ⊢
      exact ⟨h, o6, rfl⟩
theorem ty_eU_dp {T : List tw_Tk} {s : ty_Ps} {d : Nat} (h : (ty_eU T s).1.1 = 0) (hd : d + 1 ≤ 15) : ty_dp (ty_eU T s).2 d (d + 1) := by
  have one : ∀ (x : ty_Uo), x.1 < 9 → ty_dp [x] d (d + 1) := fun x hx => by
    unfold ty_dp
    rw [if_pos hx]
    exact ⟨hd, rfl⟩
  unfold ty_eU at h ⊢
  by_cases c : ty_nx T s = 24
  · rw [if_pos c]; exact one _ (by show 0 < 9; omega)
  rw [if_neg c] at h ⊢
  by_cases c : ty_nx T s = 23
  · rw [if_pos c]; exact one _ (by show 1 < 9; omega)
  rw [if_neg c] at h ⊢
  have n23 := c
  by_cases c : ty_nx T s = 17
  · rw [if_pos c]; exact one _ (by show 3 < 9; omega)
  rw [if_neg c] at h ⊢
  by_cases c : ty_nx T s = 18
  · rw [if_pos c]; exact one _ (by show 4 < 9; omega)
  rw [if_neg c] at h ⊢
  by_cases c : ty_nx T s = 19
  · rw [if_pos c]; exact one _ (by show 5 < 9; omega)
  rw [if_neg c] at h ⊢
  by_cases c : ty_nx T s = 20
  · rw [if_pos c]; exact one _ (by show 6 < 9; omega)
  rw [if_neg c] at h ⊢
  by_cases c : ty_nx T s = 22
  · rw [if_pos c]; exact one _ (by show 8 < 9; omega)
  rw [if_neg c] at h ⊢
  by_cases c : ty_nx T s = 21
  · rw [if_pos c]; exact one _ (by show 7 < 9; omega)
  rw [if_neg c] at h
  have g := ty_tkn_0 (show (ty_tkn T 23 s).1 = 0 from h)
  exact absurd (by unfold ty_nx; rw [if_pos g.1]; exact g.2.1) n23
theorem ty_eC_dp {T : List tw_Tk} : ∀ (j : Nat) (s : ty_Ps) (op : Nat) (ws : List Nat) (o : List ty_Uo), ty_wf ws op → ty_dp o 0 (ty_bin ws + 1) → ty_wf (ty_eC T j s op ws o).2.2.1 (ty_eC T j s op ws o).2.1 ∧ (ty_eC T j s op ws o).2.1 ≤ op ∧ ty_dp (ty_eC T j s op ws o).2.2.2 0 (ty_bin (ty_eC T j s op ws o).2.2.1 + 1)
  | 0, s, op, ws, o, h, g => ⟨h, Nat.le_refl _, g⟩
  | j + 1, s, op, ws, o, h, g => by
    unfold ty_eC
    by_cases c : 0 < op ∧ ty_nx T s = 36
    · rw [if_pos c]
      obtain ⟨a1, -, -, a4, -⟩ := ty_dr_ok 27 ws op h
      have dd := ty_dp_app _ _ _ _ _ g (ty_dr_dp 27 ws (ty_wf_all ws op h))
      rcases a4 (by omega) with ⟨-, e⟩ | ⟨w', e⟩
      · omega
      · rw [e] at a1 dd ⊢
        have w1 : ty_wf w' (op - 1) := by
          rcases a1 with ⟨-, -, a⟩ | ⟨a, -, -⟩ | ⟨a, -, -⟩
          · exact a
          · omega
          · omega
        rw [ty_bin, if_pos rfl, Nat.zero_add] at dd
        obtain ⟨b1, b2, b3⟩ := ty_eC_dp j (ty_tkn T 36 s) (op - 1) w' (o ++ (ty_dr 27 ws).2) w1 dd
        exact ⟨b1, Nat.le_trans b2 (Nat.sub_le _ _), b3⟩
    · rw [if_neg c]
      exact ⟨h, Nat.le_refl _, g⟩
theorem ty_eL_dp {T : List tw_Tk} : ∀ (m : Nat) (s : ty_Ps) (op : Nat) (ws : List Nat) (o : List ty_Uo), (s.1 = 0 → 501 ≤ m + s.2 ∧ (m = 0 → s.2 ≤ 500)) → ty_wf ws op → op ≤ 6 → ty_dp o 0 (ty_bin ws) → (ty_eL T m s op ws o).1.1 = 0 → ty_dp (ty_eL T m s op ws o).2 0 1
  | 0, s, op, ws, o, hm, _, _, _, hz => by
    have := hm hz
    omega
  | m + 1, s, op, ws, o, hm, hw, o6, g, hz => by
    by_cases z : s.1 = 0
    · rw [ty_eL_s z] at hz ⊢
      have m0 := hm z
      have am := ty_eO_m (T := T) 7 s op ws
      have aw := ty_eO_wf (T := T) 7 s op ws hw o6
      have um := fun h => ty_eU_m (T := T) (s := (ty_eO T 7 s op ws).1) h
      have ud := fun (d : Nat) h => ty_eU_dp (T := T) (s := (ty_eO T 7 s op ws).1) (d := d) h
      have cc0 := ty_eC_dp (T := T) 7 (ty_eU T (ty_eO T 7 s op ws).1).1 (ty_eO T 7 s op ws).2.1 (ty_eO T 7 s op ws).2.2 (o ++ (ty_eU T (ty_eO T 7 s op ws).1).2)
      have cm := ty_eC_m (T := T) 7 (ty_eU T (ty_eO T 7 s op ws).1).1 (ty_eO T 7 s op ws).2.1 (ty_eO T 7 s op ws).2.2 (o ++ (ty_eU T (ty_eO T 7 s op ws).1).2)
      unfold ty_eLc at hz ⊢
      generalize ty_eC T 7 (ty_eU T (ty_eO T 7 s op ws).1).1 (ty_eO T 7 s op ws).2.1 (ty_eO T 7 s op ws).2.2 (o ++ (ty_eU T (ty_eO T 7 s op ws).1).2) = cc at cc0 cm hz ⊢
      -- where nothing is amiss
      have ok : cc.1.1 = 0 → s.2 + 1 ≤ cc.1.2 ∧ ty_wf cc.2.2.1 cc.2.1 ∧ cc.2.1 ≤ 6 ∧ ty_dp cc.2.2.2 0 (ty_bin cc.2.2.1 + 1) := fun zc => by
        obtain ⟨zu, lc⟩ := cm zc
        obtain ⟨za, lu⟩ := um zu
        obtain ⟨-, la⟩ := am za
        obtain ⟨w1, w2, w3⟩ := aw za
        have b14 := (ty_wf_len _ _ w1).2
        have t2 := ty_tp2 (ty_eO T 7 s op ws).2.2
        have dd := ud (ty_bin (ty_eO T 7 s op ws).2.2) zu (by omega)
        rw [← w3] at g
        obtain ⟨c1, c2, c3⟩ := cc0 w1 (ty_dp_app _ _ _ _ _ g dd)
        exact ⟨by omega, c1, by omega, c3⟩
      unfold ty_eLk at hz ⊢
      by_cases k : 27 ≤ ty_nx T cc.1 ∧ ty_nx T cc.1 ≤ 30
      · rw [if_pos k] at hz ⊢
        have z1 := (ty_nx_0 (T := T) (s := cc.1) (by omega)).1
        obtain ⟨k1, k2, k3, k4⟩ := ok z1
        refine ty_eL_dp m _ _ _ _ (fun zn => ?_) (ty_wf_push k2 k.1 k.2) k3 ?_ hz
        · obtain ⟨-, -, l5, e⟩ := ty_tkn_0 zn
          omega
        · have dd := ty_dp_app _ _ _ _ _ k4 (ty_dr_dp (ty_nx T cc.1) cc.2.2.1 (ty_wf_all _ _ k2))
          rw [ty_bin, if_neg (by omega), Nat.add_comm 1]
          exact dd
      · rw [if_neg k] at hz ⊢
        have hz' : (if cc.1.1 = 0 ∧ 0 < cc.2.1 then (1, cc.1.2) else cc.1).1 = 0 := hz
        by_cases y : cc.1.1 = 0 ∧ 0 < cc.2.1
        · rw [if_pos y] at hz'
          exact absurd (show 1 = 0 from hz') (by decide)
        · rw [if_neg y] at hz'
          obtain ⟨k1, k2, k3, k4⟩ := ok hz'
          have o0 : cc.2.1 = 0 := by
            by_cases q : 0 < cc.2.1
            · exact absurd ⟨hz', q⟩ y
            · omega
          obtain ⟨a1, -, -, a4, -⟩ := ty_dr_ok 27 _ _ k2
          have dd := ty_dp_app _ _ _ _ _ k4 (ty_dr_dp 27 cc.2.2.1 (ty_wf_all _ _ k2))
          have e0 : ty_bin (ty_dr 27 cc.2.2.1).1 = 0 := by
            rcases a4 (by omega) with ⟨e, -⟩ | ⟨w', e⟩
            · rw [e]; rfl
            · rw [e, o0] at a1
              rcases a1 with ⟨-, a, -⟩ | ⟨a, -, -⟩ | ⟨a, -, -⟩
              · omega
              · omega
              · omega
          rw [e0] at dd
          exact dd
    · rw [ty_eL_f z] at hz; exact absurd hz z
theorem ty_E1_dp {T : List tw_Tk} {s : ty_Ps} (h : (ty_E1 T s).1.1 = 0) : ty_dp (ty_E1 T s).2 0 1 := ty_eL_dp 501 s 0 [] [] (fun _ => ⟨by omega, fun z => absurd z (by decide)⟩) rfl (Nat.zero_le _) rfl h
def ty_dL (l : ty_Li) : Prop := ty_dp l.2.2.1 0 1 ∧ ty_dp l.2.2.2 0 1
def ty_dW (w : ty_Wi) : Prop := (w.1 = 4 → w.2.2.2 = []) ∧ (w.1 ≠ 4 → ty_dp w.2.2.2 0 1)
def ty_dR (r : ty_Ru) : Prop := (∀ l ∈ r.1, ty_dL l.2) ∧ ∀ w ∈ r.2, ty_dW w
def ty_dK (K : ty_Ki) : Prop := ∀ r ∈ K.2.2, ty_dR r
theorem ty_L1_d {T : List tw_Tk} {s : ty_Ps} (h : (ty_L1 T s).1.1 = 0) : ty_dL (ty_L1 T s).2 := ⟨ty_E1_dp (ty_L1_0 h).2, ty_E1_dp h⟩
theorem ty_lo_d {T : List tw_Tk} : ∀ (j : Nat) (s : ty_Ps) (ls : List ty_Lf), (ty_lo T j s ls).1.1 = 0 → s.1 = 0 ∧ ((∀ l ∈ ls, ty_dL l.2) → ∀ l ∈ (ty_lo T j s ls).2, ty_dL l.2)
  | 0, s, ls, z => ⟨z, fun h => h⟩
  | j + 1, s, ls, z => by
    unfold ty_lo at z ⊢
    by_cases c : ty_nx T s = 15 ∨ ty_nx T s = 14
    · rw [if_pos c] at z ⊢
      obtain ⟨z1, g⟩ := ty_lo_d j _ _ z
      refine ⟨(ty_nx_0 (T := T) (s := s) (by omega)).1, fun h => g (fun l hl => ?_)⟩
      rcases List.mem_append.mp hl with hl | hl
      · exact h l hl
      · rw [List.mem_singleton.mp hl]; exact ty_L1_d z1
    · rw [if_neg c] at z ⊢
      exact ⟨z, fun h => h⟩
theorem ty_W1_d {T : List tw_Tk} {s : ty_Ps} (h : (ty_W1 T s).1.1 = 0) (hk : ty_nx T s = 7 ∨ ty_nx T s = 8 ∨ ty_nx T s = 9 ∨ ty_nx T s = 13) : ty_dW (ty_W1 T s).2 := by
  obtain ⟨sz, bz, az⟩ := ty_W1_0 h
  unfold ty_W1
  by_cases c : ty_nx T s = 9
  · rw [if_pos c]
    have e : (ty_Wb T s).2 = (ty_E1 T (ty_Wa T s).1).2 ∧ (ty_E1 T (ty_Wa T s).1).1.1 = 0 := by
      unfold ty_Wb at bz ⊢
      rw [if_neg (by omega)] at bz ⊢
      exact ⟨rfl, bz⟩
    refine ⟨fun y => ?_, fun _ => ?_⟩
    · have y : ty_pk T (ty_tkn T 10 (ty_Wb T s).1) - 9 = 4 := y
      unfold ty_pk at y
      by_cases q : ty_nx T (ty_tkn T 10 (ty_Wb T s).1) = 12
      · rw [if_pos q] at y; omega
      · rw [if_neg q] at y; omega
    · show ty_dp (ty_Wb T s).2 0 1
      rw [e.1]
      exact ty_E1_dp e.2
  · rw [if_neg c]
    refine ⟨fun y => ?_, fun y => ?_⟩
    · have y : (if ty_nx T s = 7 then 0 else if ty_nx T s = 8 then 1 else 4) = 4 := y
      have n7 : ¬ ty_nx T s = 7 := fun q => by rw [if_pos q] at y; omega
      have n8 : ¬ ty_nx T s = 8 := fun q => by rw [if_neg n7, if_pos q] at y; omega
      show (ty_Wb T s).2 = []
      unfold ty_Wb
      rw [if_pos (by omega)]
    · have y : (if ty_nx T s = 7 then 0 else if ty_nx T s = 8 then 1 else 4) ≠ 4 := y
      have n13 : ¬ ty_nx T s = 13 := fun q => y (by rw [if_neg (by omega), if_neg (by omega)])
      show ty_dp (ty_Wb T s).2 0 1
      unfold ty_Wb at bz ⊢
      rw [if_neg n13] at bz ⊢
      exact ty_E1_dp bz
theorem ty_wo_d {T : List tw_Tk} : ∀ (j : Nat) (s : ty_Ps) (ws : List ty_Wi), (ty_wo T j s ws).1.1 = 0 → s.1 = 0 ∧ ((∀ w ∈ ws, ty_dW w) → (∀ w ∈ (ty_wo T j s ws).2, ty_dW w))
  | 0, s, ws, z => ⟨z, fun h => h⟩
  | j + 1, s, ws, z => by
    unfold ty_wo at z ⊢
    by_cases c : ty_nx T s = 7 ∨ ty_nx T s = 8 ∨ ty_nx T s = 9 ∨ ty_nx T s = 13
    · rw [if_pos c] at z ⊢
      obtain ⟨z1, g⟩ := ty_wo_d j _ _ z
      have z0 := (ty_nx_0 (T := T) (s := s) (by omega)).1
      obtain ⟨-, -, er⟩ := ty_room_0 (ty_W1_0 z1).1
      refine ⟨z0, fun h => g (fun w hw => ?_)⟩
      rcases List.mem_append.mp hw with hw | hw
      · exact h w hw
      · rw [List.mem_singleton.mp hw]
        exact ty_W1_d z1 (by rw [er]; exact c)
    · rw [if_neg c] at z ⊢
      exact ⟨z, fun h => h⟩
theorem ty_R1_d {T : List tw_Tk} {cnt : Nat} {s : ty_Ps} (h : (ty_R1 T cnt s).1.1 = 0) : s.1 = 0 ∧ ty_dR (ty_R1 T cnt s).2 := by
  have y1 : (ty_wo T 7 (ty_Ra T (ty_tkn T 5 (ty_room cnt 8 s))).1 []).1.1 = 0 := (ty_tkn_0 (T := T) (k := 2) h).1
  obtain ⟨y2, y3⟩ := ty_wo_d 7 _ _ y1
  have a : (ty_tkn T 5 (ty_room cnt 8 s)).1 = 0 ∧ (∀ l ∈ (ty_Ra T (ty_tkn T 5 (ty_room cnt 8 s))).2, ty_dL l.2) := by
    unfold ty_Ra at y2 ⊢
    by_cases c6 : ty_nx T (ty_tkn T 5 (ty_room cnt 8 s)) = 6
    · rw [if_pos c6] at y2 ⊢
      obtain ⟨l1, l2⟩ := ty_lo_d 501 _ _ y2
      exact ⟨(ty_nx_0 (T := T) (s := ty_tkn T 5 (ty_room cnt 8 s)) (by omega)).1, l2 (fun l hl => by rw [List.mem_singleton.mp hl]; exact ty_L1_d l1)⟩
    · rw [if_neg c6] at y2 ⊢
      exact ⟨y2, fun l hl => (by cases hl)⟩
  exact ⟨(ty_room_0 (ty_tkn_0 a.1).1).1, a.2, y3 (fun w hw => by cases hw)⟩
theorem ty_rs_d {T : List tw_Tk} : ∀ (j : Nat) (s : ty_Ps) (l : List ty_Ru), (ty_rs T j s l).1.1 = 0 → s.1 = 0 ∧ ((∀ x ∈ l, ty_dR x) → ∀ x ∈ (ty_rs T j s l).2, ty_dR x)
  | 0, s, l, z => ⟨z, fun h => h⟩
  | j + 1, s, l, z => by
    unfold ty_rs at z ⊢
    by_cases c : ty_nx T s = 5
    · rw [if_pos c] at z ⊢
      obtain ⟨z1, g⟩ := ty_rs_d j _ _ z
      obtain ⟨a1, a2⟩ := ty_R1_d z1
      refine ⟨a1, fun h => g (fun x hx => ?_)⟩
      rcases List.mem_append.mp hx with hx | hx
      · exact h x hx
      · rw [List.mem_singleton.mp hx]; exact a2
    · rw [if_neg c] at z ⊢
      exact ⟨z, fun h => h⟩
theorem ty_K1_d {T : List tw_Tk} {cnt : Nat} {s : ty_Ps} (h : (ty_K1 T cnt s).1.1 = 0) : ty_dK (ty_K1 T cnt s).2 := by
  have h1 : (ty_rs T 9 (ty_hs T 7 (ty_tkn T 23 (ty_Ko T cnt s)) []).1 []).1.1 = 0 := (ty_tkn_0 (T := T) (k := 2) h).1
  exact (ty_rs_d 9 _ _ h1).2 (fun x hx => by cases hx)
theorem ty_ks_d {T : List tw_Tk} (hT : ∀ (i : Nat) (x : tw_Tk), T[i]? = some x → tw_tkok x) : ∀ (j : Nat) (s : ty_Ps) (l : List ty_Ki), (ty_ks T j s l).1.1 = 0 → ((∀ x ∈ l, ty_dK x) → ∀ x ∈ (ty_ks T j s l).2, ty_dK x)
  | 0, s, l, z => fun h => h
  | j + 1, s, l, z => by
    unfold ty_ks at z ⊢
    by_cases c : ty_nx T s = 1
    · rw [if_pos c] at z ⊢
      have z1 := (ty_ks_v hT j _ _ z).1
      refine fun h => ty_ks_d hT j _ _ z (fun x hx => ?_)
      rcases List.mem_append.mp hx with hx | hx
      · exact h x hx
      · rw [List.mem_singleton.mp hx]; exact ty_K1_d z1
    · rw [if_neg c] at z ⊢
      exact fun h => h
/-- in a good text -/
theorem ty_P_d {T : List tw_Tk} (hT : ∀ (i : Nat) (x : tw_Tk), T[i]? = some x → tw_tkok x) (h : (ty_P T).1.1 = 0) : ∀ K ∈ (ty_P T).2.2, ty_dK K := by
  have h1 : (ty_ks T 6 (ty_ss T 7 (0, 0) []).1 []).1.1 = 0 := by
    have h' : (ty_end T (ty_ks T 6 (ty_ss T 7 (0, 0) []).1 []).1).1 = 0 := h
    unfold ty_end at h'
    by_cases c : (ty_ks T 6 (ty_ss T 7 (0, 0) []).1 []).1.1 = 0 ∧ ty_nx T (ty_ks T 6 (ty_ss T 7 (0, 0) []).1 []).1 ≠ 37
    · exact c.1
    · rw [if_neg c] at h'; exact h'
  exact ty_ks_d hT 6 _ _ h1 (fun x hx => by cases hx)
