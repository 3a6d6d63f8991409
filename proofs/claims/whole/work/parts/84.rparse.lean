/-! THE CLASS'S READER: parse, whole -/
def ty_Rso (r : ty_Ru) : Prop := (∀ l ∈ r.1, ty_Lso l.2) ∧ ∀ w ∈ r.2, ty_Wso w
theorem ty_lo_so (T : List tw_Tk) : ∀ (j : Nat) (s : ty_Ps) (ls : List ty_Lf), (∀ l ∈ ls, ty_Lso l.2) → ∀ l ∈ (ty_lo T j s ls).2, ty_Lso l.2
  | 0, _, _, h => h
  | j + 1, s, ls, h => by
    unfold ty_lo
    by_cases c : ty_nx T s = 15 ∨ ty_nx T s = 14
    · rw [if_pos c]
      refine ty_lo_so T j _ _ (fun l hl => ?_)
      rcases List.mem_append.mp hl with hl | hl
      · exact h l hl
      · rw [List.mem_singleton.mp hl]; exact ty_L1_so T _
    · rw [if_neg c]; exact h
theorem ty_wo_so (T : List tw_Tk) : ∀ (j : Nat) (s : ty_Ps) (ws : List ty_Wi), (∀ w ∈ ws, ty_Wso w) → ∀ w ∈ (ty_wo T j s ws).2, ty_Wso w
  | 0, _, _, h => h
  | j + 1, s, ws, h => by
    unfold ty_wo
    by_cases c : ty_nx T s = 7 ∨ ty_nx T s = 8 ∨ ty_nx T s = 9 ∨ ty_nx T s = 13
    · rw [if_pos c]
      refine ty_wo_so T j _ _ (fun w hw => ?_)
      rcases List.mem_append.mp hw with hw | hw
      · exact h w hw
      · rw [List.mem_singleton.mp hw]; exact ty_W1_so T _
    · rw [if_neg c]; exact h
theorem ty_R1_so (T : List tw_Tk) (cnt : Nat) (s : ty_Ps) : ty_Rso (ty_R1 T cnt s).2 := by
  refine ⟨?_, ty_wo_so T 7 _ [] (fun w hw => by cases hw)⟩
  show ∀ l ∈ (ty_Ra T (ty_tkn T 5 (ty_room cnt 8 s))).2, ty_Lso l.2
  unfold ty_Ra
  by_cases c : ty_nx T (ty_tkn T 5 (ty_room cnt 8 s)) = 6
  · rw [if_pos c]
    exact ty_lo_so T 501 _ _ (fun l hl => by rw [List.mem_singleton.mp hl]; exact ty_L1_so T _)
  · rw [if_neg c]; exact fun l hl => by cases hl
theorem tz_ok_rc {p : Nat} {r : ty_Ru} (h : ty_Rso r) : tz_ok (tz_rc p r) := tz_ok_app (tz_ok_lco _ _ h.1) (fun x hx => by have := (tz_wcs_ok _ h.2 x hx).1; omega)
theorem tz_ok_rcs : ∀ (rs : List ty_Ru) (p : Nat), (∀ r ∈ rs, ty_Rso r) → tz_ok (tz_rcs p rs)
  | [], _, _ => fun x hx => by cases hx
  | r :: rs, p, h => tz_ok_app (tz_ok_rc (h r List.mem_cons_self)) (tz_ok_rcs rs _ (fun x hx => h x (List.mem_cons_of_mem _ hx)))
def ty_Kso (Ks : List ty_Ki) : Prop := ∀ K ∈ Ks, ∀ r ∈ K.2.2, ty_Rso r
theorem tz_ok_kcs : ∀ (Ks : List ty_Ki) (p : Nat), ty_Kso Ks → tz_ok (tz_kcs p Ks)
  | [], _, _ => fun x hx => by cases hx
  | K :: Ks, p, h => tz_ok_app (tz_ok_rcs _ _ (h K List.mem_cons_self)) (tz_ok_kcs Ks _ (fun x hx => h x (List.mem_cons_of_mem _ hx)))
section TZB
variable {v : Nat} {T : List tw_Tk} {n : Nat}
theorem tz_vars {S : List ty_Se} {Ks : List ty_Ki} {nm : Nat} {σ0 : rx_St} {v2 : Int32} {k54 : Int32 → rx_St → Option (Int32 × rx_St)} (hv : v ≤ 1) (Q : Int32 × rx_St → Prop) : ∀ (j m : Nat) (vs : List ty_Va) (s : ty_Ps) (σ : rx_St), j ≤ 7 → j < m → tz_in v T n s S Ks nm vs [] σ → tw_fr (tz_SP v) σ0 σ →
    (∀ σ', tw_fr (tz_SP v) σ0 σ' → tz_in v T n (ty_hs T j s vs).1 S Ks nm (ty_hs T j s vs).2 [] σ' → tw_ok (f_rea_parse_105 v k54 v2 σ') Q) →
    tw_ok (f_rea_parse_73 v k54 m v2 (nI (7 - j)) σ) Q := by
  intro j
  induction j with
  | zero =>
    intro m vs s σ hj hm h f hQ
    obtain ⟨m, rfl⟩ : ∃ m', m = m' + 1 := ⟨m - 1, by omega⟩
    unfold f_rea_parse_73
    rw [if_pos (show (6 : Int32) < nI (7 - 0) by decide)]
    exact hQ σ f h
  | succ j ih =>
    intro m vs s σ hj hm h f hQ
    obtain ⟨m, rfl⟩ : ∃ m', m = m' + 1 := ⟨m - 1, by omega⟩
    have hn := tz_next h.1.1 h.1.2.1
    have hK := ty_nx_le (fun i x z => (h.1.1.2 i x z).1) s
    unfold f_rea_parse_73
    unfold ty_hs at hQ
    rw [if_neg (show ¬ (6 : Int32) < nI (7 - (j + 1)) by rw [show (6 : Int32) = nI 6 from rfl, tw_lt (by omega) (by omega)]; omega), hn, Option.bind_some, tw_ifE (show (nI (ty_nx T s) = (3 : Int32)) = (ty_nx T s = 3) by rw [show (3 : Int32) = nI 3 from rfl, tw_eq (by omega) (by omega)])]
    have go : ty_nx T s = 3 ∨ ty_nx T s = 4 → tw_ok (f_rea_parse_95 v k54 (f_rea_parse_73 v k54 m) v2 (nI (7 - (j + 1))) σ) Q := by
      intro c
      rw [if_pos c] at hQ
      unfold f_rea_parse_95
      refine tw_b (tz_parseHas hv h (ty_nx_0 (T := T) (s := s) (by omega)).1 c) (fun σ1 g => ?_)
      obtain ⟨f1, h1⟩ := g
      rw [show nI (7 - (j + 1)) + (1 : Int32) = nI (7 - (j + 1) + 1) from nI_add _ 1, show 7 - (j + 1) + 1 = 7 - j by omega]
      exact ih m _ _ σ1 (by omega) (by omega) h1 (f.tr f1) hQ
    by_cases c3 : ty_nx T s = 3
    · rw [if_pos c3]
      exact go (Or.inl c3)
    · rw [if_neg c3, Option.bind_some, tw_ifE (show (nI (ty_nx T s) = (4 : Int32)) = (ty_nx T s = 4) by rw [show (4 : Int32) = nI 4 from rfl, tw_eq (by omega) (by omega)])]
      by_cases c4 : ty_nx T s = 4
      · rw [if_pos c4]
        exact go (Or.inr c4)
      · rw [if_neg c4]
        rw [if_neg (fun z => z.elim c3 c4)] at hQ
        exact hQ σ f h
theorem tz_rules {S : List ty_Se} {Ks : List ty_Ki} {nm : Nat} {vs : List ty_Va} {σ0 : rx_St} {v2 : Int32} {k54 : Int32 → rx_St → Option (Int32 × rx_St)} (hv : v ≤ 1) (hKs : ty_Kso Ks) (Q : Int32 × rx_St → Prop) : ∀ (j m : Nat) (rs : List ty_Ru) (s : ty_Ps) (σ : rx_St), j ≤ 9 → j < m → (∀ r ∈ rs, ty_Rso r) → tz_in v T n s S Ks nm vs rs σ → tw_fr (tz_SP v) σ0 σ →
    (∀ σ', tw_fr (tz_SP v) σ0 σ' → (∀ r ∈ (ty_rs T j s rs).2, ty_Rso r) → tz_in v T n (ty_rs T j s rs).1 S Ks nm vs (ty_rs T j s rs).2 σ' → tw_ok (f_rea_parse_131 v k54 v2 σ') Q) →
    tw_ok (f_rea_parse_107 v k54 m v2 (nI (9 - j)) σ) Q := by
  intro j
  induction j with
  | zero =>
    intro m rs s σ hj hm hrs h f hQ
    obtain ⟨m, rfl⟩ : ∃ m', m = m' + 1 := ⟨m - 1, by omega⟩
    unfold f_rea_parse_107
    rw [if_pos (show (8 : Int32) < nI (9 - 0) by decide)]
    exact hQ σ f hrs h
  | succ j ih =>
    intro m rs s σ hj hm hrs h f hQ
    obtain ⟨m, rfl⟩ : ∃ m', m = m' + 1 := ⟨m - 1, by omega⟩
    have hn := tz_next h.1.1 h.1.2.1
    have hK := ty_nx_le (fun i x z => (h.1.1.2 i x z).1) s
    unfold f_rea_parse_107
    unfold ty_rs at hQ
    rw [if_neg (show ¬ (8 : Int32) < nI (9 - (j + 1)) by rw [show (8 : Int32) = nI 8 from rfl, tw_lt (by omega) (by omega)]; omega), hn, Option.bind_some, tw_ifE (show (nI (ty_nx T s) = (5 : Int32)) = (ty_nx T s = 5) by rw [show (5 : Int32) = nI 5 from rfl, tw_eq (by omega) (by omega)])]
    by_cases c : ty_nx T s = 5
    · rw [if_pos c]
      rw [if_pos c] at hQ
      have z := (ty_nx_0 (T := T) (s := s) (by omega)).1
      obtain ⟨⟨a1, a2⟩, -, -, -, -, -, ⟨b4, b5⟩, -⟩ := h.2.2 z
      have h0 : tz_ok (tz_kcs 0 Ks ++ tz_rcs (tz_kcs 0 Ks).length rs) := tz_ok_app (tz_ok_kcs _ _ hKs) (tz_ok_rcs _ _ hrs)
      refine tw_b (tz_parseRule hv h0 h.1 a1 a2 b4 (by omega)) (fun σ1 g => ?_)
      obtain ⟨f1, h1, g1, g2⟩ := g
      have h1' : tz_pp v T n (ty_R1 T rs.length s).1 0 (tz_kcs 0 Ks ++ tz_rcs (tz_kcs 0 Ks).length (rs ++ [(ty_R1 T rs.length s).2])) σ1 := by
        rw [tz_rcs_app, ← List.append_assoc]
        have e : tz_rcs ((tz_kcs 0 Ks).length + (tz_rcs (tz_kcs 0 Ks).length rs).length) [(ty_R1 T rs.length s).2] = tz_rc (tz_kcs 0 Ks ++ tz_rcs (tz_kcs 0 Ks).length rs).length (ty_R1 T rs.length s).2 := by
          rw [List.length_append]
          show _ ++ [] = _
          rw [List.append_nil]
        rw [e]
        exact h1.le (Nat.zero_le _)
      have rb : (ty_R1 T rs.length s).1.1 = 0 → rs.length < 8 := fun y => by
        have wo0 : ∀ (j : Nat) (s : ty_Ps) (ws : List ty_Wi), (ty_wo T j s ws).1.1 = 0 → s.1 = 0 := by
          intro j
          induction j with
          | zero => intro s ws z; exact z
          | succ j ih =>
            intro s ws z
            unfold ty_wo at z
            by_cases c : ty_nx T s = 7 ∨ ty_nx T s = 8 ∨ ty_nx T s = 9 ∨ ty_nx T s = 13
            · exact (ty_nx_0 (T := T) (s := s) (by omega)).1
            · rw [if_neg c] at z; exact z
        have y1 : (ty_wo T 7 (ty_Ra T (ty_tkn T 5 (ty_room rs.length 8 s))).1 []).1.1 = 0 := (ty_tkn_0 (T := T) (k := 2) y).1
        have y2 := wo0 _ _ _ y1
        have y3 : (ty_tkn T 5 (ty_room rs.length 8 s)).1 = 0 := by
          unfold ty_Ra at y2
          by_cases c6 : ty_nx T (ty_tkn T 5 (ty_room rs.length 8 s)) = 6
          · exact (ty_nx_0 (T := T) (s := ty_tkn T 5 (ty_room rs.length 8 s)) (by omega)).1
          · rw [if_neg c6] at y2; exact y2
        exact (ty_room_0 (ty_tkn_0 y3).1).2.1
      have h2 := h.ru (rs' := rs ++ [(ty_R1 T rs.length s).2]) hv z f1 h1' (fun y => ⟨by rw [g1 y, List.length_append]; rfl, by rw [List.length_append]; have := rb y; show rs.length + 1 ≤ 8; omega⟩)
      rw [show nI (9 - (j + 1)) + (1 : Int32) = nI (9 - (j + 1) + 1) from nI_add _ 1, show 9 - (j + 1) + 1 = 9 - j by omega]
      refine ih m _ _ σ1 (by omega) (by omega) (fun r hr => ?_) h2 (f.tr (f1.mn (fun q j h => h.elim Or.inl (fun h => Or.inr (Or.inr ⟨by omega, by omega⟩))))) hQ
      rcases List.mem_append.mp hr with hr | hr
      · exact hrs r hr
      · rw [List.mem_singleton.mp hr]; exact ty_R1_so T _ _
    · rw [if_neg c]
      rw [if_neg c] at hQ
      exact hQ σ f hrs h
/-- a KIND ends -/
theorem tz_kend {S : List ty_Se} {Ks : List ty_Ki} {nm : Nat} {vs : List ty_Va} {rs : List ty_Ru} {s : ty_Ps} {σ0 σ : rx_St} {v2 : Int32} {k54 : Int32 → rx_St → Option (Int32 × rx_St)} (hv : v ≤ 1) (Q : Int32 × rx_St → Prop) (h : tz_in v T n s S Ks nm vs rs σ) (f : tw_fr (tz_SP v) σ0 σ) (hQ : ∀ σ', tw_fr (tz_SP v) σ0 σ' → tz_ow v T n (ty_tkn T 2 s) S (Ks ++ [(nm, vs, rs)]) σ' → tw_ok (k54 (v2 + (1 : Int32)) σ') Q) : tw_ok (f_rea_parse_131 v k54 v2 σ) Q := by
  unfold f_rea_parse_131
  obtain ⟨h1, ⟨k4, k5, k6⟩, h3⟩ := h
  refine tw_b (h1.tk hv (k := 2) (by omega) (by omega)) (fun y g => ?_)
  obtain ⟨-, f1, h2⟩ := g
  have w4 : y.2.1 35 4 = nI k4 := (f1.i (by unfold tz_S1; omega)).trans k6
  obtain ⟨c, e1, e2, e3⟩ := h2.sz
  rw [w4]
  refine tw_g (vp_in_nI (by omega) (by decide)) ?_
  rw [nI_clamp (by omega), e1]
  have g : ∀ (q j : Nat), q ≠ 17 + 14 * v ∨ j ≠ k4 → ¬ tz_S1 q j → (rx_si y.2 (17 + 14 * v) k4 (nI c)).1 q j = σ.1 q j := fun q j a b => (tw_r1n _ _ (by omega)).trans (f1.i b)
  refine hQ _ ((f.tr (f1.mn (fun q j h => by unfold tz_S1 at h; unfold tz_SP tz_S; omega))).si (by unfold tz_SP; omega)) ⟨?_, ⟨k4, k5, (g _ _ (by omega) (by unfold tz_S1; omega)).trans k6⟩, fun z => ?_⟩
  · have e : tz_kcs 0 (Ks ++ [(nm, vs, rs)]) = tz_kcs 0 Ks ++ tz_rcs (tz_kcs 0 Ks).length rs := by
      rw [tz_kcs_app, Nat.zero_add]
      show _ ++ (_ ++ []) = _
      rw [List.append_nil]
    rw [e]
    exact (h2.le (Nat.zero_le _)).fr (fun q j a => ⟨tw_r1n _ _ (by omega), rfl⟩)
  · have z0 := (ty_tkn_0 z).1
    obtain ⟨⟨a1, a2⟩, a3, a4, a5, a6, a7, a8, a9⟩ := h3 z0
    have kk : k4 = Ks.length := by
      rw [a1, tw_eq (by omega) (by omega)] at k6
      omega
    have ec := e3 z
    rw [List.length_append] at ec
    refine ⟨a3.fr (fun q j a => g q j (by omega) (by unfold tz_S1; omega)), ?_, ?_, ?_⟩
    · rw [List.length_append]
      exact (g _ _ (by omega) (by unfold tz_S1; omega)).trans a4
    · rw [List.length_append]; show Ks.length + 1 ≤ 5; omega
    · rw [tz_Krs_app]
      refine ⟨tz_Krs.fr Ks 0 0 (fun q j a b c => g q j (by omega) (by unfold tz_S1; omega)) a5, ?_, trivial⟩
      rw [Nat.zero_add, Nat.zero_add]
      refine ⟨(g _ _ (by omega) (by unfold tz_S1; omega)).trans a6, a7.fr (fun q j a b c d e => g q j (by omega) (by unfold tz_S1; omega)), (g _ _ (by omega) (by unfold tz_S1; omega)).trans a8.1, a8.2, (g _ _ (by omega) (by unfold tz_S1; omega)).trans a9, ?_⟩
      rw [← kk, tw_r1s, ec]
theorem tz_kinds {S : List ty_Se} {σ0 : rx_St} (hv : v ≤ 1) (Q : Int32 × rx_St → Prop) : ∀ (j m : Nat) (Ks : List ty_Ki) (s : ty_Ps) (σ : rx_St), j ≤ 6 → j < m → ty_Kso Ks → tz_ow v T n s S Ks σ → tw_fr (tz_SP v) σ0 σ →
    (∀ σ', tw_fr (tz_SP v) σ0 σ' → ty_Kso (ty_ks T j s Ks).2 → tz_ow v T n (ty_ks T j s Ks).1 S (ty_ks T j s Ks).2 σ' → tw_ok (f_rea_parse_162 v σ') Q) →
    tw_ok (f_rea_parse_54 v m (nI (6 - j)) σ) Q := by
  intro j
  induction j with
  | zero =>
    intro m Ks s σ hj hm hKs h f hQ
    obtain ⟨m, rfl⟩ : ∃ m', m = m' + 1 := ⟨m - 1, by omega⟩
    unfold f_rea_parse_54
    rw [if_pos (show (5 : Int32) < nI (6 - 0) by decide)]
    exact hQ σ f hKs h
  | succ j ih =>
    intro m Ks s σ hj hm hKs h f hQ
    obtain ⟨m, rfl⟩ : ∃ m', m = m' + 1 := ⟨m - 1, by omega⟩
    have hn := tz_next h.1.1 h.1.2.1
    have hK := ty_nx_le (fun i x z => (h.1.1.2 i x z).1) s
    unfold f_rea_parse_54
    unfold ty_ks at hQ
    rw [if_neg (show ¬ (5 : Int32) < nI (6 - (j + 1)) by rw [show (5 : Int32) = nI 5 from rfl, tw_lt (by omega) (by omega)]; omega), hn, Option.bind_some, tw_ifE (show (nI (ty_nx T s) = (1 : Int32)) = (ty_nx T s = 1) by rw [show (1 : Int32) = nI 1 from rfl, tw_eq (by omega) (by omega)])]
    by_cases c : ty_nx T s = 1
    · rw [if_pos c]
      rw [if_pos c] at hQ
      refine tw_b (tz_openKind hv h (ty_nx_0 (T := T) (s := s) (by omega)).1) (fun σ1 g => ?_)
      obtain ⟨f1, h1⟩ := g
      refine tz_vars (σ0 := σ0) hv Q 7 rx_fu [] _ σ1 (by omega) (by show _ < 100000; omega) h1 (f.tr f1) (fun σ2 f2 h2 => ?_)
      unfold f_rea_parse_105
      refine tz_rules (σ0 := σ0) hv hKs Q 9 rx_fu [] _ σ2 (by omega) (by show _ < 100000; omega) (fun r hr => by cases hr) h2 f2 (fun σ3 f3 hr3 h3 => ?_)
      refine tz_kend hv Q h3 f3 (fun σ4 f4 h4 => ?_)
      rw [show nI (6 - (j + 1)) + (1 : Int32) = nI (6 - (j + 1) + 1) from nI_add _ 1, show 6 - (j + 1) + 1 = 6 - j by omega]
      refine ih m _ _ σ4 (by omega) (by omega) (fun K hK => ?_) h4 f4 hQ
      rcases List.mem_append.mp hK with hK | hK
      · exact hKs K hK
      · rw [List.mem_singleton.mp hK]; exact hr3
    · rw [if_neg c]
      rw [if_neg c] at hQ
      exact hQ σ f hKs h
theorem tz_sets {σ0 : rx_St} (hv : v ≤ 1) (Q : Int32 × rx_St → Prop) : ∀ (j m : Nat) (S : List ty_Se) (s : ty_Ps) (σ : rx_St), j ≤ 7 → j < m → tz_ow v T n s S [] σ → tw_fr (tz_SP v) σ0 σ →
    (∀ σ', tw_fr (tz_SP v) σ0 σ' → tz_ow v T n (ty_ss T j s S).1 (ty_ss T j s S).2 [] σ' → tw_ok (f_rea_parse_52 v σ') Q) →
    tw_ok (f_rea_parse_29 v m (nI (7 - j)) σ) Q := by
  intro j
  induction j with
  | zero =>
    intro m S s σ hj hm h f hQ
    obtain ⟨m, rfl⟩ : ∃ m', m = m' + 1 := ⟨m - 1, by omega⟩
    unfold f_rea_parse_29
    rw [if_pos (show (6 : Int32) < nI (7 - 0) by decide)]
    exact hQ σ f h
  | succ j ih =>
    intro m S s σ hj hm h f hQ
    obtain ⟨m, rfl⟩ : ∃ m', m = m' + 1 := ⟨m - 1, by omega⟩
    have hn := tz_next h.1.1 h.1.2.1
    have hK := ty_nx_le (fun i x z => (h.1.1.2 i x z).1) s
    unfold f_rea_parse_29
    unfold ty_ss at hQ
    rw [if_neg (show ¬ (6 : Int32) < nI (7 - (j + 1)) by rw [show (6 : Int32) = nI 6 from rfl, tw_lt (by omega) (by omega)]; omega), hn, Option.bind_some, tw_ifE (show (nI (ty_nx T s) = (0 : Int32)) = (ty_nx T s = 0) by rw [show (0 : Int32) = nI 0 from rfl, tw_eq (by omega) (by omega)])]
    by_cases c : ty_nx T s = 0
    · rw [if_pos c]
      rw [if_pos c] at hQ
      refine tw_b (tz_setting hv h (ty_nx_0 (T := T) (s := s) (by omega)).1) (fun σ1 g => ?_)
      obtain ⟨f1, h1⟩ := g
      rw [show nI (7 - (j + 1)) + (1 : Int32) = nI (7 - (j + 1) + 1) from nI_add _ 1, show 7 - (j + 1) + 1 = 7 - j by omega]
      exact ih m _ _ σ1 (by omega) (by omega) h1 (f.tr f1) hQ
    · rw [if_neg c]
      rw [if_neg c] at hQ
      exact hQ σ f h
theorem tz_parse {σ : rx_St} (hv : v ≤ 1) (ht : tz_tk T n σ) (hq : ∃ q, q ≤ 21 ∧ σ.1 35 6 = nI q) : tw_ok (f_rea_parse v σ) (fun y => y.1 = nI (ty_P T).1.1 ∧ tw_fr (tz_SP v) σ y.2 ∧ ty_Kso (ty_P T).2.2 ∧ tz_ow v T n (ty_P T).1 (ty_P T).2.1 (ty_P T).2.2 y.2) := by
  obtain ⟨q, q1, q2⟩ := hq
  unfold f_rea_parse f_wor_empty
  rw [Option.bind_some]
  have g : ∀ (a b : Nat), ¬ (a = 7 + 14 * v ∧ (b = 0 ∨ b = 3 ∨ b = 12 ∨ b = 13)) → ¬ (a = 35 ∧ (b = 2 ∨ b = 3 ∨ b = 4)) → (rx_si (rx_si (rx_si (rx_si (rx_si (rx_si (rx_si σ (7 + 14 * v) 0 (nI 0)) (7 + 14 * v) 3 (nI 0)) (7 + 14 * v) 12 (nI 0)) (7 + 14 * v) 13 (nI 0)) 35 2 (nI 0)) 35 3 (nI 0)) 35 4 (nI 0)).1 a b = σ.1 a b := fun a b h1 h2 => by
    rw [tw_r1n _ _ (by omega), tw_r1n _ _ (by omega), tw_r1n _ _ (by omega), tw_r1n _ _ (by omega), tw_r1n _ _ (by omega), tw_r1n _ _ (by omega), tw_r1n _ _ (by omega)]
  have f0 : tw_fr (tz_SP v) σ (rx_si (rx_si (rx_si (rx_si (rx_si (rx_si (rx_si σ (7 + 14 * v) 0 (nI 0)) (7 + 14 * v) 3 (nI 0)) (7 + 14 * v) 12 (nI 0)) (7 + 14 * v) 13 (nI 0)) 35 2 (nI 0)) 35 3 (nI 0)) 35 4 (nI 0)) := ((((((tw_fr.rf.si (by unfold tz_SP; omega)).si (by unfold tz_SP; omega)).si (by unfold tz_SP; omega)).si (by unfold tz_SP; omega)).si (by unfold tz_SP tz_S; omega)).si (by unfold tz_SP tz_S; omega)).si (by unfold tz_SP; omega)
  refine tz_sets (v := v) (T := T) (n := n) (σ0 := σ) hv _ 7 rx_fu [] (0, 0) _ (by omega) (by show _ < 100000; omega) ⟨⟨?_, ⟨?_, ?_, by show 0 ≤ 2; omega, by show 0 ≤ 500; omega, Nat.zero_le _⟩, ⟨0, q, ?_, by omega, ?_, q1⟩, fun _ => ⟨⟨?_, by show 0 ≤ 500; omega, ?_, fun p x hx => by cases hx⟩, by show 0 + 0 ≤ 0; omega⟩⟩, ⟨0, by omega, tw_r1s _ _ _ _⟩, fun _ => ⟨⟨?_, by show 0 ≤ 6; omega, fun i x hx => by cases hx⟩, ?_, by show 0 ≤ 5; omega, trivial⟩⟩ f0 (fun σ1 f1 h1 => ?_)
  · exact ht.fr (fun a b e e' => ⟨g a b (by omega) (by omega), rfl⟩)
  · simp (disch := omega) only [tw_L, tw_gN, tw_cl, tw_le, tw_lt, tw_eq, nI_add, pk_mul, tw_sub, tw_B0, tw_B1, tw_nb0, tw_nb1, tw_r1s, tw_r1n, if_true, if_false, Nat.le_refl, Nat.reduceEqDiff, Nat.reduceLeDiff, Nat.reduceLT, reduceIte]
  · simp (disch := omega) only [tw_L, tw_gN, tw_cl, tw_le, tw_lt, tw_eq, nI_add, pk_mul, tw_sub, tw_B0, tw_B1, tw_nb0, tw_nb1, tw_r1s, tw_r1n, if_true, if_false, Nat.le_refl, Nat.reduceEqDiff, Nat.reduceLeDiff, Nat.reduceLT, reduceIte]
  · simp (disch := omega) only [tw_L, tw_gN, tw_cl, tw_le, tw_lt, tw_eq, nI_add, pk_mul, tw_sub, tw_B0, tw_B1, tw_nb0, tw_nb1, tw_r1s, tw_r1n, if_true, if_false, Nat.le_refl, Nat.reduceEqDiff, Nat.reduceLeDiff, Nat.reduceLT, reduceIte]
  · exact (g 35 6 (by omega) (by omega)).trans q2
  · simp (disch := omega) only [tw_L, tw_gN, tw_cl, tw_le, tw_lt, tw_eq, nI_add, pk_mul, tw_sub, tw_B0, tw_B1, tw_nb0, tw_nb1, tw_r1s, tw_r1n, if_true, if_false, Nat.le_refl, Nat.reduceEqDiff, Nat.reduceLeDiff, Nat.reduceLT, reduceIte]
    rfl
  · simp (disch := omega) only [tw_L, tw_gN, tw_cl, tw_le, tw_lt, tw_eq, nI_add, pk_mul, tw_sub, tw_B0, tw_B1, tw_nb0, tw_nb1, tw_r1s, tw_r1n, if_true, if_false, Nat.le_refl, Nat.reduceEqDiff, Nat.reduceLeDiff, Nat.reduceLT, reduceIte]
    rfl
  · simp (disch := omega) only [tw_L, tw_gN, tw_cl, tw_le, tw_lt, tw_eq, nI_add, pk_mul, tw_sub, tw_B0, tw_B1, tw_nb0, tw_nb1, tw_r1s, tw_r1n, if_true, if_false, Nat.le_refl, Nat.reduceEqDiff, Nat.reduceLeDiff, Nat.reduceLT, reduceIte]
    rfl
  · simp (disch := omega) only [tw_L, tw_gN, tw_cl, tw_le, tw_lt, tw_eq, nI_add, pk_mul, tw_sub, tw_B0, tw_B1, tw_nb0, tw_nb1, tw_r1s, tw_r1n, if_true, if_false, Nat.le_refl, Nat.reduceEqDiff, Nat.reduceLeDiff, Nat.reduceLT, reduceIte]
    rfl
  · unfold f_rea_parse_52
    refine tz_kinds (σ0 := σ) hv _ 6 rx_fu [] _ σ1 (by omega) (by show _ < 100000; omega) (fun K hK => by cases hK) h1 f1 (fun σ2 f2 hk2 h2 => ?_)
    unfold f_rea_parse_162 ty_P
    generalize hs : ty_ss T 7 (0, 0) [] = ss at h1 h2 hk2 ⊢
    generalize hk : ty_ks T 6 ss.1 [] = ks at h2 hk2 ⊢
    have hn := tz_next h2.1.1 h2.1.2.1
    have hK := ty_nx_le (fun i x z => (h2.1.1.2 i x z).1) ks.1
    have s2 := h2.1.2.1.2.2.1
    have e0 := h2.1.2.1.1
    unfold ty_end
    rw [e0, show (0 : Int32) = nI 0 from rfl, tw_ifE (tw_eq (a := ks.1.1) (b := 0) (by omega) (by omega))]
    by_cases z : ks.1.1 = 0
    · rw [if_pos z, hn, Option.bind_some, tw_ifE (show (nI (ty_nx T ks.1) = (37 : Int32)) = (ty_nx T ks.1 = 37) by rw [show (37 : Int32) = nI 37 from rfl, tw_eq (by omega) (by omega)])]
      by_cases c : ty_nx T ks.1 = 37
      · rw [if_pos c, tw_some, if_neg (fun y => y.2 c)]
        exact ⟨rfl, f2, hk2, h2⟩
      · rw [if_neg c, if_pos ⟨z, c⟩, tw_some]
        refine ⟨(show (rx_si σ2 35 3 (1 : Int32)).1 35 3 = nI 1 from tw_r1s _ _ _ _), f2.si (by unfold tz_SP tz_S; omega), hk2, ?_⟩
        obtain ⟨⟨b1, b2, b3, b4⟩, ⟨k4, k5, k6⟩, b6⟩ := h2
        exact ⟨⟨b1.fr (fun a b e e' => ⟨tw_r1n _ _ (by omega), rfl⟩), ⟨tw_r1s _ _ _ _, (tw_r1n _ _ (by omega)).trans b2.2.1, by show 1 ≤ 2; omega, b2.2.2.2⟩, b3.fr (tw_r1n _ _ (by omega)) (tw_r1n _ _ (by omega)), fun y => absurd (show 1 = 0 from y) (by decide)⟩, ⟨k4, k5, (tw_r1n _ _ (by omega)).trans k6⟩, fun y => absurd (show 1 = 0 from y) (by decide)⟩
    · rw [if_neg z, tw_some, if_neg (fun y => z y.1)]
      exact ⟨rfl, f2, hk2, h2⟩
theorem tz_faultPlace {σ : rx_St} {s : ty_Ps} (ht : tz_tk T n σ) (h : tz_rs T s σ) : f_rea_faultPlace σ = some (if s.1 = 0 then (-1 : Int32) else nI (ty_Pl T n s.2)) := by
  obtain ⟨h1, h2, h3, h4, h5⟩ := h
  unfold f_rea_faultPlace
  rw [h1, show (0 : Int32) = nI 0 from rfl, tw_ifE (tw_eq (a := s.1) (b := 0) (by omega) (by omega))]
  by_cases c : s.1 = 0
  · rw [if_pos c, if_pos c]
  · rw [if_neg c, if_neg c, h2]
    unfold f_tap_placeOf
    rw [if_neg (show ¬ nI s.2 < (0 : Int32) by rw [show (0 : Int32) = nI 0 from rfl, tw_lt (by omega) (by omega)]; omega), if_neg (show ¬ (502 : Int32) ≤ nI s.2 by rw [show (502 : Int32) = nI 502 from rfl, tw_le (by omega) (by omega)]; omega), tw_gN (by omega) (by decide), nI_clamp (by omega), Option.bind_some]
    congr 1
    unfold ty_Pl
    cases e : T[s.2]? with
    | none =>
      have : ¬ s.2 < T.length := fun z => by rw [List.getElem?_eq_getElem z] at e; cases e
      have e2 : s.2 = T.length := by omega
      have := (ht.1.2 (by omega)).2
      rw [← e2] at this
      exact this
    | some x => exact (ht.1.1 s.2 x h4 e).2.1
end TZB
