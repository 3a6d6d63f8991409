/-! THE CLASS'S READER: parseRule -/
def ty_lo (T : List tw_Tk) : Nat → ty_Ps → List ty_Lf → ty_Ps × List ty_Lf
  | 0, s, ls => (s, ls)
  | j + 1, s, ls => if ty_nx T s = 15 ∨ ty_nx T s = 14 then ty_lo T j (ty_L1 T (ty_tkn T (ty_nx T s) s)).1 (ls ++ [(decide (ty_nx T s = 14), (ty_L1 T (ty_tkn T (ty_nx T s) s)).2)]) else (s, ls)
def ty_wo (T : List tw_Tk) : Nat → ty_Ps → List ty_Wi → ty_Ps × List ty_Wi
  | 0, s, ws => (s, ws)
  | j + 1, s, ws => if ty_nx T s = 7 ∨ ty_nx T s = 8 ∨ ty_nx T s = 9 ∨ ty_nx T s = 13 then ty_wo T j (ty_W1 T (ty_room (6 - j) 6 s)).1 (ws ++ [(ty_W1 T (ty_room (6 - j) 6 s)).2]) else (s, ws)
abbrev ty_Ru : Type := List ty_Lf × List ty_Wi
def ty_Ra (T : List tw_Tk) (s : ty_Ps) : ty_Ps × List ty_Lf := if ty_nx T s = 6 then ty_lo T 501 (ty_L1 T (ty_tkn T 6 s)).1 [(false, (ty_L1 T (ty_tkn T 6 s)).2)] else (s, [])
def ty_Rb (T : List tw_Tk) (s : ty_Ps) : ty_Ps × ty_Ru := (ty_tkn T 2 (ty_wo T 7 (ty_Ra T s).1 []).1, ((ty_Ra T s).2, (ty_wo T 7 (ty_Ra T s).1 []).2))
def ty_R1 (T : List tw_Tk) (cnt : Nat) (s : ty_Ps) : ty_Ps × ty_Ru := ty_Rb T (ty_tkn T 5 (ty_room cnt 8 s))
def tz_wcs : List ty_Wi → List tz_Cd
  | [] => []
  | w :: ws => tz_wc w ++ tz_wcs ws
theorem tz_wcs_app : ∀ (a b : List ty_Wi), tz_wcs (a ++ b) = tz_wcs a ++ tz_wcs b
  | [], b => rfl
  | w :: ws, b => by rw [List.cons_append, tz_wcs, tz_wcs, tz_wcs_app ws b, List.append_assoc]
/-- the code of a RULE from p on -/
def tz_rc (p : Nat) (r : ty_Ru) : List tz_Cd := tz_lco (p + ty_sz r.1) (p + ty_sz r.1 + (tz_wcs r.2).length) p r.1 ++ tz_wcs r.2
def ty_Wso (w : ty_Wi) : Prop := w.1 ≤ 4 ∧ ty_so w.2.2.2
theorem ty_W1_so (T : List tw_Tk) (s : ty_Ps) : ty_Wso (ty_W1 T s).2 := by
  have eb : ty_so (ty_Wb T s).2 := by
    unfold ty_Wb
    by_cases c : ty_nx T s = 13
    · rw [if_pos c]; exact fun x hx => (by cases hx)
    · rw [if_neg c]; exact ty_E1_so T _
  unfold ty_W1
  by_cases c : ty_nx T s = 9
  · rw [if_pos c]
    refine ⟨?_, eb⟩
    show ty_pk T _ - 9 ≤ 4
    unfold ty_pk
    split <;> omega
  · rw [if_neg c]
    refine ⟨?_, eb⟩
    show (if ty_nx T s = 7 then 0 else if ty_nx T s = 8 then 1 else 4) ≤ 4
    split
    · omega
    · split <;> omega
theorem tz_wc_ok {w : ty_Wi} (h : ty_Wso w) : (∀ x ∈ tz_wc w, x.1 < 31 ∧ x.1 ≠ 14) := by
  intro x hx
  unfold tz_wc at hx
  rcases List.mem_append.mp hx with hx | hx
  · have := tz_map_w h.2 x hx; omega
  · rw [List.mem_singleton.mp hx]
    have := h.1
    show tc_wop w.1 < 31 ∧ tc_wop w.1 ≠ 14
    have : w.1 = 0 ∨ w.1 = 1 ∨ w.1 = 2 ∨ w.1 = 3 ∨ w.1 = 4 := by omega
    rcases this with q | q | q | q | q <;> rw [q] <;> decide
theorem tz_wcs_ok : ∀ (ws : List ty_Wi), (∀ w ∈ ws, ty_Wso w) → ∀ x ∈ tz_wcs ws, x.1 < 31 ∧ x.1 ≠ 14
  | [], _, x, hx => by cases hx
  | w :: ws, h, x, hx => by
    rw [tz_wcs] at hx
    rcases List.mem_append.mp hx with hx | hx
    · exact tz_wc_ok (h w List.mem_cons_self) x hx
    · exact tz_wcs_ok ws (fun y hy => h y (List.mem_cons_of_mem _ hy)) x hx
section TZ8
variable {v : Nat} {T : List tw_Tk} {n : Nat}
/-- how much code there is -/
theorem tz_pp.sz {s : ty_Ps} {d : Nat} {C : List tz_Cd} {σ : rx_St} (h : tz_pp v T n s d C σ) : ∃ c, σ.1 (7 + 14 * v) 12 = nI c ∧ c ≤ 500 ∧ (s.1 = 0 → c = C.length) := by
  obtain ⟨h1, h2, ⟨c, q, r1, r2, r3, r4⟩, h4⟩ := h
  refine ⟨c, r1, r2, fun z => ?_⟩
  obtain ⟨⟨c1, c2, -⟩, -⟩ := h4 z
  rw [r1, tw_eq (by omega) (by omega)] at c1
  exact c1
theorem tz_aimT {a b tg d : Nat} {s : ty_Ps} {C : List tz_Cd} {σ : rx_St} (h : tz_pp v T n s d C σ) (hx : tz_ok C) (ha : a < 100000) (hb : b < 100000) : tw_ok (f_wor_aimTests v (nI a) (nI b) (nI tg) σ) (fun σ' => tw_fr (tz_S v) σ σ' ∧ tz_pp v T n s d (tz_pat 31 34 a b tg 0 C) σ') := by
  unfold f_wor_aimTests
  refine tw_b (h.aim (lo := 31) (hi := 34) (a := a) (b := b) (tg := tg) hx (by omega) (by omega) ha hb) (fun σ' g => ?_)
  rw [tw_some]
  exact ⟨g.1.mn (fun q j h => by unfold tz_S; omega), g.2⟩
theorem tz_aimO {a b tg d : Nat} {s : ty_Ps} {C : List tz_Cd} {σ : rx_St} (h : tz_pp v T n s d C σ) (hx : tz_ok C) (ha : a < 100000) (hb : b < 100000) : tw_ok (f_wor_aimOrs v (nI a) (nI b) (nI tg) σ) (fun σ' => tw_fr (tz_S v) σ σ' ∧ tz_pp v T n s d (tz_pat 14 14 a b tg 0 C) σ') := by
  unfold f_wor_aimOrs
  refine tw_b (h.aim (lo := 14) (hi := 14) (a := a) (b := b) (tg := tg) hx (by omega) (by omega) ha hb) (fun σ' g => ?_)
  rw [tw_some]
  exact ⟨g.1.mn (fun q j h => by unfold tz_S; omega), g.2⟩
theorem tz_pp.code {s : ty_Ps} {d : Nat} {C C' : List tz_Cd} {σ : rx_St} (h : tz_pp v T n s d C σ) (e : s.1 = 0 → C' = C) : tz_pp v T n s d C' σ := ⟨h.1, h.2.1, h.2.2.1, fun z => by rw [e z]; exact h.2.2.2 z⟩
theorem tz_lits {d : Nat} {C0 : List tz_Cd} {σ0 : rx_St} (hv : v ≤ 1) (h0 : tz_ok C0) (Q : rx_St → Prop) : ∀ (j m i a bb : Nat) (ls : List ty_Lf) (s : ty_Ps) (σ : rx_St), j + i = 501 → j < m → i ≤ ls.length → (∀ l ∈ ls, ty_Lso l.2) → a ≤ 500 → bb ≤ 500 → (s.1 = 0 → a = C0.length ∧ bb = tz_la C0.length C0.length ls) → tz_pp v T n s (d + 1) (C0 ++ tz_lco 0 0 C0.length ls) σ → tw_fr (tz_S v) σ0 σ →
    (∀ a' b' σ', tw_fr (tz_S v) σ0 σ' → a' ≤ 500 → b' ≤ 500 → ((ty_lo T j s ls).1.1 = 0 → a' = C0.length ∧ b' = tz_la C0.length C0.length (ty_lo T j s ls).2) → (∀ l ∈ (ty_lo T j s ls).2, ty_Lso l.2) → tz_pp v T n (ty_lo T j s ls).1 (d + 1) (C0 ++ tz_lco 0 0 C0.length (ty_lo T j s ls).2) σ' → tw_ok (f_rea_parseRule_152 v (nI a') (nI b') σ') Q) →
    tw_ok (f_rea_parseRule_56 v m (nI a) (nI bb) (nI i) σ) Q := by
  intro j
  induction j with
  | zero =>
    intro m i a bb ls s σ hi hm hil hs ha hb hab h f hQ
    obtain ⟨m, rfl⟩ : ∃ m', m = m' + 1 := ⟨m - 1, by omega⟩
    unfold f_rea_parseRule_56
    rw [if_pos (show (500 : Int32) ≤ nI i by rw [show (500 : Int32) = nI 500 from rfl, tw_le (by omega) (by omega)]; omega)]
    exact hQ a bb σ f ha hb hab hs h
  | succ j ih =>
    intro m i a bb ls s σ hi hm hil hs ha hb hab h f hQ
    obtain ⟨m, rfl⟩ : ∃ m', m = m' + 1 := ⟨m - 1, by omega⟩
    have hn := tz_next h.1 h.2.1
    have hK := ty_nx_le (fun i x z => (h.1.2 i x z).1) s
    have s5 := h.2.1.2.2.2.1
    unfold f_rea_parseRule_56
    unfold ty_lo at hQ
    by_cases c5 : 500 ≤ i
    · rw [if_pos (show (500 : Int32) ≤ nI i by rw [show (500 : Int32) = nI 500 from rfl, tw_le (by omega) (by omega)]; exact c5)]
      have z : ¬ s.1 = 0 := fun z => by
        have g := (h.2.2.2 z).2
        rw [List.length_append, tz_lco_len] at g
        have := ty_sz_ge ls
        omega
      rw [if_neg (by rw [ty_nx_f z]; decide)] at hQ
      exact hQ a bb σ f ha hb hab hs h
    · rw [if_neg (show ¬ (500 : Int32) ≤ nI i by rw [show (500 : Int32) = nI 500 from rfl, tw_le (by omega) (by omega)]; exact c5), hn, Option.bind_some, tw_ifE (show (nI (ty_nx T s) = (15 : Int32)) = (ty_nx T s = 15) by rw [show (15 : Int32) = nI 15 from rfl, tw_eq (by omega) (by omega)])]
      -- one more LIT
      have go : ty_nx T s = 15 ∨ ty_nx T s = 14 → tw_ok (f_rea_parseRule_81 v (f_rea_parseRule_56 v m) (nI a) (nI bb) (nI i) σ) Q := by
        intro c
        rw [if_pos c] at hQ
        have gz := ty_nx_0 (T := T) (s := s) (by omega)
        obtain ⟨ga, gb⟩ := hab gz.1
        have hL := ty_L1_so T (ty_tkn T (ty_nx T s) s)
        have hs2 : ∀ l ∈ ls ++ [(decide (ty_nx T s = 14), (ty_L1 T (ty_tkn T (ty_nx T s) s)).2)], ty_Lso l.2 := fun l hl => by
          rcases List.mem_append.mp hl with hl | hl
          · exact hs l hl
          · rw [List.mem_singleton.mp hl]; exact hL
        unfold f_rea_parseRule_81
        rw [hn, Option.bind_some]
        refine tw_b (h.tk hv (k := ty_nx T s) (by omega) (by omega)) (fun y g => ?_)
        obtain ⟨-, f1, h1⟩ := g
        have last : ∀ (bb' : Nat) (C' : List tz_Cd) (τ : rx_St), bb' ≤ 500 → tw_fr (tz_S v) σ0 τ → tz_pp v T n (ty_tkn T (ty_nx T s) s) (d + 1) C' τ → ((ty_tkn T (ty_nx T s) s).1 = 0 → bb' = tz_la C0.length C0.length (ls ++ [(decide (ty_nx T s = 14), (ty_L1 T (ty_tkn T (ty_nx T s) s)).2)]) ∧ C0 ++ tz_lco 0 0 C0.length (ls ++ [(decide (ty_nx T s = 14), (ty_L1 T (ty_tkn T (ty_nx T s) s)).2)]) = C' ++ tz_lc (ty_L1 T (ty_tkn T (ty_nx T s) s)).2 0) → tw_ok (f_rea_parseRule_142 v (f_rea_parseRule_56 v m) (nI a) (nI bb') (nI i) τ) Q := by
          intro bb' C' τ hb' fτ hτ hC
          unfold f_rea_parseRule_142
          refine tw_b (tz_parseLit hv hτ) (fun σ2 g => ?_)
          obtain ⟨f2, h2⟩ := g
          have em : (ty_L1 T (ty_tkn T (ty_nx T s) s)).1.1 = 0 → (ty_tkn T (ty_nx T s) s).1 = 0 := fun z => by
            have z1 := ty_E1_0 (T := T) z
            have z2 := (ty_tkn_0 z1).1
            have z3 := ty_E1_0 (T := T) z2
            have no0 : ∀ (j : Nat) (s : ty_Ps) (k : Nat), (ty_no T j s k).1.1 = 0 → s.1 = 0 := by
              intro j
              induction j with
              | zero => intro s k z; exact z
              | succ j ih =>
                intro s k z
                unfold ty_no at z
                by_cases c : ty_nx T s = 16
                · rw [if_pos c] at z
                  exact (ty_tkn_0 (ih _ _ z)).1
                · rw [if_neg c] at z; exact z
            exact no0 _ _ _ z3
          rw [show nI i + (1 : Int32) = nI (i + 1) from nI_add i 1]
          refine ih m (i + 1) a bb' _ _ σ2 (by omega) (by omega) (by rw [List.length_append]; show i + 1 ≤ ls.length + 1; omega) hs2 ha hb' (fun z => ⟨ga, (hC (em z)).1⟩) (h2.code (fun z => (hC (em z)).2)) (fτ.tr f2) hQ
        rw [tw_ifE (show (nI (ty_nx T s) = (14 : Int32)) = (ty_nx T s = 14) by rw [show (14 : Int32) = nI 14 from rfl, tw_eq (by omega) (by omega)])]
        by_cases c14 : ty_nx T s = 14
        · rw [if_pos c14]
          refine tw_b ((h1.le (show d + 1 + 1 ≤ d + 1 + 1 by omega)).em hv (k := 14) (a := nI 0) (b := nI 0) (by omega)) (fun σ2 g => ?_)
          obtain ⟨f2, -, -, h2⟩ := g
          obtain ⟨c, e1, e2, e3⟩ := h2.sz
          have okC : tz_ok (C0 ++ tz_lco 0 0 C0.length ls ++ [(14, nI 0, nI 0)]) := tz_ok_app (tz_ok_app h0 (tz_ok_lco ls _ hs)) (fun x hx => by rw [List.mem_singleton.mp hx]; show 14 < 100; omega)
          rw [e1]
          refine tw_b (tz_aimT (a := bb) (b := c) (tg := c) h2 okC (by omega) (by omega)) (fun σ3 g => ?_)
          obtain ⟨f3, h3⟩ := g
          obtain ⟨c', e1', e2', e3'⟩ := h3.sz
          show tw_ok (f_rea_parseRule_142 v (f_rea_parseRule_56 v m) (nI a) (σ3.1 (7 + 14 * v) 12) (nI i) σ3) Q
          rw [e1']
          refine last c' _ σ3 e2' (((f.tr (f1.mn tz_S1S)).tr f2).tr f3) h3 (fun z => ?_)
          have ec := e3 z
          have ec' := e3' z
          rw [tz_pat_len] at ec'
          rw [List.length_append, List.length_append, tz_lco_len] at ec ec'
          have ec1 : c = C0.length + ty_sz ls + 1 := ec
          have ec2 : c' = C0.length + ty_sz ls + 1 := ec'
          have dt : decide (ty_nx T s = 14) = true := decide_eq_true c14
          have lale := tz_la_le ls C0.length C0.length (Nat.le_refl _)
          refine ⟨?_, ?_⟩
          · rw [tz_la_app, dt, if_pos rfl, ec2]
          · have laq : C0.length ≤ tz_la C0.length C0.length ls := by
              cases q : ls.all (fun l => !l.1) with
              | true => rw [lale.2.1 q]; exact Nat.le_refl _
              | false => have := lale.2.2 q; omega
            rw [tz_lco_app, dt]
            rw [tz_pat_app, tz_pat_app, Nat.zero_add, gb, tz_pat_lo C0 0 (by omega), tz_lco_aim ls C0.length C0.length hs (Nat.le_refl _) (by omega), ec1]
            have e14 : tz_pat 31 34 (tz_la C0.length C0.length ls) (C0.length + ty_sz ls + 1) (C0.length + ty_sz ls + 1) (0 + (C0 ++ tz_lco 0 0 C0.length ls).length) [(14, nI 0, nI 0)] = [(14, nI 0, nI 0)] := tz_pat_id _ _ (fun x hx => by rw [List.mem_singleton.mp hx]; show ¬ (31 ≤ 14 ∧ 14 ≤ 34); omega)
            rw [e14]
            show C0 ++ (tz_lco 0 (C0.length + ty_sz ls + 1) C0.length ls ++ ((14, nI 0, nI 0) :: (tz_lc _ _ ++ []))) = _
            rw [List.append_nil, List.append_assoc, List.append_assoc]
            rfl
        · rw [if_neg c14]
          refine last bb _ y.2 hb (f.tr (f1.mn tz_S1S)) (h1.le (by omega)) (fun z => ?_)
          have dt : decide (ty_nx T s = 14) = false := decide_eq_false c14
          refine ⟨?_, ?_⟩
          · rw [tz_la_app, dt, if_neg (fun z => by cases z)]; exact gb
          · rw [tz_lco_app, dt, ← List.append_assoc]
            show C0 ++ tz_lco 0 0 C0.length ls ++ (tz_lc _ 0 ++ []) = _
            rw [List.append_nil]
      by_cases c : ty_nx T s = 15
      · rw [if_pos c]
        exact go (Or.inl c)
      · rw [if_neg c, Option.bind_some, tw_ifE (show (nI (ty_nx T s) = (14 : Int32)) = (ty_nx T s = 14) by rw [show (14 : Int32) = nI 14 from rfl, tw_eq (by omega) (by omega)])]
        by_cases c2 : ty_nx T s = 14
        · rw [if_pos c2]
          exact go (Or.inr c2)
        · rw [if_neg c2]
          rw [if_neg (fun z => z.elim c c2)] at hQ
          exact hQ a bb σ f ha hb hab hs h
/-- WISHES -/
theorem tz_wishes {d bb x1 : Nat} {C : List tz_Cd} {σ0 : rx_St} (hv : v ≤ 1) (Q : rx_St → Prop) : ∀ (j m : Nat) (ws : List ty_Wi) (s : ty_Ps) (σ : rx_St), j ≤ 7 → j < m → (∀ w ∈ ws, ty_Wso w) → (s.1 = 0 → ws.length = 7 - j) → tz_pp v T n s d (C ++ tz_wcs ws) σ → tw_fr (tz_S v) σ0 σ →
    (∀ σ', tw_fr (tz_S v) σ0 σ' → (∀ w ∈ (ty_wo T j s ws).2, ty_Wso w) → tz_pp v T n (ty_wo T j s ws).1 d (C ++ tz_wcs (ty_wo T j s ws).2) σ' → tw_ok (f_rea_parseRule_208 v (nI bb) (nI x1) σ') Q) →
    tw_ok (f_rea_parseRule_173 v m (nI bb) (nI x1) (nI (7 - j)) σ) Q := by
  intro j
  induction j with
  | zero =>
    intro m ws s σ hj hm hws hl h f hQ
    obtain ⟨m, rfl⟩ : ∃ m', m = m' + 1 := ⟨m - 1, by omega⟩
    unfold f_rea_parseRule_173
    rw [if_pos (show (6 : Int32) < nI (7 - 0) by decide)]
    exact hQ σ f hws h
  | succ j ih =>
    intro m ws s σ hj hm hws hl h f hQ
    obtain ⟨m, rfl⟩ : ∃ m', m = m' + 1 := ⟨m - 1, by omega⟩
    have hn := tz_next h.1 h.2.1
    have hK := ty_nx_le (fun i x z => (h.1.2 i x z).1) s
    unfold f_rea_parseRule_173
    unfold ty_wo at hQ
    rw [if_neg (show ¬ (6 : Int32) < nI (7 - (j + 1)) by rw [show (6 : Int32) = nI 6 from rfl, tw_lt (by omega) (by omega)]; omega), hn, Option.bind_some]
    have isw : (f_rea_isWish (nI (ty_nx T s)) = (0 : Int32)) = ¬ (ty_nx T s = 7 ∨ ty_nx T s = 8 ∨ ty_nx T s = 9 ∨ ty_nx T s = 13) := by
      have g : ∀ k, k < 39 → ((f_rea_isWish (nI k) = (0 : Int32)) ↔ ¬ (k = 7 ∨ k = 8 ∨ k = 9 ∨ k = 13)) := by decide
      exact propext (g _ (by omega))
    rw [tw_ifE isw]
    by_cases c : ty_nx T s = 7 ∨ ty_nx T s = 8 ∨ ty_nx T s = 9 ∨ ty_nx T s = 13
    · rw [if_pos c] at hQ
      rw [if_neg (fun z => z c)]
      have e7 : 7 - (j + 1) = 6 - j := by omega
      rw [e7]
      refine tw_b (h.rm (a := 6 - j) (m := 6) hv (by omega) (by omega)) (fun σ1 g => ?_)
      obtain ⟨f1, h1⟩ := g
      refine tw_b (tz_parseWish hv h1 (fun z => ?_)) (fun σ2 g => ?_)
      · obtain ⟨z1, -, z3⟩ := ty_room_0 z
        rw [z3]
        exact c
      · obtain ⟨f2, h2⟩ := g
        rw [show nI (6 - j) + (1 : Int32) = nI (6 - j + 1) from nI_add _ 1, show 6 - j + 1 = 7 - j by omega]
        refine ih m _ _ σ2 (by omega) (by omega) (fun w hw => ?_) (fun z => ?_) ?_ ((f.tr (f1.mn tz_S1S)).tr f2) hQ
        · rcases List.mem_append.mp hw with hw | hw
          · exact hws w hw
          · rw [List.mem_singleton.mp hw]; exact ty_W1_so T _
        · have z0 : s.1 = 0 := (ty_nx_0 (T := T) (s := s) (by omega)).1
          rw [List.length_append, hl z0]
          show 7 - (j + 1) + 1 = 7 - j
          omega
        · rw [tz_wcs_app, ← List.append_assoc]
          show tz_pp v T n _ d (C ++ tz_wcs ws ++ (tz_wc _ ++ [])) σ2
          rw [List.append_nil]
          exact h2.le (by omega)
    · rw [if_neg c] at hQ
      rw [if_pos c]
      exact hQ σ f hws h
theorem tz_rc_len (p : Nat) (r : ty_Ru) : (tz_rc p r).length = ty_sz r.1 + (tz_wcs r.2).length := by
  unfold tz_rc
  rw [List.length_append, tz_lco_len]
/-- a RULE's end: its code, and its KIND has one RULE more -/
theorem tz_rule208 {d bb x1 p : Nat} {C0 : List tz_Cd} {ls : List ty_Lf} {ws : List ty_Wi} {s : ty_Ps} {σ0 σ : rx_St} {kk rc : Nat} (hv : v ≤ 1) (h0 : tz_ok C0) (hp : p = C0.length) (hls : ∀ l ∈ ls, ty_Lso l.2) (hws : ∀ w ∈ ws, ty_Wso w) (hbb : bb ≤ 500) (hx1 : x1 ≤ 500) (hbx : s.1 = 0 → bb = tz_la p p ls ∧ x1 = p + ty_sz ls) (h : tz_pp v T n s d (C0 ++ tz_lco (p + ty_sz ls) 0 p ls ++ tz_wcs ws) σ) (f : tw_fr (tz_S v) σ0 σ) (hk : σ.1 35 4 = nI kk) (hk5 : kk < 5) (hrc : σ.1 (12 + 14 * v) kk = nI rc) :
    tw_ok (f_rea_parseRule_208 v (nI bb) (nI x1) σ) (fun σ' => tw_fr (fun q j => tz_S v q j ∨ q = 12 + 14 * v ∧ j = kk) σ0 σ' ∧ tz_pp v T n (ty_tkn T 2 s) (d + 1) (C0 ++ tz_rc p (ls, ws)) σ' ∧ ((ty_tkn T 2 s).1 = 0 → σ'.1 (12 + 14 * v) kk = nI (rc + 1)) ∧ (¬ (ty_tkn T 2 s).1 = 0 → σ'.1 (12 + 14 * v) kk = nI rc)) := by
  unfold f_rea_parseRule_208
  refine tw_b (h.tk hv (k := 2) (by omega) (by omega)) (fun y g => ?_)
  obtain ⟨-, f1, h1⟩ := g
  obtain ⟨c, e1, e2, e3⟩ := h1.sz
  have okC : tz_ok (C0 ++ tz_lco (p + ty_sz ls) 0 p ls ++ tz_wcs ws) := tz_ok_app (tz_ok_app h0 (tz_ok_lco ls _ hls)) (fun x hx => by have := (tz_wcs_ok ws hws x hx).1; omega)
  rw [e1]
  refine tw_b (tz_aimT (a := bb) (b := x1) (tg := c) h1 okC (by omega) (by omega)) (fun σ2 g => ?_)
  obtain ⟨f2, h2⟩ := g
  have fT : tw_fr (tz_S v) σ0 σ2 := (f.tr (f1.mn tz_S1S)).tr f2
  have k2 : σ2.1 35 4 = nI kk := by rw [f2.i (by unfold tz_S; omega), f1.i (by unfold tz_S1; omega)]; exact hk
  have r2 : σ2.1 (12 + 14 * v) kk = nI rc := by rw [f2.i (by unfold tz_S; omega), f1.i (by unfold tz_S1; omega)]; exact hrc
  have h3 : tz_pp v T n (ty_tkn T 2 s) (d + 1) (C0 ++ tz_rc p (ls, ws)) σ2 := h2.code (fun z => by
    have z0 := (ty_tkn_0 z).1
    obtain ⟨b1, b2⟩ := hbx z0
    have ec := e3 z
    rw [List.length_append, List.length_append, tz_lco_len] at ec
    have lale := tz_la_le ls p p (Nat.le_refl _)
    have laq : p ≤ tz_la p p ls := by
      cases q : ls.all (fun l => !l.1) with
      | true => rw [lale.2.1 q]; exact Nat.le_refl _
      | false => have := lale.2.2 q; omega
    rw [tz_pat_app, tz_pat_app, Nat.zero_add, b1, b2, ← hp, tz_pat_lo C0 0 (by omega), tz_lco_aim ls p p hls (Nat.le_refl _) (Nat.le_refl _), tz_pat_id (tz_wcs ws) _ (fun x hx => by have := (tz_wcs_ok ws hws x hx).1; omega)]
    unfold tz_rc
    rw [show c = p + ty_sz ls + (tz_wcs ws).length by omega, List.append_assoc])
  have s2 := h2.2.1.2.2.1
  rw [h2.2.1.1, show (0 : Int32) = nI 0 from rfl, tw_ifE (tw_eq (a := (ty_tkn T 2 s).1) (b := 0) (by omega) (by omega))]
  by_cases z : (ty_tkn T 2 s).1 = 0
  · rw [if_pos z, k2]
    refine tw_g (vp_in_nI (by omega) (by decide)) (tw_g (vp_in_nI (by omega) (by decide)) ?_)
    rw [nI_clamp (by omega), r2, tw_some]
    refine ⟨(fT.mn (fun q j h => Or.inl h)).si (Or.inr ⟨rfl, rfl⟩), ?_, fun _ => ?_, fun y => absurd z y⟩
    · obtain ⟨g1, g2, ⟨cc, q, q1, q2, q3, q4⟩, g4⟩ := h3
      exact ⟨g1.fr (fun a b e e' => ⟨tw_r1n _ _ (by omega), rfl⟩), ⟨by rw [tw_r1n _ _ (by omega)]; exact g2.1, by rw [tw_r1n _ _ (by omega)]; exact g2.2.1, g2.2.2⟩, ⟨cc, q, by rw [tw_r1n _ _ (by omega)]; exact q1, q2, by rw [tw_r1n _ _ (by omega)]; exact q3, q4⟩, fun z => ⟨(g4 z).1.fr (fun a b e => tw_r1n _ _ (by omega)), (g4 z).2⟩⟩
    · show (rx_si σ2 (12 + 14 * v) kk (nI rc + (1 : Int32))).1 (12 + 14 * v) kk = nI (rc + 1)
      rw [tw_r1s]; exact nI_add rc 1
  · rw [if_neg z, tw_some]
    exact ⟨fT.mn (fun q j h => Or.inl h), h3, fun y => absurd y z, fun _ => r2⟩
/-- behind the LITS -/
theorem tz_rule152 {d a bb kk rc : Nat} {C0 : List tz_Cd} {ls : List ty_Lf} {s : ty_Ps} {σ0 σ : rx_St} (hv : v ≤ 1) (h0 : tz_ok C0) (hls : ∀ l ∈ ls, ty_Lso l.2) (ha : a ≤ 500) (hbb : bb ≤ 500) (hab : s.1 = 0 → a = C0.length ∧ bb = tz_la C0.length C0.length ls) (h : tz_pp v T n s d (C0 ++ tz_lco 0 0 C0.length ls) σ) (f : tw_fr (tz_S v) σ0 σ) (hk : σ0.1 35 4 = nI kk) (hk5 : kk < 5) (hrc : σ0.1 (12 + 14 * v) kk = nI rc) :
    tw_ok (f_rea_parseRule_152 v (nI a) (nI bb) σ) (fun σ' => tw_fr (fun q j => tz_S v q j ∨ q = 12 + 14 * v ∧ j = kk) σ0 σ' ∧ tz_pp v T n (ty_tkn T 2 (ty_wo T 7 s []).1) (d + 1) (C0 ++ tz_rc C0.length (ls, (ty_wo T 7 s []).2)) σ' ∧ ((ty_tkn T 2 (ty_wo T 7 s []).1).1 = 0 → σ'.1 (12 + 14 * v) kk = nI (rc + 1)) ∧ (¬ (ty_tkn T 2 (ty_wo T 7 s []).1).1 = 0 → σ'.1 (12 + 14 * v) kk = nI rc)) := by
  obtain ⟨c, e1, e2, e3⟩ := h.sz
  have wo0 : ∀ (j : Nat) (s : ty_Ps) (ws : List ty_Wi), (ty_wo T j s ws).1.1 = 0 → s.1 = 0 := by
    intro j
    induction j with
    | zero => intro s ws z; exact z
    | succ j ih =>
      intro s ws z
      unfold ty_wo at z
      by_cases c : ty_nx T s = 7 ∨ ty_nx T s = 8 ∨ ty_nx T s = 9 ∨ ty_nx T s = 13
      · exact (ty_nx_0 (T := T) (s := s) (by omega)).1
      · rw [if_neg c] at z; exact z
  unfold f_rea_parseRule_152
  show tw_ok ((f_wor_aimOrs v (nI a) (σ.1 (7 + 14 * v) 12) (σ.1 (7 + 14 * v) 12) σ).bind fun y2 => f_rea_parseRule_173 v rx_fu (nI bb) (σ.1 (7 + 14 * v) 12) (0 : Int32) y2) _
  rw [e1]
  refine tw_b (tz_aimO (a := a) (b := c) (tg := c) h (tz_ok_app h0 (tz_ok_lco ls _ hls)) (by omega) (by omega)) (fun σ1 g => ?_)
  obtain ⟨f1, h1⟩ := g
  have h1' : tz_pp v T n s d (C0 ++ tz_lco (C0.length + ty_sz ls) 0 C0.length ls ++ tz_wcs []) σ1 := h1.code (fun z => by
    obtain ⟨b1, -⟩ := hab z
    have ec := e3 z
    rw [List.length_append, tz_lco_len] at ec
    rw [tz_pat_app, Nat.zero_add, tz_pat_lo C0 0 (by omega), b1, tz_lco_aimo ls C0.length hls (Nat.le_refl _) (by omega), ec]
    exact List.append_nil _)
  refine tz_wishes (d := d) (C := C0 ++ tz_lco (C0.length + ty_sz ls) 0 C0.length ls) (σ0 := σ0) hv _ 7 rx_fu [] s σ1 (by omega) (by show _ < 100000; omega) (fun w hw => by cases hw) (fun _ => rfl) h1' (f.tr f1) (fun σ2 f2 hw2 h2 => ?_)
  exact tz_rule208 hv h0 rfl hls hw2 hbb e2 (fun z => ⟨(hab (wo0 _ _ _ z)).2, by
    have ec := e3 (wo0 _ _ _ z)
    rw [List.length_append, tz_lco_len] at ec
    exact ec⟩) h2 f2 (by rw [f2.i (by unfold tz_S; omega)]; exact hk) hk5 (by rw [f2.i (by unfold tz_S; omega)]; exact hrc)
theorem tz_parseRule {d kk rc : Nat} {C0 : List tz_Cd} {s : ty_Ps} {σ : rx_St} (hv : v ≤ 1) (h0 : tz_ok C0) (h : tz_pp v T n s d C0 σ) (hk : σ.1 35 4 = nI kk) (hk5 : kk < 5) (hrc : σ.1 (12 + 14 * v) kk = nI rc) (hrc9 : rc < 100) :
    tw_ok (f_rea_parseRule v σ) (fun σ' => tw_fr (fun q j => tz_S v q j ∨ q = 12 + 14 * v ∧ j = kk) σ σ' ∧ tz_pp v T n (ty_R1 T rc s).1 (d + 1) (C0 ++ tz_rc C0.length (ty_R1 T rc s).2) σ' ∧ ((ty_R1 T rc s).1.1 = 0 → σ'.1 (12 + 14 * v) kk = nI (rc + 1)) ∧ (¬ (ty_R1 T rc s).1.1 = 0 → σ'.1 (12 + 14 * v) kk = nI rc)) := by
  unfold f_rea_parseRule
  rw [hk]
  refine tw_g (vp_in_nI (by omega) (by decide)) ?_
  rw [nI_clamp (by omega), hrc]
  refine tw_b (h.rm (a := rc) (m := 8) hv (by omega) (by omega)) (fun σ1 g => ?_)
  obtain ⟨f1, h1⟩ := g
  refine tw_b (h1.tk hv (k := 5) (by omega) (by omega)) (fun y g => ?_)
  obtain ⟨-, f2, h2⟩ := g
  have hn := tz_next h2.1 h2.2.1
  have hK := ty_nx_le (fun i x z => (h2.1.2 i x z).1) (ty_tkn T 5 (ty_room rc 8 s))
  have fT : tw_fr (tz_S v) σ y.2 := (f1.mn tz_S1S).tr (f2.mn tz_S1S)
  obtain ⟨c, e1, e2, e3⟩ := h2.sz
  have eR : ty_R1 T rc s = (ty_tkn T 2 (ty_wo T 7 (ty_Ra T (ty_tkn T 5 (ty_room rc 8 s))).1 []).1, ((ty_Ra T (ty_tkn T 5 (ty_room rc 8 s))).2, (ty_wo T 7 (ty_Ra T (ty_tkn T 5 (ty_room rc 8 s))).1 []).2)) := rfl
  rw [eR]
  show tw_ok ((f_rea_next y.2).bind fun y4 => if y4 = (6 : Int32) then ((f_rea_take (6 : Int32) y.2).bind fun y5 => (f_rea_parseLit v y5.2).bind fun y6 => f_rea_parseRule_56 v rx_fu (y.2.1 (7 + 14 * v) 12) (y.2.1 (7 + 14 * v) 12) (0 : Int32) y6) else f_rea_parseRule_152 v (y.2.1 (7 + 14 * v) 12) (y.2.1 (7 + 14 * v) 12) y.2) _
  rw [hn, Option.bind_some, e1, tw_ifE (show (nI (ty_nx T (ty_tkn T 5 (ty_room rc 8 s))) = (6 : Int32)) = (ty_nx T (ty_tkn T 5 (ty_room rc 8 s)) = 6) by rw [show (6 : Int32) = nI 6 from rfl, tw_eq (by omega) (by omega)])]
  by_cases c6 : ty_nx T (ty_tkn T 5 (ty_room rc 8 s)) = 6
  · rw [if_pos c6]
    have eA : ty_Ra T (ty_tkn T 5 (ty_room rc 8 s)) = ty_lo T 501 (ty_L1 T (ty_tkn T 6 (ty_tkn T 5 (ty_room rc 8 s)))).1 [(false, (ty_L1 T (ty_tkn T 6 (ty_tkn T 5 (ty_room rc 8 s)))).2)] := if_pos c6
    have z2 := (ty_nx_0 (T := T) (s := ty_tkn T 5 (ty_room rc 8 s)) (by omega)).1
    refine tw_b (h2.tk hv (k := 6) (by omega) (by omega)) (fun y5 g => ?_)
    obtain ⟨-, f3, h3⟩ := g
    refine tw_b (tz_parseLit hv (h3.le (show d + 1 ≤ d + 1 + 1 by omega))) (fun σ4 g => ?_)
    obtain ⟨f4, h4⟩ := g
    have hL := ty_L1_so T (ty_tkn T 6 (ty_tkn T 5 (ty_room rc 8 s)))
    refine tz_lits (T := T) (n := n) (d := d) (C0 := C0) (σ0 := σ) hv h0 _ 501 rx_fu 0 c c [(false, (ty_L1 T (ty_tkn T 6 (ty_tkn T 5 (ty_room rc 8 s)))).2)] (ty_L1 T (ty_tkn T 6 (ty_tkn T 5 (ty_room rc 8 s)))).1 σ4 (by omega) (by show _ < 100000; omega) (Nat.zero_le _) (fun l hl => by rw [List.mem_singleton.mp hl]; exact hL) e2 e2 (fun _ => ⟨e3 z2, by rw [e3 z2]; rfl⟩) ?_ ((fT.tr (f3.mn tz_S1S)).tr f4) (fun a' b' σ' f' ha hb hab hs h' => ?_)
    · show tz_pp v T n _ (d + 1) (C0 ++ (tz_lc _ 0 ++ [])) σ4
      rw [List.append_nil]
      exact h4
    · rw [← eA] at hab hs h'
      exact tw_mono (tz_rule152 (ls := (ty_Ra T (ty_tkn T 5 (ty_room rc 8 s))).2) (s := (ty_Ra T (ty_tkn T 5 (ty_room rc 8 s))).1) hv h0 hs ha hb hab h' f' hk hk5 hrc) (fun σ' g => ⟨g.1, g.2.1.le (show d + 1 ≤ d + 1 + 1 by omega), g.2.2⟩)
  · rw [if_neg c6]
    have eA : ty_Ra T (ty_tkn T 5 (ty_room rc 8 s)) = (ty_tkn T 5 (ty_room rc 8 s), []) := if_neg c6
    rw [eA]
    refine tw_mono (tz_rule152 (ls := []) (σ0 := σ) hv h0 (fun l hl => by cases hl) e2 e2 (fun z => ⟨e3 z, by rw [e3 z]; rfl⟩) ?_ fT hk hk5 hrc) (fun σ' g => ⟨g.1, g.2.1.le (show d + 1 ≤ d + 1 + 1 by omega), g.2.2⟩)
    show tz_pp v T n _ (d + 1) (C0 ++ []) y.2
    rw [List.append_nil]
    exact h2
end TZ8
