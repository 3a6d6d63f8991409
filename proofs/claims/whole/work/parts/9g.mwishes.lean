/-! THE MODEL READS: the WISHES of a RULE -/
def ta_wop (ws : List ty_Wi) : List ty_Uo := ws.flatMap (fun w => w.2.2.2)
def ta_wqs (X : ta_X) (r : Nat) : Nat → Nat → List ty_Wi → List ta_Qu
  | _, _, [] => []
  | p, i, w :: ws => ta_wq X p (6 * r + i) w ++ ta_wqs X r (p + w.2.2.2.length) (i + 1) ws
def ta_wrs (T : List tw_Tk) (X : ta_X) : Nat → List ty_Wi → List ta_Wr
  | _, [] => []
  | p, w :: ws => (w.1, ta_wv T X w, p, p + w.2.2.2.length) :: ta_wrs T X (p + w.2.2.2.length) ws
theorem ta_wop_len (w : ty_Wi) (ws : List ty_Wi) : (ta_wop (w :: ws)).length = w.2.2.2.length + (ta_wop ws).length := by
  unfold ta_wop
  rw [List.flatMap_cons, List.length_append]
theorem ta_wrs_len (T : List tw_Tk) (X : ta_X) : ∀ (ws : List ty_Wi) (p : Nat), (ta_wrs T X p ws).length = ws.length
  | [], _ => rfl
  | w :: ws, p => by rw [ta_wrs, List.length_cons, List.length_cons, ta_wrs_len T X ws]
theorem ta_wqs_app (X : ta_X) (r : Nat) : ∀ (as bs : List ty_Wi) (p i : Nat), ta_wqs X r p i (as ++ bs) = ta_wqs X r p i as ++ ta_wqs X r (p + (ta_wop as).length) (i + as.length) bs
  | [], bs, p, i => rfl
  | w :: as, bs, p, i => by
    rw [List.cons_append, ta_wqs, ta_wqs, ta_wqs_app X r as bs, List.append_assoc, ta_wop_len, List.length_cons, Nat.add_assoc, show i + 1 + as.length = i + (as.length + 1) by omega]
theorem ta_wrs_app (T : List tw_Tk) (X : ta_X) : ∀ (as bs : List ty_Wi) (p : Nat), ta_wrs T X p (as ++ bs) = ta_wrs T X p as ++ ta_wrs T X (p + (ta_wop as).length) bs
  | [], bs, p => rfl
  | w :: as, bs, p => by
    rw [List.cons_append, ta_wrs, ta_wrs, ta_wrs_app T X as bs, List.cons_append, ta_wop_len, Nat.add_assoc]
section TBH
variable {X : ta_X} {T : List tw_Tk} {n : Nat}
/-- with the WISHES so far -/
def ta_pws (X : ta_X) (T : List tw_Tk) (n r : Nat) (s : ty_Ps) (d : Nat) (C : List tz_Cd) (Q : List ta_Qu) (acc : Option (Nat × Nat)) (L : List ta_Lr) (ws : List ty_Wi) (σ : rx_St) : Prop := ta_pw X T n r s d (C ++ (ta_wop ws).map (ta_oc T X)) (Q ++ ta_wqs X r C.length 0 ws) (ty_mn T n acc (ws.flatMap (ta_we T X))) L (ta_wrs T X C.length ws) σ
theorem ta_pws.snoc {r : Nat} {d : Nat} {C : List tz_Cd} {Q : List ta_Qu} {acc : Option (Nat × Nat)} {L : List ta_Lr} {ws : List ty_Wi} {σ σ' : rx_St} {w : ty_Ps × ty_Wi} (h : ta_wd X T n r d (C ++ (ta_wop ws).map (ta_oc T X)) (Q ++ ta_wqs X r C.length 0 ws) (ty_mn T n acc (ws.flatMap (ta_we T X))) L (ta_wrs T X C.length ws) σ w σ') : ta_pws X T n r w.1 d C Q acc L (ws ++ [w.2]) σ' := by
  have h2 := h.2
  have e : ta_wop (ws ++ [w.2]) = ta_wop ws ++ w.2.2.2.2 := by
    unfold ta_wop
    rw [List.flatMap_append, List.flatMap_cons]
    show _ ++ (_ ++ []) = _
    rw [List.append_nil]
  rw [ta_wrs_len, List.length_append, List.length_map] at h2
  unfold ta_pws
  rw [ta_wqs_app, ta_wrs_app, e, List.map_append, List.flatMap_append, ty_mn_app, ← List.append_assoc, ← List.append_assoc, Nat.zero_add]
  show ta_pw X T n r w.1 d _ (Q ++ ta_wqs X r C.length 0 ws ++ (ta_wq X (C.length + (ta_wop ws).length) (6 * r + ws.length) w.2 ++ [])) (ty_mn T n (ty_mn T n acc (ws.flatMap (ta_we T X))) (ta_we T X w.2 ++ [])) L _ σ'
  rw [List.append_nil, List.append_nil]
  exact h2
theorem ta_wos {d r : Nat} {C : List tz_Cd} {Q : List ta_Qu} {acc : Option (Nat × Nat)} {L : List ta_Lr} {σ0 : rx_St} (hP : ∀ i, ty_Pl T n i ≤ 2000) (hr : r < 80) (P : rx_St → Prop) : ∀ (j m : Nat) (ws : List ty_Wi) (s : ty_Ps) (σ : rx_St), j + ws.length = 7 → j + 1 < m → (s.1 = 0 → ws.length ≤ 6) → ta_pws X T n r s d C Q acc L ws σ → tw_fr (ta_SW r X.1) σ0 σ →
    (∀ σ', tw_fr (ta_SW r X.1) σ0 σ' → ta_pws X T n r (ty_wo T j s ws).1 d C Q acc L (ty_wo T j s ws).2 σ' → tw_ok (f_m_tellRule_170 σ') P) →
    (∀ (s' : ty_Ps) σ', ¬ s'.1 = 0 → tw_fr (ta_SW r X.1) σ0 σ' → ty_tkn T 2 (ty_wo T j s ws).1 = s' → ta_pws X T n r s' d C Q acc L (ty_wo T j s ws).2 σ' → tw_ok (f_m_tellRule_170 σ') P) → tw_ok (f_m_tellRule_146 m (nI r) σ) P := by
  intro j
  induction j with
  | zero =>
    intro m ws s σ hj hm hl h f hQ hR
    obtain ⟨m, rfl⟩ : ∃ m', m = m' + 1 := ⟨m - 1, by omega⟩
    unfold f_m_tellRule_146
    rw [tw_ifE h.1.1.2.1.z]
    by_cases z : s.1 = 0
    · have := hl z
      omega
    · rw [if_neg z]
      exact hQ σ f h
  | succ j ih =>
    intro m ws s σ hj hm hl h f hQ hR
    obtain ⟨m, rfl⟩ : ∃ m', m = m' + 1 := ⟨m - 1, by omega⟩
    have e6 : 6 - j = ws.length := by omega
    unfold f_m_tellRule_146
    unfold ty_wo at hQ hR
    rw [tw_ifE h.1.1.2.1.z]
    by_cases z : s.1 = 0
    · rw [if_pos z, tm_is (m := (22 : Int32)) 2 rfl (by omega) h.1.1.1.1 h.1.1.2.1, Option.bind_some, tm_ifz]
      by_cases c2 : ty_nx T s = 2
      · rw [if_pos c2]
        rw [if_neg (by omega)] at hQ
        exact hQ σ f h
      · rw [if_neg c2]
        by_cases c : ty_nx T s = 7 ∨ ty_nx T s = 8 ∨ ty_nx T s = 9 ∨ ty_nx T s = 13
        · rw [if_pos c, e6] at hQ hR
          refine tw_b (ta_W hP hr (by rw [ta_wrs_len]; omega) c h) (fun σ1 g => ?_)
          rw [ta_wrs_len] at g
          have six : (ty_W1 T (ty_room ws.length 6 s)).1.1 = 0 → (ws ++ [(ty_W1 T (ty_room ws.length 6 s)).2]).length ≤ 6 := fun y => by
            rw [List.length_append]
            show ws.length + 1 ≤ 6
            by_cases c6 : 6 ≤ ws.length
            · have er : ty_room ws.length 6 s = (2, s.2) := by unfold ty_room; rw [if_pos ⟨z, c6⟩]
              rw [er, ty_W1_f (show ¬ (((2, s.2) : ty_Ps).1 = 0) by show ¬ (2 = 0); decide)] at y
              exact absurd (show 2 = 0 from y) (by decide)
            · omega
          exact ih m _ _ σ1 (by rw [List.length_append]; show j + (ws.length + 1) = 7; omega) (by omega) (fun y => six y) (ta_pws.snoc g) (f.tr g.1) hQ hR
        · rw [if_neg c] at hR
          have nK : ¬ ty_K T s.2 = 2 := fun y => c2 (by unfold ty_nx; rw [if_pos z]; exact y)
          have e1 : ty_tkn T 2 s = (1, s.2) := by unfold ty_tkn; rw [if_pos z, if_neg nK]
          unfold f_m_tellWish
          have ht := h.1.1.1.1
          have hr' := h.1.1.2.1
          rw [tm_is (m := (27 : Int32)) 7 rfl (by omega) ht hr', Option.bind_some, tm_ifz, if_neg (by omega), tm_is (m := (28 : Int32)) 8 rfl (by omega) ht hr', Option.bind_some, tm_ifz, if_neg (by omega), tm_is (m := (29 : Int32)) 9 rfl (by omega) ht hr', Option.bind_some, tm_ifz, if_neg (by omega), tm_is (m := (33 : Int32)) 13 rfl (by omega) ht hr', Option.bind_some, tm_ifz, if_neg (by omega)]
          unfold f_m_tellWish_53
          rw [if_pos rfl]
          obtain ⟨σ1, es, g1, g2⟩ := tm_fail (m := (1 : Int32)) 1 rfl (by omega) (by omega) ht hr'
          rw [es, Option.bind_some]
          rw [if_pos z] at g2
          unfold f_m_tellWish_83
          rw [tw_ifE g2.l, if_neg (show ¬ (1 = 0) by decide), Option.bind_some]
          obtain ⟨m, rfl⟩ : ∃ m', m = m' + 1 := ⟨m - 1, by omega⟩
          unfold f_m_tellRule_146
          rw [tw_ifE g2.z, if_neg (show ¬ (1 = 0) by decide)]
          have no1 : ∀ {p : Prop}, (((1, s.2) : ty_Ps).1 = 0) → p := fun y => absurd (show 1 = 0 from y) (by decide)
          exact hR (1, s.2) σ1 (show ¬ (1 = 0) by decide) (f.tr (g1.mn (ta_S1W r X.1))) e1 ⟨⟨h.1.1.of1 g1 g2 (fun y => no1 y), fun y => no1 y⟩, fun y => no1 y⟩
    · rw [if_neg z]
      rw [if_neg (by rw [ty_nx_f z]; omega)] at hQ
      exact hQ σ f h
end TBH
