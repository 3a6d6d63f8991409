/-! WHAT IS AMISS: the same on both sides -/
theorem ty_mn_spec (T : List tw_Tk) (n : Nat) : ∀ (l : List (Nat × Nat)) (acc : Option (Nat × Nat)), (ty_mn T n acc l = none → acc = none ∧ l = []) ∧ ∀ m, ty_mn T n acc l = some m → (acc = some m ∨ ∃ e ∈ l, m = (ty_Pl T n e.2, e.1)) ∧ (∀ a, acc = some a → m.1 < a.1 ∨ m.1 = a.1 ∧ m.2 ≤ a.2) ∧ ∀ e ∈ l, m.1 < ty_Pl T n e.2 ∨ m.1 = ty_Pl T n e.2 ∧ m.2 ≤ e.1
  | [], acc => ⟨fun h => ⟨h, rfl⟩, fun m h => ⟨Or.inl h, fun a ha => by
      have e : ty_mn T n acc [] = acc := rfl
      rw [e, ha] at h
      cases h
      exact Or.inr ⟨rfl, Nat.le_refl _⟩, fun e he => (by cases he)⟩⟩
  | x :: l, acc => by
    have ih := ty_mn_spec T n l (ty_st T n acc x)
    have e : ty_mn T n acc (x :: l) = ty_mn T n (ty_st T n acc x) l := rfl
    rw [e]
    obtain ⟨i1, i2⟩ := ih
    have sn : ∃ a', ty_st T n acc x = some a' ∧ (acc = some a' ∨ a' = (ty_Pl T n x.2, x.1)) ∧ (∀ a, acc = some a → a'.1 < a.1 ∨ a'.1 = a.1 ∧ a'.2 ≤ a.2) ∧ (a'.1 < ty_Pl T n x.2 ∨ a'.1 = ty_Pl T n x.2 ∧ a'.2 ≤ x.1) := by
      unfold ty_st
      cases acc with
      | none => exact ⟨_, rfl, Or.inr rfl, fun a ha => (by cases ha), Or.inr ⟨rfl, Nat.le_refl _⟩⟩
      | some a0 =>
        show ∃ a', (if ty_Pl T n x.2 < a0.1 ∨ ty_Pl T n x.2 = a0.1 ∧ x.1 < a0.2 then some (ty_Pl T n x.2, x.1) else some a0) = some a' ∧ _
        by_cases c : ty_Pl T n x.2 < a0.1 ∨ ty_Pl T n x.2 = a0.1 ∧ x.1 < a0.2
        · rw [if_pos c]
          refine ⟨_, rfl, Or.inr rfl, fun a ha => ?_, Or.inr ⟨rfl, Nat.le_refl _⟩⟩
          cases ha
          show ty_Pl T n x.2 < a0.1 ∨ ty_Pl T n x.2 = a0.1 ∧ x.1 ≤ a0.2
          omega
        · rw [if_neg c]
          refine ⟨_, rfl, Or.inl rfl, fun a ha => ?_, ?_⟩
          · cases ha
            exact Or.inr ⟨rfl, Nat.le_refl _⟩
          · omega
    obtain ⟨a', s1, s2, s3, s4⟩ := sn
    refine ⟨fun h => ?_, fun m h => ?_⟩
    · rw [s1] at i1
      exact absurd (i1 (by rw [← s1]; exact h)).1 (fun z => by cases z)
    · obtain ⟨k1, k2, k3⟩ := i2 m h
      have k2' := k2 a' s1
      refine ⟨?_, fun a ha => ?_, fun e he => ?_⟩
      · rcases k1 with k1 | ⟨e, he, k1⟩
        · rw [s1] at k1
          cases k1
          rcases s2 with s2 | s2
          · exact Or.inl s2
          · exact Or.inr ⟨x, List.mem_cons_self .., s2⟩
        · exact Or.inr ⟨e, List.mem_cons_of_mem _ he, k1⟩
      · have := s3 a ha
        omega
      · rcases List.mem_cons.mp he with rfl | he
        · omega
        · exact k3 e he
/-- which one is found hangs on nothing but which there are -/
theorem ty_mn_same {T : List tw_Tk} {n : Nat} {l l' : List (Nat × Nat)} (h : ∀ e, e ∈ l ↔ e ∈ l') : ty_mn T n none l = ty_mn T n none l' := by
  have a := ty_mn_spec T n l none
  have b := ty_mn_spec T n l' none
  cases e : ty_mn T n none l with
  | none =>
    have := (a.1 e).2
    subst this
    have : l' = [] := List.eq_nil_iff_forall_not_mem.mpr (fun x hx => by have := (h x).mpr hx; cases this)
    subst this
    rfl
  | some m =>
    cases e' : ty_mn T n none l' with
    | none =>
      have := (b.1 e').2
      subst this
      obtain ⟨k, -, -⟩ := a.2 m e
      rcases k with k | ⟨x, hx, -⟩
      · cases k
      · have := (h x).mp hx
        cases this
    | some m' =>
      obtain ⟨k1, -, k3⟩ := a.2 m e
      obtain ⟨q1, -, q3⟩ := b.2 m' e'
      rcases k1 with k1 | ⟨x, hx, k1⟩
      · cases k1
      rcases q1 with q1 | ⟨y, hy, q1⟩
      · cases q1
      have u := k3 y ((h y).mpr hy)
      have v := q3 x ((h x).mp hx)
      have : m = m' := by
        refine Prod.ext ?_ ?_
        · rw [k1, q1] at *
          simp only at *
          omega
        · rw [k1, q1] at *
          simp only at *
          omega
      rw [this]
theorem ty_fi_pre {T : List tw_Tk} {L : List Nat} {t : Nat} {ts : List Nat} (h : ty_Lt T t = L) : ∀ (pre : List Nat) (i : Nat), ty_fi T L (pre ++ t :: ts) i = some (i + pre.length) ↔ ty_fi T L pre i = none
  | [], i => by
    show (if ty_Lt T t = L then some i else ty_fi T L ts (i + 1)) = some i ↔ _
    rw [if_pos h]
    exact ⟨fun _ => rfl, fun _ => rfl⟩
  | a :: pre, i => by
    rw [List.cons_append, ty_fi, ty_fi, List.length_cons]
    by_cases c : ty_Lt T a = L
    · rw [if_pos c, if_pos c]
      exact ⟨fun z => by have := Option.some.inj z; omega, fun z => (by cases z)⟩
    · rw [if_neg c, if_neg c, show i + (pre.length + 1) = i + 1 + pre.length by omega]
      exact ty_fi_pre h pre (i + 1)
theorem ta_ve_dup {T : List tw_Tk} : ∀ (vs : List ty_Va) (pre : List Nat), ty_dup T (pre ++ vs.map (fun x => x.1)) (vs.map (fun x => x.1)) pre.length = ta_ve T pre vs
  | [], pre => rfl
  | x :: vs, pre => by
    have k := ty_fi_pre (T := T) (ts := vs.map (fun x => x.1)) (rfl : ty_Lt T x.1 = _) pre 0
    rw [Nat.zero_add] at k
    have ih := ta_ve_dup (T := T) vs (pre ++ [x.1])
    rw [List.append_assoc, List.length_append] at ih
    rw [List.map_cons, ty_dup, ta_ve]
    have e : ty_dup T (pre ++ x.1 :: vs.map (fun x => x.1)) (vs.map (fun x => x.1)) (pre.length + 1) = ta_ve T (pre ++ [x.1]) vs := ih
    rw [e]
    congr 1
    unfold ta_ve1
    by_cases c : ty_fi T (ty_Lt T x.1) pre 0 = none
    · rw [if_pos c, if_pos (k.mpr c)]
    · rw [if_neg c, if_neg (fun z => c (k.mp z))]
theorem ta_se_dup {T : List tw_Tk} : ∀ (ss : List ty_Se) (pre : List Nat), ty_dup T (pre ++ ss.map (fun x => x.1)) (ss.map (fun x => x.1)) pre.length = ta_se T pre ss
  | [], pre => rfl
  | x :: ss, pre => by
    have k := ty_fi_pre (T := T) (ts := ss.map (fun x => x.1)) (rfl : ty_Lt T x.1 = _) pre 0
    rw [Nat.zero_add] at k
    have ih := ta_se_dup (T := T) ss (pre ++ [x.1])
    rw [List.append_assoc, List.length_append] at ih
    rw [List.map_cons, ty_dup, ta_se]
    have e : ty_dup T (pre ++ x.1 :: ss.map (fun x => x.1)) (ss.map (fun x => x.1)) (pre.length + 1) = ta_se T (pre ++ [x.1]) ss := ih
    rw [e]
    congr 1
    unfold ta_ne
    by_cases c : ty_fi T (ty_Lt T x.1) pre 0 = none
    · rw [if_pos (k.mpr c), if_pos ⟨c, rfl⟩]
    · rw [if_neg (fun z => c (k.mp z)), if_neg (fun z => c z.1)]
def ta_same (A B C : List (Nat × Nat)) : Prop := ∀ e, e ∈ A ↔ e ∈ B ∨ e ∈ C
theorem ta_same.app {A B C A' B' C' : List (Nat × Nat)} (h : ta_same A B C) (h' : ta_same A' B' C') : ta_same (A ++ A') (B ++ B') (C ++ C') := fun e => by
  rw [List.mem_append, List.mem_append, List.mem_append, h e, h' e]
  exact ⟨fun z => by rcases z with (z | z) | (z | z) <;> simp [z], fun z => by rcases z with (z | z) | (z | z) <;> simp [z]⟩
theorem ta_same.nil : ta_same [] [] [] := fun e => ⟨fun h => (by cases h), fun h => by rcases h with h | h <;> cases h⟩
section TBV
variable {T : List tw_Tk} {U : ty_Wo} {lv k : Nat} {K : ty_Ki}
theorem ta_same1 (hK : U.2[k]? = some K) {x : ty_Uo} (p : Nat) (h : ty_vo T x) : tz_ev T U k (tz_uc x) = ta_oe T (ta_X1 lv (ty_sn U) k K) x ++ (ta_oq (ta_X1 lv (ty_sn U) k K) p x).flatMap (ta_qe T U lv) := by
  obtain ⟨-, -, -, -, -, h12, h2, b1, b2⟩ := h
  have ev : ty_vn U k = K.2.1.map (fun x => x.1) := by unfold ty_vn; rw [hK]
  have t1 := ty_tok_nI (t := x.2.1) (by omega)
  have t2 := ty_tok_nI (t := x.2.2) (by omega)
  unfold tz_uc ta_oe ta_oq
  by_cases c0 : x.1 = 0
  · rw [if_pos c0, if_neg (show ¬ x.1 = 1 by omega), if_neg (show ¬ x.1 = 6 by omega), if_neg (show ¬ x.1 = 7 by omega), if_neg (show ¬ x.1 = 8 by omega)]
    rfl
  rw [if_neg c0]
  by_cases c1 : x.1 = 1
  · rw [if_pos c1, if_pos c1, if_neg (show ¬ x.1 = 7 by omega), if_neg (show ¬ x.1 = 8 by omega)]
    show (if ty_fi T (ty_Lt T (ty_tok (nI x.2.1))) (ty_vn U k) 0 = none ∧ ty_fi T (ty_Lt T (ty_tok (nI x.2.1))) (ty_sn U) 0 = none then [(4, ty_tok (nI x.2.1))] else []) = (if ty_fi T (ty_Lt T x.2.1) (K.2.1.map (fun x => x.1)) 0 = none ∧ ty_fi T (ty_Lt T x.2.1) (ty_sn U) 0 = none then [(4, x.2.1)] else []) ++ []
    rw [t1, ev, List.append_nil]
  rw [if_neg c1, if_neg c1]
  by_cases c3 : x.1 = 3
  · rw [if_pos c3, if_neg (show ¬ x.1 = 6 by omega), if_neg (show ¬ x.1 = 7 by omega), if_neg (show ¬ x.1 = 8 by omega)]
    rfl
  rw [if_neg c3]
  by_cases c4 : x.1 = 4
  · rw [if_pos c4, if_neg (show ¬ x.1 = 6 by omega), if_neg (show ¬ x.1 = 7 by omega), if_neg (show ¬ x.1 = 8 by omega)]
    rfl
  rw [if_neg c4]
  by_cases c5 : x.1 = 5
  · rw [if_pos c5, if_neg (show ¬ x.1 = 6 by omega), if_neg (show ¬ x.1 = 7 by omega), if_neg (show ¬ x.1 = 8 by omega)]
    rfl
  rw [if_neg c5]
  by_cases c6 : x.1 = 6
  · rw [if_pos c6, if_pos c6, if_neg (show ¬ x.1 = 7 by omega), if_neg (show ¬ x.1 = 8 by omega)]
    show (if ty_V T (ty_tok (nI x.2.1)) < 1 then [(5, ty_tok (nI x.2.1))] else []) = (if ty_V T x.2.1 = 0 then [(5, x.2.1)] else []) ++ []
    rw [t1, List.append_nil]
    by_cases d : ty_V T x.2.1 = 0
    · rw [if_pos d, if_pos (by omega)]
    · rw [if_neg d, if_neg (by omega)]
  rw [if_neg c6, if_neg c6]
  by_cases c7 : x.1 = 7
  · rw [if_pos c7, if_pos c7]
    show (ty_fi T (ty_Lt T (ty_tok (nI x.2.1))) (ty_kn U) 0).elim [(4, ty_tok (nI x.2.1))] (fun o => (ty_fi T (ty_Lt T (ty_tok (nI x.2.2))) (ty_vn U o) 0).elim [(4, ty_tok (nI x.2.2))] (fun w => if o ≠ k ∧ ty_scr U o w = true then [(6, ty_tok (nI x.2.2))] else [])) = [] ++ (ta_qe T U lv (0, 700 * lv + p, 5 * lv + k, x.2.1, x.2.2) ++ [])
    rw [t1, t2, List.nil_append, List.append_nil]
    unfold ta_qe
    show _ = (ty_fi T (ty_Lt T x.2.1) (ty_kn U) 0).elim [(4, x.2.1)] (fun o => (ty_fi T (ty_Lt T x.2.2) (ty_vn U o) 0).elim [(4, x.2.2)] (fun w => if 0 = 0 ∧ 5 * lv + k ≠ 5 * lv + o ∧ ty_scr U o w = true then [(6, x.2.2)] else []))
    cases ty_fi T (ty_Lt T x.2.1) (ty_kn U) 0 with
    | none => rfl
    | some o =>
      show (ty_fi T (ty_Lt T x.2.2) (ty_vn U o) 0).elim _ _ = (ty_fi T (ty_Lt T x.2.2) (ty_vn U o) 0).elim _ _
      cases ty_fi T (ty_Lt T x.2.2) (ty_vn U o) 0 with
      | none => rfl
      | some w =>
        show (if o ≠ k ∧ ty_scr U o w = true then [(6, x.2.2)] else []) = if 0 = 0 ∧ 5 * lv + k ≠ 5 * lv + o ∧ ty_scr U o w = true then [(6, x.2.2)] else []
        by_cases d : o ≠ k ∧ ty_scr U o w = true
        · rw [if_pos d, if_pos ⟨rfl, by omega, d.2⟩]
        · rw [if_neg d, if_neg (fun z => d ⟨by omega, z.2.2⟩)]
  rw [if_neg c7, if_neg c7]
  by_cases c8 : x.1 = 8
  · rw [if_pos c8, if_pos c8]
    show (if ty_fi T (ty_Lt T (ty_tok (nI x.2.1))) (ty_kn U) 0 = none then [(4, ty_tok (nI x.2.1))] else []) = [] ++ (ta_qe T U lv (1, 700 * lv + p, 5 * lv + k, x.2.1, 0) ++ [])
    rw [t1, List.nil_append, List.append_nil]
    unfold ta_qe
    show _ = (ty_fi T (ty_Lt T x.2.1) (ty_kn U) 0).elim [(4, x.2.1)] (fun o => [])
    cases ty_fi T (ty_Lt T x.2.1) (ty_kn U) 0 with
    | none => rfl
    | some o => rfl
  rw [if_neg c8, if_neg c8]
  unfold tz_ev
  show (if x.1 + 18 = 23 then _ else _) = _
  rw [if_neg (show ¬ x.1 + 18 = 23 by omega)]
  show (if x.1 + 18 = 20 then _ else _) = _
  rw [if_neg (show ¬ x.1 + 18 = 20 by omega)]
  show (if x.1 + 18 = 21 then _ else _) = _
  rw [if_neg (show ¬ x.1 + 18 = 21 by omega)]
  show (if x.1 + 18 = 22 then _ else _) = _
  rw [if_neg (show ¬ x.1 + 18 = 22 by omega)]
  show (if x.1 + 18 = 7 then _ else _) = _
  rw [if_neg (show ¬ x.1 + 18 = 7 by omega)]
  show (if x.1 + 18 = 11 ∨ x.1 + 18 = 12 then _ else _) = _
  rw [if_neg (show ¬ (x.1 + 18 = 11 ∨ x.1 + 18 = 12) by omega)]
  rfl
theorem ta_sameO (hK : U.2[k]? = some K) : ∀ (o : List ty_Uo) (p : Nat), ty_vs T o → ta_same ((o.map tz_uc).flatMap (tz_ev T U k)) (o.flatMap (ta_oe T (ta_X1 lv (ty_sn U) k K))) ((ta_oqs (ta_X1 lv (ty_sn U) k K) p o).flatMap (ta_qe T U lv))
  | [], _, _ => ta_same.nil
  | x :: o, p, h => by
    rw [List.map_cons, List.flatMap_cons, List.flatMap_cons, ta_oqs, List.flatMap_append]
    refine ta_same.app ?_ (ta_sameO hK o (p + 1) (fun y hy => h y (List.mem_cons_of_mem _ hy)))
    rw [ta_same1 (lv := lv) hK p (h x (List.mem_cons_self ..))]
    exact fun e => List.mem_append
/-- a LIT -/
theorem ta_sameL (hK : U.2[k]? = some K) {l : ty_Li} (t p : Nat) (h : ty_vL T l) : ta_same ((tz_lc l t).flatMap (tz_ev T U k)) ((l.2.2.1 ++ l.2.2.2).flatMap (ta_oe T (ta_X1 lv (ty_sn U) k K))) ((ta_oqs (ta_X1 lv (ty_sn U) k K) p (l.2.2.1 ++ l.2.2.2)).flatMap (ta_qe T U lv)) := by
  obtain ⟨h4, h1, h2⟩ := h
  have g := ta_sameO (T := T) (lv := lv) hK (l.2.2.1 ++ l.2.2.2) p (ty_vs_app h1 h2)
  have e : (tz_lc l t).flatMap (tz_ev T U k) = ((l.2.2.1 ++ l.2.2.2).map tz_uc).flatMap (tz_ev T U k) := by
    unfold tz_lc
    rw [← List.append_assoc, ← List.map_append, List.flatMap_append, List.flatMap_cons, List.flatMap_nil, List.append_nil]
    have : tz_ev T U k (31 + l.2.1, tw_B l.1, nI t) = [] := by
      unfold tz_ev
      show (if 31 + l.2.1 = 23 then _ else _) = _
      rw [if_neg (by omega)]
      show (if 31 + l.2.1 = 20 then _ else _) = _
      rw [if_neg (by omega)]
      show (if 31 + l.2.1 = 21 then _ else _) = _
      rw [if_neg (by omega)]
      show (if 31 + l.2.1 = 22 then _ else _) = _
      rw [if_neg (by omega)]
      show (if 31 + l.2.1 = 7 then _ else _) = _
      rw [if_neg (by omega)]
      show (if 31 + l.2.1 = 11 ∨ 31 + l.2.1 = 12 then _ else _) = _
      rw [if_neg (by omega)]
    rw [this, List.append_nil]
  rw [e]
  exact g
theorem ta_sameLs (hK : U.2[k]? = some K) {b en : Nat} : ∀ (ls : List ty_Lf) (q p : Nat), (∀ l ∈ ls, ty_vL T l.2) → ta_same ((tz_lco b en q ls).flatMap (tz_ev T U k)) ((ta_lop ls).flatMap (ta_oe T (ta_X1 lv (ty_sn U) k K))) ((ta_oqs (ta_X1 lv (ty_sn U) k K) p (ta_lop ls)).flatMap (ta_qe T U lv))
  | [], _, _, _ => ta_same.nil
  | l :: ls, q, p, h => by
    have e : ta_lop (l :: ls) = (l.2.2.2.1 ++ l.2.2.2.2) ++ ta_lop ls := rfl
    have h1 := h l (List.mem_cons_self ..)
    have h2 : ∀ x ∈ ls, ty_vL T x.2 := fun x hx => h x (List.mem_cons_of_mem _ hx)
    rw [e, tz_lco, ta_oqs_app]
    by_cases c : l.1 = true
    · rw [if_pos c, List.flatMap_cons]
      have : tz_ev T U k (14, nI 0, nI b) = [] := rfl
      rw [this, List.nil_append]
      have g := (ta_sameL (lv := lv) hK (tz_tg (q + 1 + ty_ln l.2) en ls) p h1).app (ta_sameLs hK (b := b) (en := en) ls (q + 1 + ty_ln l.2) (p + (l.2.2.2.1 ++ l.2.2.2.2).length) h2)
      rw [← List.flatMap_append, ← List.flatMap_append, ← List.flatMap_append] at g
      exact g
    · rw [if_neg c]
      have g := (ta_sameL (lv := lv) hK (tz_tg (q + ty_ln l.2) en ls) p h1).app (ta_sameLs hK (b := b) (en := en) ls (q + ty_ln l.2) (p + (l.2.2.2.1 ++ l.2.2.2.2).length) h2)
      rw [← List.flatMap_append, ← List.flatMap_append, ← List.flatMap_append] at g
      exact g
/-- a WISH -/
theorem ta_sameW (hK : U.2[k]? = some K) {w : ty_Wi} (p i : Nat) (h : ty_vW T w) : ta_same ((tz_wc w).flatMap (tz_ev T U k)) (ta_we T (ta_X1 lv (ty_sn U) k K) w) ((ta_wq (ta_X1 lv (ty_sn U) k K) p i w).flatMap (ta_qe T U lv)) := by
  obtain ⟨h4, h1, -, -, b1, b2⟩ := h
  have ev : ty_vn U k = K.2.1.map (fun x => x.1) := by unfold ty_vn; rw [hK]
  have t1 := ty_tok_nI (t := w.2.1) (by omega)
  have t2 := ty_tok_nI (t := w.2.2.1) (by omega)
  have g := ta_sameO (T := T) (lv := lv) hK w.2.2.2 p h1
  unfold tz_wc ta_we ta_wq
  rw [List.flatMap_append, List.flatMap_cons, List.flatMap_nil, List.append_nil, List.flatMap_append]
  -- what it does itself
  have own : ta_same (tz_ev T U k (tc_wop w.1, nI w.2.1, nI w.2.2.1)) (if (w.1 = 0 ∨ w.1 = 2 ∨ w.1 = 3) ∧ ty_fi T (ty_Lt T w.2.1) (K.2.1.map (fun x => x.1)) 0 = none then [(4, w.2.1)] else []) ((if w.1 = 2 ∨ w.1 = 3 then [((2, i, 5 * lv + k, w.2.2.1, w.2.1) : ta_Qu)] else []).flatMap (ta_qe T U lv)) := by
    have q2 : ta_qe T U lv (2, i, 5 * lv + k, w.2.2.1, w.2.1) = (ty_fi T (ty_Lt T w.2.2.1) (ty_kn U) 0).elim [(4, w.2.2.1)] (fun o => if ty_fi T (ty_Lt T w.2.1) (ty_vn U o) 0 = none then [(4, w.2.2.1)] else []) := by
      unfold ta_qe
      show (ty_fi T (ty_Lt T w.2.2.1) (ty_kn U) 0).elim [(4, w.2.2.1)] (fun o => (ty_fi T (ty_Lt T w.2.1) (ty_vn U o) 0).elim [(4, w.2.2.1)] (fun w' => [])) = _
      cases ty_fi T (ty_Lt T w.2.2.1) (ty_kn U) 0 with
      | none => rfl
      | some o =>
        show (ty_fi T (ty_Lt T w.2.1) (ty_vn U o) 0).elim [(4, w.2.2.1)] (fun w' => []) = if ty_fi T (ty_Lt T w.2.1) (ty_vn U o) 0 = none then [(4, w.2.2.1)] else []
        cases ty_fi T (ty_Lt T w.2.1) (ty_vn U o) 0 with
        | none => rfl
        | some w' => rfl
    have mv : ∀ c, c = 11 ∨ c = 12 → tz_ev T U k (c, nI w.2.1, nI w.2.2.1) = (ty_fi T (ty_Lt T w.2.2.1) (ty_kn U) 0).elim [(4, w.2.2.1)] (fun o => if ty_fi T (ty_Lt T w.2.1) (ty_vn U o) 0 = none then [(4, w.2.2.1)] else []) ++ (if ty_fi T (ty_Lt T w.2.1) (ty_vn U k) 0 = none then [(4, w.2.1)] else []) := by
      intro c hc
      have : tz_ev T U k (c, nI w.2.1, nI w.2.2.1) = (ty_fi T (ty_Lt T (ty_tok (nI w.2.2.1))) (ty_kn U) 0).elim [(4, ty_tok (nI w.2.2.1))] (fun o => if ty_fi T (ty_Lt T (ty_tok (nI w.2.1))) (ty_vn U o) 0 = none then [(4, ty_tok (nI w.2.2.1))] else []) ++ (if ty_fi T (ty_Lt T (ty_tok (nI w.2.1))) (ty_vn U k) 0 = none then [(4, ty_tok (nI w.2.1))] else []) := by
        rcases hc with rfl | rfl <;> rfl
      rw [this, t1, t2]
    have c5 : w.1 = 0 ∨ w.1 = 1 ∨ w.1 = 2 ∨ w.1 = 3 ∨ w.1 = 4 := by omega
    have two : ∀ c, c = 11 ∨ c = 12 → tc_wop w.1 = c → (w.1 = 2 ∨ w.1 = 3) → ta_same (tz_ev T U k (tc_wop w.1, nI w.2.1, nI w.2.2.1)) (if (w.1 = 0 ∨ w.1 = 2 ∨ w.1 = 3) ∧ ty_fi T (ty_Lt T w.2.1) (K.2.1.map (fun x => x.1)) 0 = none then [(4, w.2.1)] else []) ((if w.1 = 2 ∨ w.1 = 3 then [((2, i, 5 * lv + k, w.2.2.1, w.2.1) : ta_Qu)] else []).flatMap (ta_qe T U lv)) := by
      intro c hc e1 e2
      rw [e1, mv c hc, ev, if_pos e2, List.flatMap_cons, List.flatMap_nil, List.append_nil, q2]
      have : (if (w.1 = 0 ∨ w.1 = 2 ∨ w.1 = 3) ∧ ty_fi T (ty_Lt T w.2.1) (K.2.1.map (fun x => x.1)) 0 = none then [(4, w.2.1)] else []) = if ty_fi T (ty_Lt T w.2.1) (K.2.1.map (fun x => x.1)) 0 = none then [(4, w.2.1)] else [] := by
        by_cases d : ty_fi T (ty_Lt T w.2.1) (K.2.1.map (fun x => x.1)) 0 = none
        · rw [if_pos d, if_pos ⟨Or.inr e2, d⟩]
        · rw [if_neg d, if_neg (fun z => d z.2)]
      rw [this]
      intro e
      rw [List.mem_append]
      exact Or.comm
    rcases c5 with c | c | c | c | c
    · rw [c]
      show ta_same (if ty_fi T (ty_Lt T (ty_tok (nI w.2.1))) (ty_vn U k) 0 = none then [(4, ty_tok (nI w.2.1))] else []) (if (0 = 0 ∨ 0 = 2 ∨ 0 = 3) ∧ ty_fi T (ty_Lt T w.2.1) (K.2.1.map (fun x => x.1)) 0 = none then [(4, w.2.1)] else []) []
      rw [t1, ev]
      have : (if (0 = 0 ∨ 0 = 2 ∨ 0 = 3) ∧ ty_fi T (ty_Lt T w.2.1) (K.2.1.map (fun x => x.1)) 0 = none then [(4, w.2.1)] else []) = if ty_fi T (ty_Lt T w.2.1) (K.2.1.map (fun x => x.1)) 0 = none then [(4, w.2.1)] else [] := by
        by_cases d : ty_fi T (ty_Lt T w.2.1) (K.2.1.map (fun x => x.1)) 0 = none
        · rw [if_pos d, if_pos ⟨Or.inl rfl, d⟩]
        · rw [if_neg d, if_neg (fun z => d z.2)]
      rw [this]
      exact fun e => ⟨Or.inl, fun z => z.elim id (fun y => (by cases y))⟩
    · rw [if_neg (fun z => by have := z.1; omega), if_neg (by omega), c]
      exact ta_same.nil
    · exact two 11 (Or.inl rfl) (by rw [c]; rfl) (Or.inl c)
    · exact two 12 (Or.inr rfl) (by rw [c]; rfl) (Or.inr c)
    · rw [if_neg (fun z => by have := z.1; omega), if_neg (by omega), c]
      exact ta_same.nil
  intro e
  have a := g e
  have b := own e
  rw [List.mem_append, List.mem_append, List.mem_append, a, b]
  exact ⟨fun z => z.elim (fun z => z.elim (fun y => Or.inl (Or.inr y)) (fun y => Or.inr (Or.inl y))) (fun z => z.elim (fun y => Or.inl (Or.inl y)) (fun y => Or.inr (Or.inr y))), fun z => z.elim (fun z => z.elim (fun y => Or.inr (Or.inl y)) (fun y => Or.inl (Or.inl y))) (fun z => z.elim (fun y => Or.inl (Or.inr y)) (fun y => Or.inr (Or.inr y)))⟩
end TBV
