/-! THE MODEL READS: its questions, where they stand and of which NAMES -/
def ta_qd (a b c d : Nat) (Q : List ta_Qu) : Prop := (a ≤ b ∧ c ≤ d) ∧ (∀ x ∈ Q, (x.1 ≠ 2 → a ≤ x.2.1 ∧ x.2.1 < b) ∧ (x.1 = 2 → c ≤ x.2.1 ∧ x.2.1 < d)) ∧ Q.Pairwise (fun x y => ¬ ((x.1 = 2 ↔ y.1 = 2) ∧ x.2.1 = y.2.1))
theorem ta_qd.nil {a b c d : Nat} (h : a ≤ b) (h2 : c ≤ d) : ta_qd a b c d [] := ⟨⟨h, h2⟩, fun x hx => (by cases hx), List.Pairwise.nil⟩
theorem ta_qd.one {a b c d : Nat} {x : ta_Qu} (h : a ≤ b) (h2 : c ≤ d) (h3 : x.1 ≠ 2 → a ≤ x.2.1 ∧ x.2.1 < b) (h4 : x.1 = 2 → c ≤ x.2.1 ∧ x.2.1 < d) : ta_qd a b c d [x] := by
  refine ⟨⟨h, h2⟩, fun y hy => ?_, ?_⟩
  · rw [List.mem_singleton.mp hy]; exact ⟨h3, h4⟩
  · rw [List.pairwise_cons]
    exact ⟨fun y hy => (by cases hy), List.Pairwise.nil⟩
theorem ta_qd.app {a b c d e f : Nat} {Q Q' : List ta_Qu} (h : ta_qd a b c d Q) (h' : ta_qd b e d f Q') : ta_qd a e c f (Q ++ Q') := by
  obtain ⟨⟨a1, a2⟩, a3, a4⟩ := h
  obtain ⟨⟨b1, b2⟩, b3, b4⟩ := h'
  refine ⟨⟨by omega, by omega⟩, fun x hx => ?_, ?_⟩
  · rcases List.mem_append.mp hx with y | y
    · have := a3 x y
      exact ⟨fun z => by have := this.1 z; omega, fun z => by have := this.2 z; omega⟩
    · have := b3 x y
      exact ⟨fun z => by have := this.1 z; omega, fun z => by have := this.2 z; omega⟩
  · rw [List.pairwise_append]
    refine ⟨a4, b4, fun x hx y hy z => ?_⟩
    have p := a3 x hx
    have q := b3 y hy
    by_cases c2 : x.1 = 2
    · have := p.2 c2
      have := q.2 (z.1.mp c2)
      omega
    · have := p.1 c2
      have := q.1 (fun w => c2 (z.1.mpr w))
      omega
theorem ta_qd.mn {a b c d d' : Nat} {Q : List ta_Qu} (h : ta_qd a b c d Q) (hd : d ≤ d') : ta_qd a b c d' Q := by
  obtain ⟨⟨a1, a2⟩, a3, a4⟩ := h
  exact ⟨⟨a1, by omega⟩, fun x hx => ⟨(a3 x hx).1, fun z => by have := (a3 x hx).2 z; omega⟩, a4⟩
theorem ta_oqs_qd (X : ta_X) (c : Nat) : ∀ (o : List ty_Uo) (p : Nat), ta_qd (700 * X.1 + p) (700 * X.1 + (p + o.length)) c c (ta_oqs X p o)
  | [], p => ta_qd.nil (Nat.le_refl _) (Nat.le_refl _)
  | x :: o, p => by
    rw [ta_oqs, List.length_cons, show p + (o.length + 1) = p + 1 + o.length by omega]
    refine ta_qd.app (b := 700 * X.1 + (p + 1)) (d := c) ?_ (ta_oqs_qd X c o (p + 1))
    unfold ta_oq
    by_cases c7 : x.1 = 7
    · rw [if_pos c7]
      exact ta_qd.one (by omega) (Nat.le_refl _) (fun _ => ⟨by show 700 * X.1 + p ≤ 700 * X.1 + p; omega, by show 700 * X.1 + p < 700 * X.1 + (p + 1); omega⟩) (fun z => absurd (show 0 = 2 from z) (by decide))
    · rw [if_neg c7]
      by_cases c8 : x.1 = 8
      · rw [if_pos c8]
        exact ta_qd.one (by omega) (Nat.le_refl _) (fun _ => ⟨by show 700 * X.1 + p ≤ 700 * X.1 + p; omega, by show 700 * X.1 + p < 700 * X.1 + (p + 1); omega⟩) (fun z => absurd (show 1 = 2 from z) (by decide))
      · rw [if_neg c8]
        exact ta_qd.nil (by omega) (Nat.le_refl _)
theorem ta_wqs_qd (X : ta_X) (r : Nat) : ∀ (ws : List ty_Wi) (p i : Nat), ta_qd (700 * X.1 + p) (700 * X.1 + (p + (ta_wop ws).length)) (6 * r + i) (6 * r + (i + ws.length)) (ta_wqs X r p i ws)
  | [], p, i => ta_qd.nil (Nat.le_refl _) (Nat.le_refl _)
  | w :: ws, p, i => by
    rw [ta_wqs, List.length_cons, ta_wop_len, show p + (w.2.2.2.length + (ta_wop ws).length) = p + w.2.2.2.length + (ta_wop ws).length by omega, show i + (ws.length + 1) = i + 1 + ws.length by omega]
    refine ta_qd.app (b := 700 * X.1 + (p + w.2.2.2.length)) (d := 6 * r + (i + 1)) ?_ (ta_wqs_qd X r ws (p + w.2.2.2.length) (i + 1))
    unfold ta_wq
    refine ta_qd.app (b := 700 * X.1 + (p + w.2.2.2.length)) (d := 6 * r + i) (ta_oqs_qd X _ w.2.2.2 p) ?_
    by_cases c : w.1 = 2 ∨ w.1 = 3
    · rw [if_pos c]
      exact ta_qd.one (Nat.le_refl _) (by omega) (fun z => absurd rfl z) (fun _ => ⟨by show 6 * r + i ≤ 6 * r + i; omega, by show 6 * r + i < 6 * r + (i + 1); omega⟩)
    · rw [if_neg c]
      exact ta_qd.nil (Nat.le_refl _) (by omega)
theorem ta_rqs_qd (X : ta_X) : ∀ (rs : List ty_Ru) (p i : Nat), (∀ r ∈ rs, r.2.length ≤ 6) → ta_qd (700 * X.1 + p) (700 * X.1 + (p + (ta_rops rs).length)) (48 * X.2.1 + 6 * i) (48 * X.2.1 + 6 * (i + rs.length)) (ta_rqs X p i rs)
  | [], p, i, _ => ta_qd.nil (Nat.le_refl _) (Nat.le_refl _)
  | r :: rs, p, i, h => by
    have l6 := h r (List.mem_cons_self ..)
    rw [ta_rqs, List.length_cons, ta_rops_len, show p + ((ta_rop r).length + (ta_rops rs).length) = p + (ta_rop r).length + (ta_rops rs).length by omega, show i + (rs.length + 1) = i + 1 + rs.length by omega]
    refine ta_qd.app (b := 700 * X.1 + (p + (ta_rop r).length)) (d := 48 * X.2.1 + 6 * (i + 1)) ?_ (ta_rqs_qd X rs _ (i + 1) (fun x hx => h x (List.mem_cons_of_mem _ hx)))
    have e : (ta_rop r).length = (ta_lop r.1).length + (ta_wop r.2).length := List.length_append
    rw [e, ← Nat.add_assoc p]
    refine ta_qd.app (b := 700 * X.1 + (p + (ta_lop r.1).length)) (d := 48 * X.2.1 + 6 * i) (ta_oqs_qd X _ _ p) ?_
    have g := ta_wqs_qd X (8 * X.2.1 + i) r.2 (p + (ta_lop r.1).length) 0
    rw [show 6 * (8 * X.2.1 + i) + 0 = 48 * X.2.1 + 6 * i by omega] at g
    exact g.mn (by omega)
theorem ta_kQ_qd (lv : Nat) (SN : List Nat) : ∀ (Ks : List ty_Ki) (k p : Nat), (∀ K ∈ Ks, K.2.2.length ≤ 8 ∧ ∀ r ∈ K.2.2, r.2.length ≤ 6) → ta_qd (700 * lv + p) (700 * lv + (p + ta_kz Ks)) (48 * (5 * lv + k)) (48 * (5 * lv + (k + Ks.length))) (ta_kQ lv SN k p Ks)
  | [], k, p, _ => ta_qd.nil (Nat.le_refl _) (Nat.le_refl _)
  | K :: Ks, k, p, h => by
    obtain ⟨l8, l6⟩ := h K (List.mem_cons_self ..)
    rw [ta_kQ, List.length_cons, ta_kz, show p + ((ta_rops K.2.2).length + ta_kz Ks) = p + (ta_rops K.2.2).length + ta_kz Ks by omega, show k + (Ks.length + 1) = k + 1 + Ks.length by omega]
    refine ta_qd.app (b := 700 * lv + (p + (ta_rops K.2.2).length)) (d := 48 * (5 * lv + (k + 1))) ?_ (ta_kQ_qd lv SN Ks (k + 1) _ (fun x hx => h x (List.mem_cons_of_mem _ hx)))
    have g := ta_rqs_qd (ta_X1 lv SN k K) K.2.2 p 0 l6
    exact ta_qd.mn (show ta_qd (700 * lv + p) _ (48 * (5 * lv + k) + 0) _ _ from g) (show 48 * (5 * lv + k) + 6 * (0 + K.2.2.length) ≤ 48 * (5 * lv + (k + 1)) by omega)
/-- the NAMES asked for are such -/
def ta_qn (T : List tw_Tk) (Q : List ta_Qu) : Prop := ∀ x ∈ Q, x.1 ≤ 2 ∧ ty_nm T x.2.2.2.1 ∧ (x.1 ≠ 1 → ty_nm T x.2.2.2.2)
theorem ta_qn.nil {T : List tw_Tk} : ta_qn T [] := fun x hx => by cases hx
theorem ta_qn.app {T : List tw_Tk} {Q Q' : List ta_Qu} (h : ta_qn T Q) (h' : ta_qn T Q') : ta_qn T (Q ++ Q') := fun x hx => (List.mem_append.mp hx).elim (h x) (h' x)
theorem ta_oqs_qn (T : List tw_Tk) (X : ta_X) : ∀ (o : List ty_Uo) (p : Nat), ty_vs T o → ta_qn T (ta_oqs X p o)
  | [], _, _ => ta_qn.nil
  | x :: o, p, h => by
    rw [ta_oqs]
    refine ta_qn.app ?_ (ta_oqs_qn T X o (p + 1) (fun y hy => h y (List.mem_cons_of_mem _ hy)))
    obtain ⟨-, -, -, h7, h8, -⟩ := h x (List.mem_cons_self ..)
    unfold ta_oq
    by_cases c7 : x.1 = 7
    · rw [if_pos c7]
      intro y hy
      rw [List.mem_singleton.mp hy]
      exact ⟨by show 0 ≤ 2; omega, (h7 c7).1, fun _ => (h7 c7).2⟩
    · rw [if_neg c7]
      by_cases c8 : x.1 = 8
      · rw [if_pos c8]
        intro y hy
        rw [List.mem_singleton.mp hy]
        exact ⟨by show 1 ≤ 2; omega, h8 c8, fun z => absurd rfl z⟩
      · rw [if_neg c8]
        exact ta_qn.nil
theorem ta_wqs_qn (T : List tw_Tk) (X : ta_X) (r : Nat) : ∀ (ws : List ty_Wi) (p i : Nat), (∀ w ∈ ws, ty_vW T w) → ta_qn T (ta_wqs X r p i ws)
  | [], _, _, _ => ta_qn.nil
  | w :: ws, p, i, h => by
    rw [ta_wqs]
    obtain ⟨-, h1, h2, h3, -⟩ := h w (List.mem_cons_self ..)
    refine ta_qn.app (ta_qn.app (ta_oqs_qn T X _ _ h1) ?_) (ta_wqs_qn T X r ws _ _ (fun y hy => h y (List.mem_cons_of_mem _ hy)))
    by_cases c : w.1 = 2 ∨ w.1 = 3
    · rw [if_pos c]
      intro y hy
      rw [List.mem_singleton.mp hy]
      exact ⟨Nat.le_refl _, h3 c, fun _ => h2 (Or.inr c)⟩
    · rw [if_neg c]
      exact ta_qn.nil
theorem ty_vs_lop {T : List tw_Tk} : ∀ (ls : List ty_Lf), (∀ l ∈ ls, ty_vL T l.2) → ty_vs T (ta_lop ls)
  | [], _ => fun x hx => by cases hx
  | l :: ls, h => by
    have := h l (List.mem_cons_self ..)
    unfold ta_lop
    rw [List.flatMap_cons]
    exact ty_vs_app (ty_vs_app this.2.1 this.2.2) (ty_vs_lop ls (fun y hy => h y (List.mem_cons_of_mem _ hy)))
theorem ta_rqs_qn (T : List tw_Tk) (X : ta_X) : ∀ (rs : List ty_Ru) (p i : Nat), (∀ r ∈ rs, ty_vR T r) → ta_qn T (ta_rqs X p i rs)
  | [], _, _, _ => ta_qn.nil
  | r :: rs, p, i, h => by
    rw [ta_rqs]
    obtain ⟨h1, h2, -⟩ := h r (List.mem_cons_self ..)
    exact ta_qn.app (ta_qn.app (ta_oqs_qn T X _ _ (ty_vs_lop _ h1)) (ta_wqs_qn T X _ _ _ _ h2)) (ta_rqs_qn T X rs _ _ (fun y hy => h y (List.mem_cons_of_mem _ hy)))
theorem ta_kQ_qn (T : List tw_Tk) (lv : Nat) (SN : List Nat) : ∀ (Ks : List ty_Ki) (k p : Nat), (∀ K ∈ Ks, ty_vK T K) → ta_qn T (ta_kQ lv SN k p Ks)
  | [], _, _, _ => ta_qn.nil
  | K :: Ks, k, p, h => by
    rw [ta_kQ]
    obtain ⟨-, -, h1, -⟩ := h K (List.mem_cons_self ..)
    exact ta_qn.app (ta_rqs_qn T _ _ _ _ h1) (ta_kQ_qn T lv SN Ks _ _ (fun y hy => h y (List.mem_cons_of_mem _ hy)))
/-- of which KIND -/
theorem ta_oqs_kk (X : ta_X) : ∀ (o : List ty_Uo) (p : Nat), ∀ x ∈ ta_oqs X p o, x.2.2.1 = X.2.1
  | [], _, x, h => by cases h
  | y :: o, p, x, h => by
    rw [ta_oqs] at h
    rcases List.mem_append.mp h with h | h
    · unfold ta_oq at h
      by_cases c7 : y.1 = 7
      · rw [if_pos c7] at h; rw [List.mem_singleton.mp h]
      · rw [if_neg c7] at h
        by_cases c8 : y.1 = 8
        · rw [if_pos c8] at h; rw [List.mem_singleton.mp h]
        · rw [if_neg c8] at h; cases h
    · exact ta_oqs_kk X o (p + 1) x h
theorem ta_wqs_kk (X : ta_X) (r : Nat) : ∀ (ws : List ty_Wi) (p i : Nat), ∀ x ∈ ta_wqs X r p i ws, x.2.2.1 = X.2.1
  | [], _, _, x, h => by cases h
  | w :: ws, p, i, x, h => by
    rw [ta_wqs] at h
    rcases List.mem_append.mp h with h | h
    · unfold ta_wq at h
      rcases List.mem_append.mp h with h | h
      · exact ta_oqs_kk X _ _ x h
      · by_cases c : w.1 = 2 ∨ w.1 = 3
        · rw [if_pos c] at h; rw [List.mem_singleton.mp h]
        · rw [if_neg c] at h; cases h
    · exact ta_wqs_kk X r ws _ _ x h
theorem ta_rqs_kk (X : ta_X) : ∀ (rs : List ty_Ru) (p i : Nat), ∀ x ∈ ta_rqs X p i rs, x.2.2.1 = X.2.1
  | [], _, _, x, h => by cases h
  | r :: rs, p, i, x, h => by
    rw [ta_rqs] at h
    rcases List.mem_append.mp h with h | h
    · rcases List.mem_append.mp h with h | h
      · exact ta_oqs_kk X _ _ x h
      · exact ta_wqs_kk X _ _ _ _ x h
    · exact ta_rqs_kk X rs _ _ x h
theorem ta_kQ_kk (lv : Nat) (SN : List Nat) : ∀ (Ks : List ty_Ki) (k p : Nat), ∀ x ∈ ta_kQ lv SN k p Ks, x.2.2.1 < 5 * lv + (k + Ks.length)
  | [], _, _, x, h => by cases h
  | K :: Ks, k, p, x, h => by
    rw [ta_kQ] at h
    rw [List.length_cons]
    rcases List.mem_append.mp h with h | h
    · have e : x.2.2.1 = 5 * lv + k := ta_rqs_kk _ _ _ _ x h
      omega
    · have := ta_kQ_kk lv SN Ks _ _ x h
      omega
