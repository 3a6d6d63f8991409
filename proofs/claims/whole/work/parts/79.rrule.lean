/-! THE CLASS'S READER: a RULE -/
abbrev ty_Lf : Type := Bool × ty_Li
def ty_ln (l : ty_Li) : Nat := l.2.2.1.length + l.2.2.2.length + 1
theorem tz_lc_len (l : ty_Li) (t : Nat) : (tz_lc l t).length = ty_ln l := by
  unfold tz_lc ty_ln
  rw [List.length_append, List.length_append, List.length_map, List.length_map, List.length_singleton]
  omega
/-- where LITS of the last ALL go on -/
def tz_tg : Nat → Nat → List ty_Lf → Nat
  | _, e, [] => e
  | p, e, l :: ls => if l.1 = true then p + 1 else tz_tg (p + ty_ln l.2) e ls
def tz_lco (b e : Nat) : Nat → List ty_Lf → List tz_Cd
  | _, [] => []
  | p, l :: ls => if l.1 = true then (14, nI 0, nI b) :: (tz_lc l.2 (tz_tg (p + 1 + ty_ln l.2) e ls) ++ tz_lco b e (p + 1 + ty_ln l.2) ls) else tz_lc l.2 (tz_tg (p + ty_ln l.2) e ls) ++ tz_lco b e (p + ty_ln l.2) ls
def ty_sz : List ty_Lf → Nat
  | [] => 0
  | l :: ls => (if l.1 = true then 1 else 0) + ty_ln l.2 + ty_sz ls
theorem tz_lco_len {b e : Nat} : ∀ (ls : List ty_Lf) (p : Nat), (tz_lco b e p ls).length = ty_sz ls
  | [], _ => rfl
  | l :: ls, p => by
    rw [tz_lco, ty_sz]
    by_cases c : l.1 = true
    · rw [if_pos c, if_pos c, List.length_cons, List.length_append, tz_lc_len, tz_lco_len ls]; omega
    · rw [if_neg c, if_neg c, List.length_append, tz_lc_len, tz_lco_len ls]; omega
theorem ty_sz_ge : ∀ (ls : List ty_Lf), ls.length ≤ ty_sz ls
  | [] => Nat.le_refl _
  | l :: ls => by
    have := ty_sz_ge ls
    rw [ty_sz, List.length_cons]
    unfold ty_ln
    omega
theorem ty_sz_app : ∀ (ls ms : List ty_Lf), ty_sz (ls ++ ms) = ty_sz ls + ty_sz ms
  | [], ms => by rw [List.nil_append, ty_sz]; omega
  | l :: ls, ms => by rw [List.cons_append, ty_sz, ty_sz, ty_sz_app ls ms]; omega
theorem tz_tg_app : ∀ (ls ms : List ty_Lf) (p e : Nat), tz_tg p e (ls ++ ms) = tz_tg p (tz_tg (p + ty_sz ls) e ms) ls
  | [], ms, p, e => rfl
  | l :: ls, ms, p, e => by
    rw [List.cons_append, tz_tg, tz_tg, ty_sz]
    by_cases c : l.1 = true
    · rw [if_pos c, if_pos c]
    · rw [if_neg c, if_neg c, if_neg c, tz_tg_app ls ms, show p + ty_ln l.2 + ty_sz ls = p + (0 + ty_ln l.2 + ty_sz ls) by omega]
theorem tz_lco_app {b e : Nat} : ∀ (ls ms : List ty_Lf) (p : Nat), tz_lco b e p (ls ++ ms) = tz_lco b (tz_tg (p + ty_sz ls) e ms) p ls ++ tz_lco b e (p + ty_sz ls) ms
  | [], ms, p => rfl
  | l :: ls, ms, p => by
    rw [List.cons_append, tz_lco, tz_lco, ty_sz]
    by_cases c : l.1 = true
    · rw [if_pos c, if_pos c, if_pos c, tz_lco_app ls ms, tz_tg_app ls ms, show p + 1 + ty_ln l.2 + ty_sz ls = p + (1 + ty_ln l.2 + ty_sz ls) by omega, List.cons_append, List.append_assoc]
    · rw [if_neg c, if_neg c, if_neg c, tz_lco_app ls ms, tz_tg_app ls ms, show p + ty_ln l.2 + ty_sz ls = p + (0 + ty_ln l.2 + ty_sz ls) by omega, List.append_assoc]
/-- where the last ALL begins -/
def tz_la : Nat → Nat → List ty_Lf → Nat
  | q, _, [] => q
  | q, p, l :: ls => if l.1 = true then tz_la (p + 1) (p + 1 + ty_ln l.2) ls else tz_la q (p + ty_ln l.2) ls
theorem tz_la_app : ∀ (ls : List ty_Lf) (l : ty_Lf) (q p : Nat), tz_la q p (ls ++ [l]) = if l.1 = true then p + ty_sz ls + 1 else tz_la q p ls
  | [], l, q, p => by
    show (if l.1 = true then p + 1 else q) = _
    rw [ty_sz]
    rfl
  | x :: ls, l, q, p => by
    rw [List.cons_append, tz_la, tz_la, ty_sz]
    by_cases c : x.1 = true
    · rw [if_pos c, if_pos c, if_pos c, tz_la_app ls l]
      by_cases d : l.1 = true
      · rw [if_pos d, if_pos d]; omega
      · rw [if_neg d, if_neg d]
    · rw [if_neg c, if_neg c, if_neg c, tz_la_app ls l]
      by_cases d : l.1 = true
      · rw [if_pos d, if_pos d]; omega
      · rw [if_neg d, if_neg d]
theorem tz_la_le : ∀ (ls : List ty_Lf) (q p : Nat), q ≤ p → tz_la q p ls ≤ p + ty_sz ls ∧ (ls.all (fun l => !l.1) = true → tz_la q p ls = q) ∧ (ls.all (fun l => !l.1) = false → p + 1 ≤ tz_la q p ls)
  | [], q, p, h => ⟨h, fun _ => rfl, fun z => by cases z⟩
  | l :: ls, q, p, h => by
    rw [tz_la, ty_sz, List.all_cons]
    by_cases c : l.1 = true
    · obtain ⟨a1, a2, a3⟩ := tz_la_le ls (p + 1) (p + 1 + ty_ln l.2) (by omega)
      rw [if_pos c, if_pos c, c]
      refine ⟨by omega, fun z => (by cases z), fun _ => ?_⟩
      cases e : ls.all (fun l => !l.1) with
      | true => rw [a2 e]; exact Nat.le_refl _
      | false => have := a3 e; omega
    · obtain ⟨a1, a2, a3⟩ := tz_la_le ls q (p + ty_ln l.2) (by omega)
      rw [if_neg c, if_neg c]
      have c' : l.1 = false := by cases z : l.1 with
        | true => exact absurd z c
        | false => rfl
      rw [c']
      exact ⟨by omega, fun z => a2 z, fun z => by have := a3 z; omega⟩
theorem tz_tg_no : ∀ (ls : List ty_Lf) (p e : Nat), (ls.all (fun l => !l.1) = true → tz_tg p e ls = e) ∧ (ls.all (fun l => !l.1) = false → ∀ e', tz_tg p e ls = tz_tg p e' ls)
  | [], p, e => ⟨fun _ => rfl, fun z => by cases z⟩
  | l :: ls, p, e => by
    rw [tz_tg, List.all_cons]
    by_cases c : l.1 = true
    · rw [if_pos c, c]
      refine ⟨fun z => (by cases z), fun _ e' => ?_⟩
      rw [tz_tg, if_pos c]
    · have c' : l.1 = false := by cases z : l.1 with
        | true => exact absurd z c
        | false => rfl
      obtain ⟨a1, a2⟩ := tz_tg_no ls (p + ty_ln l.2) e
      rw [if_neg c, c']
      refine ⟨fun z => a1 z, fun z e' => ?_⟩
      rw [tz_tg, if_neg c]
      exact a2 z e'
theorem tz_uc_w (x : ty_Uo) (h : x.1 ≤ 12) : (tz_uc x).1 ≤ 30 ∧ (tz_uc x).1 ≠ 14 := by
  unfold tz_uc
  repeat (first | (split; exact ⟨by show _ ≤ 30; omega, by show _ ≠ 14; omega⟩))
  exact ⟨by show x.1 + 18 ≤ 30; omega, by show x.1 + 18 ≠ 14; omega⟩
/-- sorts of an E -/
def ty_so (o : List ty_Uo) : Prop := ∀ x ∈ o, x.1 ≤ 12
def ty_Lso (l : ty_Li) : Prop := l.2.1 < 4 ∧ ty_so l.2.2.1 ∧ ty_so l.2.2.2
theorem tz_map_w {o : List ty_Uo} (h : ty_so o) : ∀ x ∈ o.map tz_uc, x.1 ≤ 30 ∧ x.1 ≠ 14 := by
  intro x hx
  obtain ⟨y, hy, rfl⟩ := List.mem_map.mp hx
  exact tz_uc_w y (h y hy)
theorem tz_lc_pat {l : ty_Li} {t a b tg i : Nat} (hl : ty_Lso l) : tz_pat 31 34 a b tg i (tz_lc l t) = tz_lc l (if a ≤ i + l.2.2.1.length + l.2.2.2.length ∧ i + l.2.2.1.length + l.2.2.2.length < b then tg else t) := by
  unfold tz_lc
  rw [tz_pat_app, tz_pat_app, List.length_map, List.length_map, tz_pat_id _ _ (fun x hx => by have := (tz_map_w hl.2.1 x hx).1; omega), tz_pat_id _ _ (fun x hx => by have := (tz_map_w hl.2.2 x hx).1; omega)]
  congr 1
  congr 1
  show [_] = [_]
  congr 1
  have := hl.1
  by_cases c : a ≤ i + l.2.2.1.length + l.2.2.2.length ∧ i + l.2.2.1.length + l.2.2.2.length < b
  · rw [if_pos c, if_pos ⟨c.1, c.2, by show 31 ≤ 31 + l.2.1; omega, by show 31 + l.2.1 ≤ 34; omega⟩]
  · rw [if_neg c, if_neg (fun z => c ⟨z.1, z.2.1⟩)]
theorem tz_lc_pato {l : ty_Li} {t a b tg i : Nat} (hl : ty_Lso l) : tz_pat 14 14 a b tg i (tz_lc l t) = tz_lc l t := by
  refine tz_pat_id _ _ (fun x hx => ?_)
  unfold tz_lc at hx
  rcases List.mem_append.mp hx with hx | hx
  · have := (tz_map_w hl.2.1 x hx).2; omega
  · rcases List.mem_append.mp hx with hx | hx
    · have := (tz_map_w hl.2.2 x hx).2; omega
    · rw [List.mem_singleton.mp hx]
      show ¬ (14 ≤ 31 + l.2.1 ∧ 31 + l.2.1 ≤ 14)
      omega
/-- LITS of the last ALL are aimed -/
theorem tz_lco_aim {b e hi tg : Nat} : ∀ (ls : List ty_Lf) (q p : Nat), (∀ l ∈ ls, ty_Lso l.2) → q ≤ p → p + ty_sz ls ≤ hi → tz_pat 31 34 (tz_la q p ls) hi tg p (tz_lco b e p ls) = tz_lco b tg p ls
  | [], q, p, _, _, _ => rfl
  | l :: ls, q, p, hs, hq, hh => by
    have h1 := hs l List.mem_cons_self
    have hs' : ∀ x ∈ ls, ty_Lso x.2 := fun x hx => hs x (List.mem_cons_of_mem _ hx)
    rw [ty_sz] at hh
    rw [tz_lco, tz_lco, tz_la]
    by_cases c : l.1 = true
    · rw [if_pos c] at hh
      rw [if_pos c, if_pos c, if_pos c]
      have g := tz_la_le ls (p + 1) (p + 1 + ty_ln l.2) (by omega)
      show _ :: tz_pat 31 34 _ hi tg (p + 1) (_ ++ _) = _
      rw [if_neg (fun z => absurd z.2.2.1 (by show ¬ 31 ≤ 14; omega)), tz_pat_app, tz_lc_len, tz_lco_aim ls (p + 1) (p + 1 + ty_ln l.2) hs' (by omega) (by omega), tz_lc_pat h1]
      congr 1
      congr 1
      congr 1
      have tn := tz_tg_no ls (p + 1 + ty_ln l.2)
      unfold ty_ln at *
      cases z : ls.all (fun l => !l.1) with
      | true =>
        rw [g.2.1 z, if_pos ⟨by omega, by omega⟩, (tn tg).1 z]
      | false =>
        have g3 := g.2.2 z
        rw [if_neg (fun y => absurd y.1 (by omega))]
        exact (tn e).2 z tg
    · rw [if_neg c] at hh
      rw [if_neg c, if_neg c, if_neg c]
      have g := tz_la_le ls q (p + ty_ln l.2) (by omega)
      rw [tz_pat_app, tz_lc_len, tz_lco_aim ls q (p + ty_ln l.2) hs' (by omega) (by omega), tz_lc_pat h1]
      congr 1
      congr 1
      have tn := tz_tg_no ls (p + ty_ln l.2)
      unfold ty_ln at *
      cases z : ls.all (fun l => !l.1) with
      | true =>
        rw [g.2.1 z, if_pos ⟨by omega, by omega⟩, (tn tg).1 z]
      | false =>
        have g3 := g.2.2 z
        rw [if_neg (fun y => absurd y.1 (by omega))]
        exact (tn e).2 z tg
/-- each `or` is aimed -/
theorem tz_lco_aimo {b e a hi tg : Nat} : ∀ (ls : List ty_Lf) (p : Nat), (∀ l ∈ ls, ty_Lso l.2) → a ≤ p → p + ty_sz ls ≤ hi → tz_pat 14 14 a hi tg p (tz_lco b e p ls) = tz_lco tg e p ls
  | [], p, _, _, _ => rfl
  | l :: ls, p, hs, hq, hh => by
    have h1 := hs l List.mem_cons_self
    have hs' : ∀ x ∈ ls, ty_Lso x.2 := fun x hx => hs x (List.mem_cons_of_mem _ hx)
    rw [ty_sz] at hh
    rw [tz_lco, tz_lco]
    by_cases c : l.1 = true
    · rw [if_pos c] at hh
      rw [if_pos c, if_pos c]
      show _ :: tz_pat 14 14 a hi tg (p + 1) (_ ++ _) = _
      have z : a ≤ p ∧ p < hi ∧ 14 ≤ (14, nI 0, nI b).1 ∧ (14, nI 0, nI b).1 ≤ 14 := ⟨hq, by omega, Nat.le_refl _, Nat.le_refl _⟩
      rw [if_pos z, tz_pat_app, tz_lc_len, tz_lco_aimo ls (p + 1 + ty_ln l.2) hs' (by omega) (by omega), tz_lc_pato h1]
    · rw [if_neg c] at hh
      rw [if_neg c, if_neg c]
      rw [tz_pat_app, tz_lc_len, tz_lco_aimo ls (p + ty_ln l.2) hs' (by omega) (by omega), tz_lc_pato h1]
