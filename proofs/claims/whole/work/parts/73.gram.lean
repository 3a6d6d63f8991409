/-! THE GRAMMAR: where a text stands, and an E -/
def ty_K (T : List tw_Tk) (i : Nat) : Nat := match T[i]? with
  | some x => x.1
  | none => 37
def ty_Pl (T : List tw_Tk) (n i : Nat) : Nat := match T[i]? with
  | some x => x.2.1
  | none => n
def ty_V (T : List tw_Tk) (i : Nat) : Nat := match T[i]? with
  | some x => x.2.2.1
  | none => 0
def ty_Lt (T : List tw_Tk) (i : Nat) : List Nat := match T[i]? with
  | some x => x.2.2.2
  | none => []
/-- a FAULT (0: none) and the TOKEN where it stands -/
abbrev ty_Ps : Type := Nat × Nat
def ty_nx (T : List tw_Tk) (s : ty_Ps) : Nat := if s.1 = 0 then ty_K T s.2 else 38
def ty_tkn (T : List tw_Tk) (k : Nat) (s : ty_Ps) : ty_Ps := if s.1 = 0 then (if ty_K T s.2 = k then (if s.2 < 500 then (0, s.2 + 1) else (2, s.2)) else (1, s.2)) else s
def ty_room (a m : Nat) (s : ty_Ps) : ty_Ps := if s.1 = 0 ∧ m ≤ a then (2, s.2) else s
def ty_sok (T : List tw_Tk) (s : ty_Ps) : Prop := s.1 ≤ 2 ∧ s.2 ≤ 500 ∧ s.2 ≤ T.length
theorem ty_K_lt {T : List tw_Tk} {i k : Nat} (h : ty_K T i = k) (hk : k ≠ 37) : i < T.length := by
  unfold ty_K at h
  cases e : T[i]? with
  | none => rw [e] at h; exact absurd h.symm hk
  | some x => exact (List.getElem?_eq_some_iff.mp e).1
theorem ty_tkn_ok {T : List tw_Tk} {k : Nat} {s : ty_Ps} (h : ty_sok T s) (hk : k ≠ 37) : ty_sok T (ty_tkn T k s) := by
  obtain ⟨h1, h2, h3⟩ := h
  unfold ty_tkn
  by_cases c1 : s.1 = 0
  · rw [if_pos c1]
    by_cases c2 : ty_K T s.2 = k
    · have := ty_K_lt c2 hk
      rw [if_pos c2]
      by_cases c3 : s.2 < 500
      · rw [if_pos c3]; exact ⟨by show 0 ≤ 2; omega, by show s.2 + 1 ≤ 500; omega, by show s.2 + 1 ≤ T.length; omega⟩
      · rw [if_neg c3]; exact ⟨by show 2 ≤ 2; omega, h2, h3⟩
    · rw [if_neg c2]; exact ⟨by show 1 ≤ 2; omega, h2, h3⟩
  · rw [if_neg c1]; exact ⟨h1, h2, h3⟩
/-- only a good taking goes on -/
theorem ty_tkn_0 {T : List tw_Tk} {k : Nat} {s : ty_Ps} (h : (ty_tkn T k s).1 = 0) : s.1 = 0 ∧ ty_K T s.2 = k ∧ s.2 < 500 ∧ (ty_tkn T k s).2 = s.2 + 1 := by
  unfold ty_tkn at h ⊢
  by_cases c1 : s.1 = 0
  · rw [if_pos c1] at h ⊢
    by_cases c2 : ty_K T s.2 = k
    · rw [if_pos c2] at h ⊢
      by_cases c3 : s.2 < 500
      · rw [if_pos c3]; exact ⟨c1, c2, c3, rfl⟩
      · rw [if_neg c3] at h; exact absurd (show 2 = 0 from h) (by decide)
    · rw [if_neg c2] at h; exact absurd (show 1 = 0 from h) (by decide)
  · rw [if_neg c1] at h; exact absurd h c1
theorem ty_room_0 {a m : Nat} {s : ty_Ps} (h : (ty_room a m s).1 = 0) : s.1 = 0 ∧ a < m ∧ ty_room a m s = s := by
  unfold ty_room at h ⊢
  by_cases c : s.1 = 0 ∧ m ≤ a
  · rw [if_pos c] at h; exact absurd (show 2 = 0 from h) (by decide)
  · rw [if_neg c] at h ⊢
    exact ⟨h, by omega, rfl⟩
theorem ty_room_ok {T : List tw_Tk} {a m : Nat} {s : ty_Ps} (h : ty_sok T s) : ty_sok T (ty_room a m s) := by
  unfold ty_room
  by_cases c : s.1 = 0 ∧ m ≤ a
  · rw [if_pos c]; exact ⟨by show 2 ≤ 2; omega, h.2⟩
  · rw [if_neg c]; exact h
theorem ty_tkn_f {T : List tw_Tk} {k : Nat} {s : ty_Ps} (h : ¬ s.1 = 0) : ty_tkn T k s = s := if_neg h
theorem ty_room_f {a m : Nat} {s : ty_Ps} (h : ¬ s.1 = 0) : ty_room a m s = s := if_neg (fun z => h z.1)
theorem ty_nx_f {T : List tw_Tk} {s : ty_Ps} (h : ¬ s.1 = 0) : ty_nx T s = 38 := if_neg h
theorem ty_nx_0 {T : List tw_Tk} {s : ty_Ps} (h : ¬ ty_nx T s = 38) : s.1 = 0 ∧ ty_nx T s = ty_K T s.2 := by
  by_cases c : s.1 = 0
  · exact ⟨c, if_pos c⟩
  · exact absurd (if_neg c) h
/-- an E not yet resolved: sort (1: a NAME), TOKENS -/
abbrev ty_Uo : Type := Nat × Nat × Nat
def ty_eO (T : List tw_Tk) : Nat → ty_Ps → Nat → List Nat → ty_Ps × Nat × List Nat
  | 0, s, op, ws => (s, op, ws)
  | j + 1, s, op, ws => if ty_nx T s = 35 then ty_eO T j (ty_tkn T 35 (ty_room op 6 s)) (op + 1) (35 :: ws) else (s, op, ws)
def ty_eU (T : List tw_Tk) (s : ty_Ps) : ty_Ps × List ty_Uo :=
  if ty_nx T s = 24 then (ty_tkn T 24 s, [(0, ty_V T s.2, 0)])
  else if ty_nx T s = 23 then (ty_tkn T 23 s, [(1, s.2, 0)])
  else if ty_nx T s = 17 then (ty_tkn T 17 s, [(3, s.2, 0)])
  else if ty_nx T s = 18 then (ty_tkn T 18 s, [(4, s.2, 0)])
  else if ty_nx T s = 19 then (ty_tkn T 19 s, [(5, s.2, 0)])
  else if ty_nx T s = 20 then (ty_tkn T 24 (ty_tkn T 20 s), [(6, (ty_tkn T 20 s).2, 0)])
  else if ty_nx T s = 22 then (ty_tkn T 23 (ty_tkn T 22 s), [(8, (ty_tkn T 22 s).2, 0)])
  else if ty_nx T s = 21 then (ty_tkn T 23 (ty_tkn T 23 (ty_tkn T 21 s)), [(7, (ty_tkn T 21 s).2, (ty_tkn T 23 (ty_tkn T 21 s)).2)])
  else (ty_tkn T 23 s, [])
/-- the signs that come out before a sign: what still waits, what comes out -/
def ty_dr (sg : Nat) : List Nat → List Nat × List ty_Uo
  | [] => ([], [])
  | x :: ws => if x = 35 ∨ ¬ (29 ≤ x ∨ sg ≤ 28) then (x :: ws, []) else ((ty_dr sg ws).1, (x - 18, 0, 0) :: (ty_dr sg ws).2)
def ty_eC (T : List tw_Tk) : Nat → ty_Ps → Nat → List Nat → List ty_Uo → ty_Ps × Nat × List Nat × List ty_Uo
  | 0, s, op, ws, o => (s, op, ws, o)
  | j + 1, s, op, ws, o => if 0 < op ∧ ty_nx T s = 36 then ty_eC T j (ty_tkn T 36 s) (op - 1) (ty_dr 27 ws).1.tail (o ++ (ty_dr 27 ws).2) else (s, op, ws, o)
def ty_eL (T : List tw_Tk) : Nat → ty_Ps → Nat → List Nat → List ty_Uo → ty_Ps × List ty_Uo
  | 0, s, _, _, o => (s, o)
  | m + 1, s, op, ws, o =>
    if s.1 = 0 then
      let a := ty_eO T 7 s op ws
      let u := ty_eU T a.1
      let c := ty_eC T 7 u.1 a.2.1 a.2.2 (o ++ u.2)
      let k := ty_nx T c.1
      if 27 ≤ k ∧ k ≤ 30 then ty_eL T m (ty_tkn T k c.1) c.2.1 (k :: (ty_dr k c.2.2.1).1) (c.2.2.2 ++ (ty_dr k c.2.2.1).2)
      else ((if c.1.1 = 0 ∧ 0 < c.2.1 then (1, c.1.2) else c.1), c.2.2.2 ++ (ty_dr 27 c.2.2.1).2)
    else (s, o)
def ty_E1 (T : List tw_Tk) (s : ty_Ps) : ty_Ps × List ty_Uo := ty_eL T 501 s 0 [] []
/-- how many signs wait -/
def ty_bin : List Nat → Nat
  | [] => 0
  | x :: ws => (if x = 35 then 0 else 1) + ty_bin ws
/-- no more than two signs a level, the stronger on top; as many brackets as said -/
def ty_wf : List Nat → Nat → Prop
  | [], op => op = 0
  | x :: ws, op => (x = 35 ∧ 0 < op ∧ ty_wf ws (op - 1)) ∨ ((x = 27 ∨ x = 28) ∧ (ws = [] ∧ op = 0 ∨ ∃ ws', ws = 35 :: ws') ∧ ty_wf ws op) ∨ ((x = 29 ∨ x = 30) ∧ (ws = [] ∧ op = 0 ∨ (∃ ws', ws = 35 :: ws') ∨ ∃ y ws', ws = y :: ws' ∧ (y = 27 ∨ y = 28)) ∧ ty_wf ws op)
