/-! WHAT IS DONE IN A TICK, in words of numbers and lists -/
/-- of an E: 0 INT, 1 VAR, 2 SETTING, 3 tick, 4 here, 5 place, 6 lot, 7 sum, 8 all; 9 .. 12 the signs -/
abbrev tw_Op : Type := Nat × Nat × Nat
/-- or, not, sort, left, right -/
abbrev tw_Lit : Type := Bool × Bool × Nat × List tw_Op × List tw_Op
/-- sort (0 add, 1 go, 2 near, 3 pick, 4 quit), VAR, KIND, VAR there, E -/
abbrev tw_Wi : Type := Nat × Nat × Nat × Nat × List tw_Op
abbrev tw_Ru : Type := List tw_Lit × List tw_Wi
abbrev tw_Ki : Type := List Int32 × List tw_Ru
abbrev tw_Wo : Type := List Int32 × List tw_Ki
/-- ONES: how many, KINDS, COPIES -/
abbrev tw_N : Type := Nat × (Nat → Nat) × (Nat → Nat)
/-- SETTINGS, SEED, TICK -/
abbrev tw_E : Type := (Nat → Int32) × Int32 × Nat
/-- VARS, PLACES, who has quit -/
abbrev tw_R : Type := (Nat → Int32) × (Nat → Nat) × (Nat → Bool)
/-- values, a division by 0, LOTS so far -/
abbrev tw_S : Type := List Int32 × Bool × Nat
/-- sort (0, 1, 2, 4), VAR, how much, to whom, VAR there -/
abbrev tw_Ev : Type := Nat × Nat × Int32 × Option Nat × Nat
def tw_sum (p : Nat → Bool) (f : Nat → Int32) : Nat → Int32
  | 0 => nI 0
  | n + 1 => if p n = true then tw_sum p f n + f n else tw_sum p f n
def tw_lot (seed o tick which n : Int32) : Int32 := rx_irem (rx_iushr (f_m_mixed (f_m_mixed (f_m_mixed seed o) tick) which) (nI 1)) n
def tw_here (N : tw_N) (R : tw_R) (o : Nat) : Int32 := tw_sum (fun q => !R.2.2 q && R.2.1 q == R.2.1 o) (fun q => nI (N.2.2 q)) N.1
def tw_all (N : tw_N) (R : tw_R) (k : Nat) : Int32 := tw_sum (fun q => !R.2.2 q && N.2.1 q == k) (fun q => nI (N.2.2 q)) N.1
def tw_sumv (N : tw_N) (R : tw_R) (o k v : Nat) : Int32 := tw_sum (fun q => !R.2.2 q && (N.2.1 q == k && R.2.1 q == R.2.1 o)) (fun q => R.1 (6 * q + v) * nI (N.2.2 q)) N.1
def tw_fig (N : tw_N) (R : tw_R) (k v : Nat) : Int32 := tw_sum (fun q => N.2.1 q == k) (fun q => R.1 (6 * q + v) * nI (N.2.2 q)) N.1
def tw_leaf (N : tw_N) (E : tw_E) (R : tw_R) (o lots : Nat) (p : tw_Op) : Int32 × Nat :=
  match p with
  | (0, a, _) => (nI a, lots)
  | (1, a, _) => (R.1 (6 * o + a), lots)
  | (2, a, _) => (E.1 a, lots)
  | (3, _, _) => (nI E.2.2, lots)
  | (4, _, _) => (tw_here N R o, lots)
  | (5, _, _) => (nI (R.2.1 o), lots)
  | (6, a, _) => (tw_lot E.2.1 (nI o) (nI E.2.2) (nI lots) (nI a), lots + 1)
  | (7, a, b) => (tw_sumv N R o a b, lots)
  | (_, a, _) => (tw_all N R a, lots)
def tw_bin (k : Nat) (a b : Int32) : Int32 := if k = 9 then a + b else if k = 10 then a - b else if k = 11 then a * b else if b = nI 0 then nI 0 else a / b
def tw_op (N : tw_N) (E : tw_E) (R : tw_R) (o : Nat) (s : tw_S) (p : tw_Op) : tw_S :=
  if p.1 < 9 then ((tw_leaf N E R o s.2.2 p).1 :: s.1, s.2.1, (tw_leaf N E R o s.2.2 p).2)
  else match s with
  | (b :: a :: st, br, lots) => (tw_bin p.1 a b :: st, br || (p.1 == 12 && b == nI 0), lots)
  | s => s
def tw_ev (N : tw_N) (E : tw_E) (R : tw_R) (o : Nat) : List tw_Op → tw_S → tw_S
  | [], s => s
  | p :: c, s => tw_ev N E R o c (tw_op N E R o s p)
/-- from d values to e, never more than 15 -/
def tw_dp : List tw_Op → Nat → Nat → Prop
  | [], d, e => d = e
  | p :: c, d, e => if p.1 < 9 then d + 1 ≤ 15 ∧ tw_dp c (d + 1) e else p.1 ≤ 12 ∧ 2 ≤ d ∧ tw_dp c (d - 1) e
def tw_cmp (k : Nat) (a b : Int32) : Bool := if k = 0 then decide (a = b) else if k = 1 then decide (¬ a = b) else if k = 2 then decide (a < b) else decide (a ≤ b)
def tw_lit (N : tw_N) (E : tw_E) (R : tw_R) (o : Nat) (l : tw_Lit) (lots : Nat) : Bool × Nat :=
  let x := tw_ev N E R o l.2.2.2.1 ([], false, lots)
  let y := tw_ev N E R o l.2.2.2.2 ([], false, x.2.2)
  ((tw_cmp l.2.2.1 (x.1.headD (nI 0)) (y.1.headD (nI 0)) && !(x.2.1 || y.2.1)) != l.2.1, y.2.2)
def tw_lits (N : tw_N) (E : tw_E) (R : tw_R) (o : Nat) : List tw_Lit → Bool → Nat → Bool × Nat
  | [], all, n => (all, n)
  | l :: ls, all, n => if (l.1 && all) = true then (true, n) else if (l.1 || all) = true then tw_lits N E R o ls (tw_lit N E R o l n).1 (tw_lit N E R o l n).2 else tw_lits N E R o ls false n
def tw_holds (N : tw_N) (E : tw_E) (R : tw_R) (o : Nat) (ls : List tw_Lit) (n : Nat) : Bool × Nat := if ls = [] then (true, n) else tw_lits N E R o ls false n
/-- the others of a KIND at its PLACE -/
def tw_oth (N : tw_N) (R : tw_R) (o k q : Nat) : Bool := !(q == o) && (!R.2.2 q && (N.2.1 q == k && R.2.1 q == R.2.1 o))
def tw_others (N : tw_N) (R : tw_R) (o k : Nat) (n : Nat) : List Nat := (List.range n).filter (tw_oth N R o k)
def tw_pick (N : tw_N) (E : tw_E) (R : tw_R) (o k lots : Nat) : Option Nat × Nat :=
  if (tw_others N R o k N.1).length = 0 then (none, lots)
  else ((tw_others N R o k N.1)[(tw_lot E.2.1 (nI o) (nI E.2.2) (nI lots) (nI (tw_others N R o k N.1).length)).toNatClampNeg]?, lots + 1)
def tw_amt (s : tw_S) : Int32 := if s.2.1 = true then nI 0 else s.1.headD (nI 0)
def tw_wish (N : tw_N) (E : tw_E) (R : tw_R) (o : Nat) (w : tw_Wi) (lots : Nat) : tw_Ev × Nat :=
  let x := tw_ev N E R o w.2.2.2.2 ([], false, lots)
  match w.1 with
  | 0 => ((0, w.2.1, tw_amt x, none, 0), x.2.2)
  | 1 => ((1, 0, tw_amt x, none, 0), x.2.2)
  | 2 => ((2, w.2.1, tw_amt x, (tw_others N R o w.2.2.1 N.1)[0]?, w.2.2.2.1), x.2.2)
  | 3 => ((2, w.2.1, tw_amt x, (tw_pick N E R o w.2.2.1 x.2.2).1, w.2.2.2.1), (tw_pick N E R o w.2.2.1 x.2.2).2)
  | _ => ((4, 0, nI 0, none, 0), lots)
def tw_wishes (N : tw_N) (E : tw_E) (R : tw_R) (o : Nat) : List tw_Wi → Nat → List tw_Ev × Nat
  | [], n => ([], n)
  | w :: ws, n => ((tw_wish N E R o w n).1 :: (tw_wishes N E R o ws (tw_wish N E R o w n).2).1, (tw_wishes N E R o ws (tw_wish N E R o w n).2).2)
def tw_rule (N : tw_N) (E : tw_E) (R : tw_R) (o : Nat) (r : tw_Ru) (n : Nat) : List tw_Ev × Nat :=
  if (tw_holds N E R o r.1 n).1 = true then tw_wishes N E R o r.2 (tw_holds N E R o r.1 n).2 else ([], (tw_holds N E R o r.1 n).2)
def tw_rules (N : tw_N) (E : tw_E) (R : tw_R) (o : Nat) : List tw_Ru → Nat → List tw_Ev
  | [], _ => []
  | r :: rs, n => (tw_rule N E R o r n).1 ++ tw_rules N E R o rs (tw_rule N E R o r n).2
def tw_kind (W : tw_Wo) (k : Nat) : tw_Ki := (W.2[k]?).getD ([], [])
def tw_vc (W : tw_Wo) (k : Nat) : Nat := (tw_kind W k).1.length
/-- the WISHES of a ONE in a TICK -/
def tw_evs (W : tw_Wo) (N : tw_N) (E : tw_E) (R : tw_R) (o : Nat) : List tw_Ev := if R.2.2 o = true then [] else tw_rules N E R o (tw_kind W (N.2.1 o)).2 0
def tw_updN {α : Type} (f : Nat → α) (k : Nat) (x : α) : Nat → α := fun j => if j = k then x else f j
def tw_min (a b : Int32) : Int32 := if b < a then b else a
def tw_go (s : Nat) (x : Int32) : Nat := (((s : Int) + x.toInt) % 10).toNat
def tw_do (o : Nat) (R : tw_R) (e : tw_Ev) : tw_R :=
  match e with
  | (0, v, x, _, _) => (tw_updN R.1 (6 * o + v) (R.1 (6 * o + v) + x), R.2.1, R.2.2)
  | (1, _, x, _, _) => (R.1, tw_updN R.2.1 o (tw_go (R.2.1 o) x), R.2.2)
  | (2, v, x, some q, u) => if tw_min x (R.1 (6 * o + v)) < nI 1 then R else if R.2.2 q = true then R
    else (tw_updN (tw_updN R.1 (6 * o + v) (R.1 (6 * o + v) - tw_min x (R.1 (6 * o + v)))) (6 * q + u) (tw_updN R.1 (6 * o + v) (R.1 (6 * o + v) - tw_min x (R.1 (6 * o + v))) (6 * q + u) + tw_min x (R.1 (6 * o + v))), R.2.1, R.2.2)
  | (2, _, _, none, _) => R
  | _ => (R.1, R.2.1, tw_updN R.2.2 o true)
def tw_dos (o : Nat) : List tw_Ev → tw_R → tw_R
  | [], R => R
  | e :: es, R => tw_dos o es (tw_do o R e)
/-- the last first -/
def tw_ins (l : Nat → Int32) (i : Nat) : List Nat → List Nat
  | [] => [i]
  | x :: xs => if l i < l x then x :: tw_ins l i xs else i :: x :: xs
def tw_ord (l : Nat → Int32) : Nat → List Nat
  | 0 => []
  | n + 1 => tw_ins l n (tw_ord l n)
def tw_dl (dl : Bool) (E : tw_E) (o : Nat) : Int32 := if dl = true then tw_lot E.2.1 (nI o) (nI E.2.2) (nI 1000) (nI 1000) else nI 0
/-- all that is wished is done, but what the one left out wishes -/
def tw_done (ev : Nat → List tw_Ev) (out : Int32) : List Nat → tw_R → tw_R
  | [], R => R
  | o :: os, R => tw_done ev out os (if nI o = out then R else tw_dos o (ev o) R)
def tw_hold (x : Int32) : Int32 := if x < -nI 9999 then -nI 9999 else if nI 9999 < x then nI 9999 else x
def tw_held (R : tw_R) : tw_R := (fun j => tw_hold (R.1 j), R.2.1, R.2.2)
def tw_tick (W : tw_Wo) (N : tw_N) (dl : Bool) (E : tw_E) (out : Int32) (R : tw_R) : tw_R :=
  tw_held (tw_done (fun o => tw_evs W N E R o) out (tw_ord (tw_dl dl E) N.1).reverse R)
/-- a RUN: SETTINGS, SEED; the one undone and its TICK -/
def tw_run (W : tw_Wo) (N : tw_N) (dl : Bool) (st : Nat → Int32) (seed : Int32) (out : Nat → Int32) (R : tw_R) : Nat → tw_R
  | 0 => R
  | t + 1 => tw_tick W N dl (st, seed, t) (out t) (tw_run W N dl st seed out R t)
/-! what is well written: an E of a KIND with nv VARS, in a WORLD -/
def tw_opok (W : tw_Wo) (nv : Nat) (p : tw_Op) : Prop :=
  (p.1 = 0 → p.2.1 ≤ 9999) ∧ (p.1 = 1 → p.2.1 < nv) ∧ (p.1 = 2 → p.2.1 < W.1.length) ∧ (p.1 = 6 → 1 ≤ p.2.1 ∧ p.2.1 ≤ 9999) ∧ (p.1 = 7 → p.2.1 < W.2.length ∧ p.2.2 < tw_vc W p.2.1) ∧ (p.1 = 8 → p.2.1 < W.2.length)
def tw_cok (W : tw_Wo) (nv : Nat) (c : List tw_Op) : Prop := tw_dp c 0 1 ∧ ∀ p ∈ c, tw_opok W nv p
def tw_litok (W : tw_Wo) (nv : Nat) (l : tw_Lit) : Prop := l.2.2.1 < 4 ∧ tw_cok W nv l.2.2.2.1 ∧ tw_cok W nv l.2.2.2.2
def tw_wiok (W : tw_Wo) (nv : Nat) (w : tw_Wi) : Prop := w.1 ≤ 4 ∧ (w.1 = 0 ∨ w.1 = 2 ∨ w.1 = 3 → w.2.1 < nv) ∧ (w.1 = 2 ∨ w.1 = 3 → w.2.2.1 < W.2.length ∧ w.2.2.2.1 < tw_vc W w.2.2.1) ∧ (w.1 ≠ 4 → tw_cok W nv w.2.2.2.2)
def tw_ruok (W : tw_Wo) (nv : Nat) (r : tw_Ru) : Prop := (∀ l ∈ r.1, tw_litok W nv l) ∧ (∀ l ls, r.1 = l :: ls → l.1 = true) ∧ (∀ w ∈ r.2, tw_wiok W nv w) ∧ r.2.length ≤ 6
def tw_wok (W : tw_Wo) : Prop := W.1.length ≤ 6 ∧ W.2.length ≤ 5 ∧ ∀ k, k < W.2.length → tw_vc W k ≤ 6 ∧ (tw_kind W k).2.length ≤ 8 ∧ ∀ r ∈ (tw_kind W k).2, tw_ruok W (tw_vc W k) r
