/-! THE CLASS'S READER: a LIT; where code goes on -/
def tz_pat (lo hi a b tg : Nat) : Nat → List tz_Cd → List tz_Cd
  | _, [] => []
  | i, x :: xs => (if a ≤ i ∧ i < b ∧ lo ≤ x.1 ∧ x.1 ≤ hi then (x.1, x.2.1, nI tg) else x) :: tz_pat lo hi a b tg (i + 1) xs
theorem tz_pat_len {lo hi a b tg : Nat} : ∀ (C : List tz_Cd) (i : Nat), (tz_pat lo hi a b tg i C).length = C.length
  | [], _ => rfl
  | x :: xs, i => by rw [tz_pat, List.length_cons, List.length_cons, tz_pat_len xs]
theorem tz_pat_app {lo hi a b tg : Nat} : ∀ (A B : List tz_Cd) (i : Nat), tz_pat lo hi a b tg i (A ++ B) = tz_pat lo hi a b tg i A ++ tz_pat lo hi a b tg (i + A.length) B
  | [], B, i => rfl
  | x :: xs, B, i => by
    show _ :: tz_pat lo hi a b tg (i + 1) (xs ++ B) = _
    rw [tz_pat_app xs B, List.length_cons, show i + (xs.length + 1) = i + 1 + xs.length by omega]
    rfl
theorem tz_pat_get {lo hi a b tg : Nat} : ∀ (C : List tz_Cd) (i p : Nat), (tz_pat lo hi a b tg i C)[p]? = (C[p]?).map (fun x => if a ≤ i + p ∧ i + p < b ∧ lo ≤ x.1 ∧ x.1 ≤ hi then (x.1, x.2.1, nI tg) else x)
  | [], i, p => rfl
  | x :: xs, i, 0 => rfl
  | x :: xs, i, p + 1 => by
    show (tz_pat lo hi a b tg (i + 1) xs)[p]? = _
    rw [tz_pat_get xs (i + 1) p, show i + 1 + p = i + (p + 1) by omega]
    rfl
theorem tz_pat_id {lo hi a b tg : Nat} : ∀ (C : List tz_Cd) (i : Nat), (∀ x ∈ C, ¬ (lo ≤ x.1 ∧ x.1 ≤ hi)) → tz_pat lo hi a b tg i C = C
  | [], _, _ => rfl
  | x :: xs, i, h => by
    rw [tz_pat, if_neg (fun z => h x List.mem_cons_self z.2.2), tz_pat_id xs (i + 1) (fun y hy => h y (List.mem_cons_of_mem _ hy))]
theorem tz_pat_lo {lo hi a b tg : Nat} : ∀ (C : List tz_Cd) (i : Nat), i + C.length ≤ a → tz_pat lo hi a b tg i C = C
  | [], _, _ => rfl
  | x :: xs, i, h => by
    rw [List.length_cons] at h
    rw [tz_pat, if_neg (fun z => absurd z.1 (by omega)), tz_pat_lo xs (i + 1) (by omega)]
section TZ5
variable {v : Nat} {T : List tw_Tk} {n : Nat}
/-- whatever stands there -/
theorem tz_aimF {lo hi a b : Nat} {tg : Int32} {σ : rx_St} {c : Nat} (hc : σ.1 (7 + 14 * v) 12 = nI c) (hc5 : c ≤ 500) (ha : a < 100000) (hb : b < 100000) : tw_ok (f_wor_aim v (nI lo) (nI hi) (nI a) (nI b) tg σ) (fun σ' => tw_fr (fun q j => q = 20 + 14 * v) σ σ') := by
  have main : ∀ (m i : Nat) (σ' : rx_St), 501 - i < m → i < 100000 → tw_fr (fun q j => q = 20 + 14 * v) σ σ' → tw_ok (f_wor_aim_7 v m (nI lo) (nI hi) (nI b) tg (nI i) σ') (fun σ' => tw_fr (fun q j => q = 20 + 14 * v) σ σ') := by
    intro m
    induction m with
    | zero => intro i σ' h; exact absurd h (Nat.not_lt_zero _)
    | succ m ih =>
      intro i σ' hm hil f
      unfold f_wor_aim_7
      refine tw_ite (fun _ => by rw [tw_some]; exact f) (fun _ => ?_)
      rw [show σ'.1 (7 + 14 * v) 12 = nI c from (f.i (by omega)).trans hc]
      by_cases e : c ≤ i
      · rw [if_pos (tp_yl (by omega) (by omega) e), tw_some]
        exact f
      · rw [if_neg (tp_nl (by omega) (by omega) e)]
        have nx : ∀ τ, tw_fr (fun q j => q = 20 + 14 * v) σ τ → tw_ok (f_wor_aim_54 v (f_wor_aim_7 v m) (nI lo) (nI hi) (nI b) tg (nI i) τ) (fun σ' => tw_fr (fun q j => q = 20 + 14 * v) σ σ') := fun τ fτ => by
          unfold f_wor_aim_54
          rw [show nI i + (1 : Int32) = nI (i + 1) from nI_add i 1]
          exact ih (i + 1) τ (by omega) (by omega) fτ
        refine tw_g (vp_in_nI (by omega) (by decide)) (tw_ite (fun _ => nx _ f) (fun _ => tw_g (vp_in_nI (by omega) (by decide)) (tw_ite (fun _ => nx _ f) (fun _ => tw_g (vp_in_nI (by omega) (by decide)) ?_))))
        exact nx _ (f.si rfl)
  unfold f_wor_aim
  have e : f_j_max (nI a) (0 : Int32) = nI a := by
    unfold f_j_max
    exact if_neg (show ¬ nI a < (0 : Int32) by rw [show (0 : Int32) = nI 0 from rfl, tw_lt (by omega) (by omega)]; omega)
  rw [e]
  exact main rx_fu a σ (by show _ < 100000; omega) ha tw_fr.rf
theorem tz_aimG {lo hi a b tg : Nat} {C : List tz_Cd} {σ : rx_St} (h : tz_cds v C σ) (hx : ∀ x ∈ C, x.1 < 100) (hlo : lo < 100) (hhi : hi < 100) (ha : a < 100000) (hb : b < 100000) : tw_ok (f_wor_aim v (nI lo) (nI hi) (nI a) (nI b) (nI tg) σ) (fun σ' => tw_fr (fun q j => q = 20 + 14 * v) σ σ' ∧ tz_cds v (tz_pat lo hi a b tg 0 C) σ') := by
  obtain ⟨h1, h2, h3, h4⟩ := h
  have row : ∀ (σ' : rx_St) (i : Nat), tw_fr (fun q j => q = 20 + 14 * v) σ σ' → (∀ (p : Nat) (x : tz_Cd), C[p]? = some x → σ'.1 (20 + 14 * v) p = if a ≤ p ∧ p < b ∧ p < i ∧ lo ≤ x.1 ∧ x.1 ≤ hi then nI tg else x.2.2) → (b ≤ i ∨ C.length ≤ i) → tz_cds v (tz_pat lo hi a b tg 0 C) σ' := by
    intro σ' i f hr hi9
    have cnt : tz_cnt (tz_pat lo hi a b tg 0 C) = tz_cnt C := by
      have g : ∀ (C : List tz_Cd) (i : Nat), tz_cnt (tz_pat lo hi a b tg i C) = tz_cnt C := by
        intro C
        induction C with
        | nil => intro i; rfl
        | cons x xs ih =>
          intro i
          have e := ih (i + 1)
          unfold tz_cnt at e ⊢
          rw [tz_pat, List.any_cons, List.any_cons, e]
          by_cases z : a ≤ i ∧ i < b ∧ lo ≤ x.1 ∧ x.1 ≤ hi
          · rw [if_pos z]
          · rw [if_neg z]
      exact g C 0
    refine ⟨by rw [tz_pat_len]; exact (f.i (by omega)).trans h1, by rw [tz_pat_len]; exact h2, by rw [cnt]; exact (f.i (by omega)).trans h3, fun p x hx => ?_⟩
    rw [tz_pat_get] at hx
    cases e : C[p]? with
    | none => rw [e] at hx; cases hx
    | some y =>
      rw [e] at hx
      obtain ⟨r1, r2, r3⟩ := h4 p y e
      have pl := (List.getElem?_eq_some_iff.mp e).1
      have r := hr p y e
      rw [Nat.zero_add] at hx
      have hx' : x = if a ≤ p ∧ p < b ∧ lo ≤ y.1 ∧ y.1 ≤ hi then (y.1, y.2.1, nI tg) else y := (Option.some.inj hx).symm
      rw [f.i (by omega), f.i (by omega), r]
      by_cases z : a ≤ p ∧ p < b ∧ lo ≤ y.1 ∧ y.1 ≤ hi
      · rw [if_pos z] at hx'
        rw [if_pos ⟨z.1, z.2.1, by omega, z.2.2⟩, hx']
        exact ⟨r1, r2, rfl⟩
      · rw [if_neg z] at hx'
        rw [if_neg (fun y => z ⟨y.1, y.2.1, y.2.2.2⟩), hx']
        exact ⟨r1, r2, rfl⟩
  have main : ∀ (m i : Nat) (σ' : rx_St), 501 - i < m → i < 100000 → a ≤ i → tw_fr (fun q j => q = 20 + 14 * v) σ σ' → (∀ (p : Nat) (x : tz_Cd), C[p]? = some x → σ'.1 (20 + 14 * v) p = if a ≤ p ∧ p < b ∧ p < i ∧ lo ≤ x.1 ∧ x.1 ≤ hi then nI tg else x.2.2) → tw_ok (f_wor_aim_7 v m (nI lo) (nI hi) (nI b) (nI tg) (nI i) σ') (fun σ' => tw_fr (fun q j => q = 20 + 14 * v) σ σ' ∧ tz_cds v (tz_pat lo hi a b tg 0 C) σ') := by
    intro m
    induction m with
    | zero => intro i σ' h; exact absurd h (Nat.not_lt_zero _)
    | succ m ih =>
      intro i σ' hm hil ai f hr
      unfold f_wor_aim_7
      rw [tw_ifE (tw_le (a := b) (b := i) (by omega) (by omega))]
      by_cases c1 : b ≤ i
      · rw [if_pos c1, tw_some]
        exact ⟨f, row σ' i f hr (Or.inl c1)⟩
      · rw [if_neg c1, show σ'.1 (7 + 14 * v) 12 = nI C.length from (f.i (by omega)).trans h1]
        by_cases e : C.length ≤ i
        · rw [if_pos (tp_yl (by omega) (by omega) e), tw_some]
          exact ⟨f, row σ' i f hr (Or.inr e)⟩
        · rw [if_neg (tp_nl (by omega) (by omega) e)]
          have hxi : C[i]? = some C[i] := List.getElem?_eq_getElem (by omega)
          obtain ⟨r1, r2, r3⟩ := h4 i _ hxi
          have x100 := hx C[i] (List.getElem_mem _)
          have w18 : σ'.1 (18 + 14 * v) i = nI C[i].1 := (f.i (by omega)).trans r1
          have nx : ∀ τ, tw_fr (fun q j => q = 20 + 14 * v) σ τ → (∀ (p : Nat) (x : tz_Cd), C[p]? = some x → τ.1 (20 + 14 * v) p = if a ≤ p ∧ p < b ∧ p < i + 1 ∧ lo ≤ x.1 ∧ x.1 ≤ hi then nI tg else x.2.2) → tw_ok (f_wor_aim_54 v (f_wor_aim_7 v m) (nI lo) (nI hi) (nI b) (nI tg) (nI i) τ) (fun σ' => tw_fr (fun q j => q = 20 + 14 * v) σ σ' ∧ tz_cds v (tz_pat lo hi a b tg 0 C) σ') := fun τ fτ hτ => by
            unfold f_wor_aim_54
            rw [show nI i + (1 : Int32) = nI (i + 1) from nI_add i 1]
            exact ih (i + 1) τ (by omega) (by omega) (by omega) fτ hτ
          have same : ¬ (lo ≤ C[i].1 ∧ C[i].1 ≤ hi) → tw_ok (f_wor_aim_54 v (f_wor_aim_7 v m) (nI lo) (nI hi) (nI b) (nI tg) (nI i) σ') (fun σ' => tw_fr (fun q j => q = 20 + 14 * v) σ σ' ∧ tz_cds v (tz_pat lo hi a b tg 0 C) σ') := fun z => nx σ' f (fun p x hp => by
            rw [hr p x hp]
            by_cases y : a ≤ p ∧ p < b ∧ p < i ∧ lo ≤ x.1 ∧ x.1 ≤ hi
            · rw [if_pos y, if_pos ⟨y.1, y.2.1, by omega, y.2.2.2⟩]
            · rw [if_neg y, if_neg (fun u => y ⟨u.1, u.2.1, by
                have : p ≠ i := fun pe => by
                  subst pe
                  rw [hxi] at hp
                  rw [← Option.some.inj hp] at u
                  exact z u.2.2.2
                omega, u.2.2.2⟩)])
          refine tw_g (vp_in_nI (by omega) (by decide)) ?_
          rw [nI_clamp (by omega), w18, tw_ifE (tw_lt (a := C[i].1) (b := lo) (by omega) (by omega))]
          by_cases l1 : C[i].1 < lo
          · rw [if_pos l1]
            exact same (fun z => absurd z.1 (by omega))
          · rw [if_neg l1]
            refine tw_g (vp_in_nI (by omega) (by decide)) ?_
            rw [tw_ifE (tw_lt (a := hi) (b := C[i].1) (by omega) (by omega))]
            by_cases l2 : hi < C[i].1
            · rw [if_pos l2]
              exact same (fun z => absurd z.2 (by omega))
            · rw [if_neg l2]
              refine tw_g (vp_in_nI (by omega) (by decide)) ?_
              refine nx _ (f.si rfl) (fun p x hp => ?_)
              rw [tw_r1]
              by_cases pe : p = i
              · subst pe
                rw [hxi] at hp
                rw [← Option.some.inj hp, if_pos ⟨rfl, rfl⟩, if_pos ⟨ai, by omega, by omega, by omega, by omega⟩]
              · rw [if_neg (fun z => pe z.2), hr p x hp]
                by_cases y : a ≤ p ∧ p < b ∧ p < i ∧ lo ≤ x.1 ∧ x.1 ≤ hi
                · rw [if_pos y, if_pos ⟨y.1, y.2.1, by omega, y.2.2.2⟩]
                · rw [if_neg y, if_neg (fun u => y ⟨u.1, u.2.1, by omega, u.2.2.2⟩)]
  unfold f_wor_aim
  have e : f_j_max (nI a) (0 : Int32) = nI a := by
    unfold f_j_max
    exact if_neg (show ¬ nI a < (0 : Int32) by rw [show (0 : Int32) = nI 0 from rfl, tw_lt (by omega) (by omega)]; omega)
  rw [e]
  exact main rx_fu a σ (by show _ < 100000; omega) ha (Nat.le_refl _) tw_fr.rf (fun p x hp => by
    rw [if_neg (fun u => absurd u.2.2.1 (by omega))]
    exact (h4 p x hp).2.2)
theorem tz_pp.aim {lo hi a b tg d : Nat} {s : ty_Ps} {C : List tz_Cd} {σ : rx_St} (h : tz_pp v T n s d C σ) (hx : ∀ x ∈ C, x.1 < 100) (hlo : lo < 100) (hhi : hi < 100) (ha : a < 100000) (hb : b < 100000) : tw_ok (f_wor_aim v (nI lo) (nI hi) (nI a) (nI b) (nI tg) σ) (fun σ' => tw_fr (fun q j => q = 20 + 14 * v) σ σ' ∧ tz_pp v T n s d (tz_pat lo hi a b tg 0 C) σ') := by
  obtain ⟨h1, h2, ⟨c, q, r1, r2, r3, r4⟩, h4⟩ := h
  have fin : ∀ σ', tw_fr (fun q j => q = 20 + 14 * v) σ σ' → (s.1 = 0 → tz_cds v (tz_pat lo hi a b tg 0 C) σ') → tw_fr (fun q j => q = 20 + 14 * v) σ σ' ∧ tz_pp v T n s d (tz_pat lo hi a b tg 0 C) σ' := fun σ' f g =>
    ⟨f, h1.fr (fun q j e e' => ⟨f.i (by omega), f.l (by omega)⟩), ⟨(f.i (by omega)).trans h2.1, (f.i (by omega)).trans h2.2.1, h2.2.2⟩, ⟨c, q, (f.i (by omega)).trans r1, r2, (f.i (by omega)).trans r3, r4⟩, fun z => ⟨g z, by rw [tz_pat_len]; exact (h4 z).2⟩⟩
  by_cases z : s.1 = 0
  · exact tw_mono (tz_aimG (h4 z).1 hx hlo hhi ha hb) (fun σ' g => fin σ' g.1 (fun _ => g.2))
  · exact tw_mono (tz_aimF r1 r2 ha hb) (fun σ' g => fin σ' g (fun y => absurd y z))
end TZ5
/-! a LIT -/
def ty_no (T : List tw_Tk) : Nat → ty_Ps → Nat → ty_Ps × Nat
  | 0, s, k => (s, k)
  | j + 1, s, k => if ty_nx T s = 16 then ty_no T j (ty_tkn T 16 s) (k + 1) else (s, k)
/-- not, sort, left, right -/
abbrev ty_Li : Type := Bool × Nat × List ty_Uo × List ty_Uo
def ty_tst (T : List tw_Tk) (s : ty_Ps) : Nat := if 31 ≤ ty_nx T s ∧ ty_nx T s ≤ 34 then ty_nx T s else 31
def ty_L1 (T : List tw_Tk) (s : ty_Ps) : ty_Ps × ty_Li :=
  ((ty_E1 T (ty_tkn T (ty_tst T (ty_E1 T (ty_no T 501 s 0).1).1) (ty_E1 T (ty_no T 501 s 0).1).1)).1, (decide ((ty_no T 501 s 0).2 % 2 = 1), ty_tst T (ty_E1 T (ty_no T 501 s 0).1).1 - 31, (ty_E1 T (ty_no T 501 s 0).1).2, (ty_E1 T (ty_tkn T (ty_tst T (ty_E1 T (ty_no T 501 s 0).1).1) (ty_E1 T (ty_no T 501 s 0).1).1)).2))
/-- the code of a LIT -/
def tz_lc (l : ty_Li) (t : Nat) : List tz_Cd := l.2.2.1.map tz_uc ++ (l.2.2.2.map tz_uc ++ [(31 + l.2.1, tw_B l.1, nI t)])
section TZ6
variable {v : Nat} {T : List tw_Tk} {n : Nat}
theorem tz_and1 (k : Nat) (hk : k < 100000) : nI k &&& (1 : Int32) = tw_B (decide (k % 2 = 1)) := by
  refine Int32.toInt_inj.mp ?_
  have e : nI k &&& (1 : Int32) = nI (k % 2) := by
    refine Int32.toBitVec_inj.mp (BitVec.eq_of_toNat_eq ?_)
    rw [Int32.toBitVec_and, BitVec.toNat_and]
    have e1 : (nI k).toBitVec.toNat = k := by
      show (BitVec.ofNat 32 k).toNat = k
      rw [BitVec.toNat_ofNat]
      omega
    have e2 : (1 : Int32).toBitVec.toNat = 1 := by decide
    have e3 : (nI (k % 2)).toBitVec.toNat = k % 2 := by
      show (BitVec.ofNat 32 (k % 2)).toNat = k % 2
      rw [BitVec.toNat_ofNat]
      omega
    rw [e1, e2, e3, Nat.and_one_is_mod]
  rw [e]
  have : k % 2 = 0 ∨ k % 2 = 1 := by omega
  rcases this with h | h
  · rw [h]; rfl
  · rw [h]; rfl
theorem tz_nots {d : Nat} {C : List tz_Cd} {σ0 : rx_St} (hv : v ≤ 1) (Q : rx_St → Prop) : ∀ (j m i : Nat) (s : ty_Ps) (σ : rx_St), j + i = 501 → j < m → tz_pp v T n s (d + 1 + i) C σ → tw_fr (tz_S v) σ0 σ →
    (∀ σ', tw_fr (tz_S v) σ0 σ' → tz_pp v T n (ty_no T j s i).1 (d + 1) C σ' → (ty_no T j s i).2 ≤ 501 → tw_ok (f_rea_parseLit_36 v (nI (ty_no T j s i).2) σ') Q) →
    tw_ok (f_rea_parseLit_4 v m (nI i) (nI i) σ) Q := by
  intro j
  induction j with
  | zero =>
    intro m i s σ hi hm h f hQ
    obtain ⟨m, rfl⟩ : ∃ m', m = m' + 1 := ⟨m - 1, by omega⟩
    unfold f_rea_parseLit_4
    rw [if_pos (show (500 : Int32) ≤ nI i by rw [show (500 : Int32) = nI 500 from rfl, tw_le (by omega) (by omega)]; omega)]
    exact hQ σ f (h.le (by omega)) (by show i ≤ 501; omega)
  | succ j ih =>
    intro m i s σ hi hm h f hQ
    obtain ⟨m, rfl⟩ : ∃ m', m = m' + 1 := ⟨m - 1, by omega⟩
    have hn := tz_next h.1 h.2.1
    have hK := ty_nx_le (fun i x z => (h.1.2 i x z).1) s
    have s5 := h.2.1.2.2.2.1
    unfold f_rea_parseLit_4
    unfold ty_no at hQ
    by_cases c5 : 500 ≤ i
    · rw [if_pos (show (500 : Int32) ≤ nI i by rw [show (500 : Int32) = nI 500 from rfl, tw_le (by omega) (by omega)]; exact c5)]
      have z : ¬ s.1 = 0 := fun z => by have := (h.2.2.2 z).2; omega
      rw [if_neg (by rw [ty_nx_f z]; decide)] at hQ
      exact hQ σ f (h.le (by omega)) (by show i ≤ 501; omega)
    · rw [if_neg (show ¬ (500 : Int32) ≤ nI i by rw [show (500 : Int32) = nI 500 from rfl, tw_le (by omega) (by omega)]; exact c5), hn, Option.bind_some, tw_ifE (show (nI (ty_nx T s) = (16 : Int32)) = (ty_nx T s = 16) by rw [show (16 : Int32) = nI 16 from rfl, tw_eq (by omega) (by omega)])]
      by_cases c : ty_nx T s = 16
      · rw [if_pos c]
        rw [if_pos c] at hQ
        refine tw_b (h.tk hv (k := 16) (by omega) (by omega)) (fun y g => ?_)
        obtain ⟨-, g2, g3⟩ := g
        rw [show nI i + (1 : Int32) = nI (i + 1) from nI_add i 1]
        exact ih m (i + 1) _ y.2 (by omega) (by omega) (g3.le (by omega)) (f.tr (g2.mn tz_S1S)) hQ
      · rw [if_neg c]
        rw [if_neg c] at hQ
        exact hQ σ f (h.le (by omega)) (by show i ≤ 501; omega)
/-- a LIT; one TOKEN at least stands ahead of it -/
theorem tz_parseLit {s : ty_Ps} {d : Nat} {C : List tz_Cd} {σ : rx_St} (hv : v ≤ 1) (h : tz_pp v T n s (d + 1) C σ) : tw_ok (f_rea_parseLit v σ) (fun σ' => tw_fr (tz_S v) σ σ' ∧ tz_pp v T n (ty_L1 T s).1 (d + 1) (C ++ tz_lc (ty_L1 T s).2 0) σ') := by
  unfold f_rea_parseLit
  refine tz_nots (d := d) (C := C) (σ0 := σ) hv _ 501 rx_fu 0 s σ (by omega) (by show _ < 100000; omega) h tw_fr.rf (fun σ1 f1 h1 k1 => ?_)
  unfold f_rea_parseLit_36 ty_L1
  generalize hno : ty_no T 501 s 0 = no at h1 k1 ⊢
  refine tw_b (tz_parseE hv h1) (fun σ2 g => ?_)
  obtain ⟨f2, h2⟩ := g
  generalize he1 : ty_E1 T no.1 = e1 at h2 ⊢
  have hn := tz_next h2.1 h2.2.1
  have hK := ty_nx_le (fun i x z => (h2.1.2 i x z).1) e1.1
  rw [hn, Option.bind_some]
  have rest : ∀ k : Nat, k = ty_tst T e1.1 → tw_ok (f_rea_parseLit_64 v (nI no.2) (nI (ty_nx T e1.1)) (nI k) σ2) (fun σ' => tw_fr (tz_S v) σ σ' ∧ tz_pp v T n (ty_E1 T (ty_tkn T (ty_tst T e1.1) e1.1)).1 (d + 1) (C ++ tz_lc (decide (no.2 % 2 = 1), ty_tst T e1.1 - 31, e1.2, (ty_E1 T (ty_tkn T (ty_tst T e1.1) e1.1)).2) 0) σ') := by
    intro k hk
    have kb : 31 ≤ ty_tst T e1.1 ∧ ty_tst T e1.1 ≤ 34 := by
      unfold ty_tst
      by_cases c : 31 ≤ ty_nx T e1.1 ∧ ty_nx T e1.1 ≤ 34
      · rw [if_pos c]; exact c
      · rw [if_neg c]; omega
    subst hk
    unfold f_rea_parseLit_64
    refine tw_b (h2.tk hv (k := ty_tst T e1.1) (by omega) (by omega)) (fun y g => ?_)
    obtain ⟨-, f3, h3⟩ := g
    refine tw_b (tz_parseE hv h3) (fun σ4 g => ?_)
    obtain ⟨f4, h4⟩ := g
    rw [tz_and1 no.2 (by omega)]
    refine tw_b (h4.em hv (k := ty_nx T e1.1) (a := tw_B (decide (no.2 % 2 = 1))) (b := nI 0) (by omega)) (fun σ5 g => ?_)
    obtain ⟨f5, -, -, h5⟩ := g
    rw [tw_some]
    refine ⟨(((f1.tr f2).tr (f3.mn tz_S1S)).tr f4).tr f5, h5.1, h5.2.1, h5.2.2.1, fun z => ?_⟩
    obtain ⟨c1, c2⟩ := h5.2.2.2 z
    -- where nothing is amiss the sign was one
    have em : ∀ (m : Nat) (s : ty_Ps) (op : Nat) (ws : List Nat) (o : List ty_Uo), (ty_eL T m s op ws o).1.1 = 0 → s.1 = 0 := by
      intro m
      induction m with
      | zero => intro s op ws o y; exact y
      | succ m ih =>
        intro s op ws o y
        by_cases q : s.1 = 0
        · exact q
        · rw [ty_eL_f q] at y; exact y
    have z3 : (ty_tkn T (ty_tst T e1.1) e1.1).1 = 0 := em _ _ _ _ _ z
    obtain ⟨z4, z5, -, -⟩ := ty_tkn_0 z3
    have z6 : ty_nx T e1.1 = ty_tst T e1.1 := (if_pos z4).trans z5
    have e : C ++ tz_lc (decide (no.2 % 2 = 1), ty_tst T e1.1 - 31, e1.2, (ty_E1 T (ty_tkn T (ty_tst T e1.1) e1.1)).2) 0 = C ++ List.map tz_uc e1.2 ++ List.map tz_uc (ty_E1 T (ty_tkn T (ty_tst T e1.1) e1.1)).2 ++ [(ty_nx T e1.1, tw_B (decide (no.2 % 2 = 1)), nI 0)] := by
      unfold tz_lc
      rw [z6, ← List.append_assoc, ← List.append_assoc]
      show _ ++ [(31 + (ty_tst T e1.1 - 31), _, _)] = _
      rw [show 31 + (ty_tst T e1.1 - 31) = ty_tst T e1.1 by omega]
    rw [e]
    exact ⟨c1, c2⟩
  unfold f_rea_parseLit_62
  rw [tw_ifE (show (nI (ty_nx T e1.1) < (31 : Int32)) = (ty_nx T e1.1 < 31) by rw [show (31 : Int32) = nI 31 from rfl, tw_lt (by omega) (by omega)])]
  by_cases c1 : ty_nx T e1.1 < 31
  · rw [if_pos c1]
    exact rest 31 (if_neg (fun z => absurd z.1 (by omega))).symm
  · rw [if_neg c1, tw_ifE (show ((34 : Int32) < nI (ty_nx T e1.1)) = (34 < ty_nx T e1.1) by rw [show (34 : Int32) = nI 34 from rfl, tw_lt (by omega) (by omega)])]
    by_cases c2 : 34 < ty_nx T e1.1
    · rw [if_pos c2]
      exact rest 31 (if_neg (fun z => absurd z.2 (by omega))).symm
    · rw [if_neg c2]
      exact rest _ (if_pos ⟨by omega, by omega⟩).symm
end TZ6
