/-! THE MODEL READS: the RULES of a KIND -/
def ta_rop (r : ty_Ru) : List ty_Uo := ta_lop r.1 ++ ta_wop r.2
def ta_rops (rs : List ty_Ru) : List ty_Uo := rs.flatMap ta_rop
def ta_rqs (X : ta_X) : Nat → Nat → List ty_Ru → List ta_Qu
  | _, _, [] => []
  | p, i, r :: rs => (ta_oqs X p (ta_lop r.1) ++ ta_wqs X (8 * X.2.1 + i) (p + (ta_lop r.1).length) 0 r.2) ++ ta_rqs X (p + (ta_rop r).length) (i + 1) rs
def ta_re (T : List tw_Tk) (X : ta_X) (r : ty_Ru) : List (Nat × Nat) := (ta_lop r.1).flatMap (ta_oe T X) ++ r.2.flatMap (ta_we T X)
def ta_rls : Nat → List ty_Ru → List ta_Lr
  | _, [] => []
  | p, r :: rs => ta_lrs p true r.1 ++ ta_rls (p + (ta_rop r).length) rs
def ta_rrs (T : List tw_Tk) (X : ta_X) (σ : rx_St) : Nat → Nat → Nat → List ty_Ru → Prop
  | _, _, _, [] => True
  | i, p, a, r :: rs => ta_r1 (8 * X.2.1 + i) X.1 a (a + r.1.length) (ta_wrs T X (p + (ta_lop r.1).length) r.2) σ ∧ ta_rrs T X σ (i + 1) (p + (ta_rop r).length) (a + r.1.length) rs
theorem ta_rops_len (r : ty_Ru) (rs : List ty_Ru) : (ta_rops (r :: rs)).length = (ta_rop r).length + (ta_rops rs).length := by
  unfold ta_rops
  rw [List.flatMap_cons, List.length_append]
theorem ta_rqs_app (X : ta_X) : ∀ (as bs : List ty_Ru) (p i : Nat), ta_rqs X p i (as ++ bs) = ta_rqs X p i as ++ ta_rqs X (p + (ta_rops as).length) (i + as.length) bs
  | [], bs, p, i => rfl
  | r :: as, bs, p, i => by
    rw [List.cons_append, ta_rqs, ta_rqs, ta_rqs_app X as bs, ← List.append_assoc, ta_rops_len, List.length_cons, Nat.add_assoc p, show i + 1 + as.length = i + (as.length + 1) by omega]
theorem ta_rls_app : ∀ (as bs : List ty_Ru) (p : Nat), ta_rls p (as ++ bs) = ta_rls p as ++ ta_rls (p + (ta_rops as).length) bs
  | [], bs, p => rfl
  | r :: as, bs, p => by
    rw [List.cons_append, ta_rls, ta_rls, ta_rls_app as bs, List.append_assoc, ta_rops_len, Nat.add_assoc p]
theorem ta_rls_len : ∀ (rs : List ty_Ru) (p p' : Nat), (ta_rls p rs).length = (ta_rls p' rs).length
  | [], _, _ => rfl
  | r :: rs, p, p' => by
    rw [ta_rls, ta_rls, List.length_append, List.length_append, ta_lrs_len, ta_lrs_len, ta_rls_len rs _ (p' + (ta_rop r).length)]
theorem ta_rrs_app (T : List tw_Tk) (X : ta_X) (σ : rx_St) : ∀ (as bs : List ty_Ru) (i p a : Nat), ta_rrs T X σ i p a (as ++ bs) ↔ ta_rrs T X σ i p a as ∧ ta_rrs T X σ (i + as.length) (p + (ta_rops as).length) (a + (ta_rls p as).length) bs
  | [], bs, i, p, a => ⟨fun h => ⟨trivial, h⟩, fun h => h.2⟩
  | r :: as, bs, i, p, a => by
    rw [List.cons_append, ta_rrs, ta_rrs, ta_rrs_app T X σ as bs, ta_rops_len, List.length_cons, Nat.add_assoc p, show i + 1 + as.length = i + (as.length + 1) by omega]
    have e : a + r.1.length + (ta_rls (p + (ta_rop r).length) as).length = a + (ta_rls p (r :: as)).length := by
      rw [ta_rls, List.length_append, ta_lrs_len, Nat.add_assoc]
    rw [e]
    exact ⟨fun h => ⟨⟨h.1, h.2.1⟩, h.2.2⟩, fun h => ⟨h.1.1, h.1.2, h.2⟩⟩
/-- another RULE's rows written: those are kept -/
theorem ta_rrs.fr {T : List tw_Tk} {X : ta_X} {σ σ' : rx_St} : ∀ (rs : List ty_Ru) (i p a : Nat), (∀ r ∈ rs, r.2.length ≤ 6) → (∀ q j, (105 ≤ q ∧ q ≤ 107) ∧ j < 8 * X.2.1 + (i + rs.length) ∨ (108 ≤ q ∧ q ≤ 113) ∧ j < 6 * (8 * X.2.1 + (i + rs.length)) → σ'.1 q j = σ.1 q j) → ta_rrs T X σ i p a rs → ta_rrs T X σ' i p a rs
  | [], _, _, _, _, _, _ => trivial
  | r :: rs, i, p, a, h6, f, h => by
    obtain ⟨⟨h1, h2, h3⟩, h4⟩ := h
    rw [List.length_cons] at f
    have l6 := h6 r (List.mem_cons_self ..)
    refine ⟨⟨(f _ _ (by omega)).trans h1, (f _ _ (by omega)).trans h2, h3.fr (fun q j y => f q j ?_)⟩, ta_rrs.fr rs (i + 1) _ _ (fun x hx => h6 x (List.mem_cons_of_mem _ hx)) (fun q j y => f q j (by omega)) h4⟩
    rw [ta_wrs_len] at y
    omega
