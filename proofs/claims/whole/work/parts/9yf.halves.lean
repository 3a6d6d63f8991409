/-! THE MODEL: the rows of a side lie on that side -/
def ta_HR (lv q j : Nat) : Prop := (q = 95 ∨ q = 98) ∧ j = lv ∨ (q = 96 ∨ q = 97) ∧ (6 * lv ≤ j ∧ j < 6 * lv + 6) ∨ (q = 99 ∨ q = 100 ∨ q = 104) ∧ (5 * lv ≤ j ∧ j < 5 * lv + 5) ∨ (101 ≤ q ∧ q ≤ 103) ∧ (30 * lv ≤ j ∧ j < 30 * lv + 30) ∨ (105 ≤ q ∧ q ≤ 107) ∧ (40 * lv ≤ j ∧ j < 40 * lv + 40) ∨ (108 ≤ q ∧ q ≤ 113) ∧ (240 * lv ≤ j ∧ j < 240 * lv + 240) ∨ (114 ≤ q ∧ q ≤ 119) ∧ (250 * lv ≤ j ∧ j < 250 * lv + 250) ∨ (120 ≤ q ∧ q ≤ 122) ∧ (700 * lv ≤ j ∧ j < 700 * lv + 700)
section TBYF
variable {lv q j : Nat}
theorem ta_h1 (h : (q = 95 ∨ q = 98) ∧ j = lv) : ta_HR lv q j := Or.inl h
theorem ta_h2 (h : (q = 96 ∨ q = 97) ∧ (6 * lv ≤ j ∧ j < 6 * lv + 6)) : ta_HR lv q j := Or.inr (Or.inl h)
theorem ta_h3 (h : (q = 99 ∨ q = 100 ∨ q = 104) ∧ (5 * lv ≤ j ∧ j < 5 * lv + 5)) : ta_HR lv q j := Or.inr (Or.inr (Or.inl h))
theorem ta_h4 (h : (101 ≤ q ∧ q ≤ 103) ∧ (30 * lv ≤ j ∧ j < 30 * lv + 30)) : ta_HR lv q j := Or.inr (Or.inr (Or.inr (Or.inl h)))
theorem ta_h5 (h : (105 ≤ q ∧ q ≤ 107) ∧ (40 * lv ≤ j ∧ j < 40 * lv + 40)) : ta_HR lv q j := Or.inr (Or.inr (Or.inr (Or.inr (Or.inl h))))
theorem ta_h6 (h : (108 ≤ q ∧ q ≤ 113) ∧ (240 * lv ≤ j ∧ j < 240 * lv + 240)) : ta_HR lv q j := Or.inr (Or.inr (Or.inr (Or.inr (Or.inr (Or.inl h)))))
theorem ta_h7 (h : (114 ≤ q ∧ q ≤ 119) ∧ (250 * lv ≤ j ∧ j < 250 * lv + 250)) : ta_HR lv q j := Or.inr (Or.inr (Or.inr (Or.inr (Or.inr (Or.inr (Or.inl h))))))
theorem ta_h8 (h : (120 ≤ q ∧ q ≤ 122) ∧ (700 * lv ≤ j ∧ j < 700 * lv + 700)) : ta_HR lv q j := Or.inr (Or.inr (Or.inr (Or.inr (Or.inr (Or.inr (Or.inr h))))))
end TBYF
theorem ta_wr.fr3 {r lv : Nat} {Ws : List ta_Wr} {σ σ' : rx_St} (h : ta_wr r lv Ws σ) (f : ∀ q j, q = 107 ∧ j = r ∨ (108 ≤ q ∧ q ≤ 113) ∧ 6 * r ≤ j ∧ j < 6 * r + Ws.length → σ'.1 q j = σ.1 q j) : ta_wr r lv Ws σ' := by
  obtain ⟨h1, h2⟩ := h
  refine ⟨(f _ _ (by omega)).trans h1, fun p x hx => ?_⟩
  have il := (List.getElem?_eq_some_iff.mp hx).1
  obtain ⟨a, b, c, d⟩ := h2 p x hx
  exact ⟨(f _ _ (by omega)).trans a, (f _ _ (by omega)).trans b, (f _ _ (by omega)).trans c, (f _ _ (by omega)).trans d⟩
theorem ta_rrs.fr3 {T : List tw_Tk} {X : ta_X} {σ σ' : rx_St} : ∀ (rs : List ty_Ru) (i p a : Nat), (∀ r ∈ rs, r.2.length ≤ 6) → i + rs.length ≤ 8 → (∀ q j, (105 ≤ q ∧ q ≤ 107) ∧ (8 * X.2.1 ≤ j ∧ j < 8 * X.2.1 + 8) ∨ (108 ≤ q ∧ q ≤ 113) ∧ (48 * X.2.1 ≤ j ∧ j < 48 * X.2.1 + 48) → σ'.1 q j = σ.1 q j) → ta_rrs T X σ i p a rs → ta_rrs T X σ' i p a rs
  | [], _, _, _, _, _, _, _ => trivial
  | r :: rs, i, p, a, h6, h8, f, h => by
    obtain ⟨⟨h1, h2, h3⟩, h4⟩ := h
    rw [List.length_cons] at h8
    have l6 := h6 r (List.mem_cons_self ..)
    refine ⟨⟨(f _ _ (by omega)).trans h1, (f _ _ (by omega)).trans h2, h3.fr3 (fun q j y => f q j ?_)⟩, ta_rrs.fr3 rs (i + 1) _ _ (fun x hx => h6 x (List.mem_cons_of_mem _ hx)) (by omega) f h4⟩
    rw [ta_wrs_len] at y
    omega
theorem ta_k1.fr3 {lv : Nat} {T : List tw_Tk} {SN : List Nat} {σ σ' : rx_St} {k p a : Nat} {K : ty_Ki} (hk : k < 5) (f : ∀ q j, ta_HR lv q j → σ'.1 q j = σ.1 q j ∧ σ'.2 q j = σ.2 q j) (h : ta_k1 lv T SN σ k p a K) : ta_k1 lv T SN σ' k p a K := by
  obtain ⟨h1, h2, h3, h4, h5, h6⟩ := h
  have l6 := h1.2.1
  have l6' := h1.2.1
  rw [List.length_map] at l6'
  refine ⟨h1.fr (fun q j y => f q j ?_), h2.fr (fun q j y => (f q j (ta_h4 (by omega))).1), ((f _ _ (ta_h3 (by omega))).1).trans h3, h4, h5, ta_rrs.fr3 _ _ _ _ h5 (by omega) (fun q j y => (f q j ?_).1) h6⟩
  · rcases y with y | y
    · exact ta_h3 (by omega)
    · exact ta_h4 (by omega)
  · have y : (105 ≤ q ∧ q ≤ 107) ∧ (8 * (5 * lv + k) ≤ j ∧ j < 8 * (5 * lv + k) + 8) ∨ (108 ≤ q ∧ q ≤ 113) ∧ (48 * (5 * lv + k) ≤ j ∧ j < 48 * (5 * lv + k) + 48) := y
    rcases y with y | y
    · exact ta_h5 (by omega)
    · exact ta_h6 (by omega)
theorem ta_kr.fr3 {lv : Nat} {T : List tw_Tk} {SN : List Nat} {σ σ' : rx_St} (f : ∀ q j, ta_HR lv q j → σ'.1 q j = σ.1 q j ∧ σ'.2 q j = σ.2 q j) : ∀ (Ks : List ty_Ki) (k p a : Nat), k + Ks.length ≤ 5 → ta_kr lv T SN σ k p a Ks → ta_kr lv T SN σ' k p a Ks
  | [], _, _, _, _, _ => trivial
  | K :: Ks, k, p, a, h, ⟨h1, h2⟩ => by
    rw [List.length_cons] at h
    exact ⟨ta_k1.fr3 (by omega) f h1, ta_kr.fr3 f Ks (k + 1) _ _ (by omega) h2⟩
theorem ta_mr.fr {lv : Nat} {T : List tw_Tk} {U : ty_Wo} {σ σ' : rx_St} (h : ta_mr lv T U σ) (hU : ty_vP T U) (f : ∀ q j, ta_HR lv q j → σ'.1 q j = σ.1 q j ∧ σ'.2 q j = σ.2 q j) : ta_mr lv T U σ' := by
  obtain ⟨h1, h2, h3, h4, h5, h6, h7, h8, h9⟩ := h
  have u5 : U.2.length ≤ 5 := hU.2.2.2
  have l86 : ∀ K ∈ U.2, K.2.2.length ≤ 8 ∧ ∀ r ∈ K.2.2, r.2.length ≤ 6 := fun K hK => ⟨(hU.2.2.1 K hK).2.2.2.2, fun r hr => ((hU.2.2.1 K hK).2.2.1 r hr).2.2.1⟩
  have qd := ta_kQ_qd lv (ty_sn U) U.2 0 0 l86
  have s6 := h1.2.1
  have k5 := h3.2.1
  have ss : U.1.length ≤ 6 := hU.2.1
  refine ⟨h1.fr (fun q j y => f q j ?_), h2.fr (fun j y => (f _ _ (ta_h2 (by omega))).1), h3.fr (fun q j y => f q j ?_), ta_kr.fr3 f U.2 0 0 0 (by omega) h4, fun p x hx => ?_, fun p x hx => ?_, fun x hx => ?_, h8, h9⟩
  · rcases y with y | y
    · exact ta_h1 (by omega)
    · exact ta_h2 (by omega)
  · rcases y with y | y
    · exact ta_h1 (by omega)
    · exact ta_h3 (by omega)
  · have il := (List.getElem?_eq_some_iff.mp hx).1
    obtain ⟨a1, a2, a3, a4, a5, a6⟩ := h5 p x hx
    have g : ∀ q, 114 ≤ q → q ≤ 119 → σ'.1 q (250 * lv + p) = σ.1 q (250 * lv + p) := fun q b c => (f _ _ (ta_h7 (by omega))).1
    exact ⟨(g _ (by omega) (by omega)).trans a1, (g _ (by omega) (by omega)).trans a2, (g _ (by omega) (by omega)).trans a3, (g _ (by omega) (by omega)).trans a4, (g _ (by omega) (by omega)).trans a5, (g _ (by omega) (by omega)).trans a6⟩
  · have il := (List.getElem?_eq_some_iff.mp hx).1
    rw [ta_kC_len] at il
    have g : ∀ q, 120 ≤ q → q ≤ 122 → σ'.1 q (700 * lv + p) = σ.1 q (700 * lv + p) := fun q b c => (f _ _ (ta_h8 (by omega))).1
    obtain ⟨a1, a2⟩ := h6 p x hx
    exact ⟨(g _ (by omega) (by omega)).trans a1, fun z => ⟨(g _ (by omega) (by omega)).trans (a2 z).1, (g _ (by omega) (by omega)).trans (a2 z).2⟩⟩
  · intro o w e e'
    obtain ⟨a1, a2⟩ := h7 x hx o w e e'
    have b := qd.2.1 x hx
    refine ⟨fun z => ?_, fun z => ?_⟩
    · have b2 := b.2 z
      have g : ∀ q, q = 110 ∨ q = 111 → σ'.1 q x.2.1 = σ.1 q x.2.1 := fun q c => (f _ _ (ta_h6 (by omega))).1
      exact ⟨(g _ (by omega)).trans (a1 z).1, (g _ (by omega)).trans (a1 z).2⟩
    · have b2 := b.1 z
      have g : ∀ q, q = 121 ∨ q = 122 → σ'.1 q x.2.1 = σ.1 q x.2.1 := fun q c => (f _ _ (ta_h8 (by omega))).1
      exact ⟨(g _ (by omega)).trans (a2 z).1, (g _ (by omega)).trans (a2 z).2⟩
/-- what one side's text writes is not the other's -/
theorem ta_HRn {lv q j : Nat} (hl : lv ≤ 1) (h : ta_HR lv q j) : ¬ ta_SM (1 - lv) q j ∧ ¬ ta_SZ q j := by
  have l2 : lv = 0 ∨ lv = 1 := by omega
  refine ⟨fun y => ?_, fun y => ?_⟩
  · rcases y with y | y | y
    · rcases h with h | h | h | h | h | h | h | h <;> omega
    · rcases h with h | h | h | h | h | h | h | h <;> omega
    · unfold ta_SH at y
      rcases l2 with rfl | rfl
      · rcases h with h | h | h | h | h | h | h | h <;> omega
      · rcases h with h | h | h | h | h | h | h | h <;> omega
  · unfold ta_SZ at y
    rcases h with h | h | h | h | h | h | h | h <;> omega
