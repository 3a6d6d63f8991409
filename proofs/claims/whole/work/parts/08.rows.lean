/-! ROWS: a function's answer, followed along the walk -/
def rx_fu : Nat := 100000
abbrev rx_D (P : List Nat) (σ : rx_St) : rx_X := (162, 0, 0, [], P, σ)
def rx_g {α : Type} (i : Int32) (n : Nat) (x : Option α) : Option α := if i < 0 ∨ n ≤ i.toNatClampNeg then none else x
def rx_c {α : Type} (c : Prop) [Decidable c] (x : Option α) : Option α := if c then x else none
def rx_ishl (a b : Int32) : Int32 := a <<< (b &&& 31)
def rx_ishr (a b : Int32) : Int32 := a >>> (b &&& 31)
def rx_iushr (a b : Int32) : Int32 := (a.toUInt32 >>> (b.toUInt32 &&& Int32.toUInt32 31)).toInt32
def rx_irem (a b : Int32) : Int32 := a - a / b * b
theorem rr_if {α : Type} {c F G : Prop} [Decidable c] {X Y o : α} (h : (if c then X else Y) = o) (f : c → X = o → F) (g : ¬ c → Y = o → G) : rx_br c F G := ⟨fun q => f q (by rw [if_pos q] at h; exact h), fun q => g q (by rw [if_neg q] at h; exact h)⟩
theorem rr_g {α : Type} {i : Int32} {n : Nat} {G : Prop} {X : Option α} {o : α} (h : rx_g i n X = some o) (f : vp_in i n → X = some o → G) : rx_ck (vp_in i n) G := by
  unfold rx_g at h
  by_cases q : i < 0 ∨ n ≤ i.toNatClampNeg
  · rw [if_pos q] at h; cases h
  · rw [if_neg q] at h; exact ⟨q, f q h⟩
theorem rr_c {α : Type} {c G : Prop} [Decidable c] {X : Option α} {o : α} (h : rx_c c X = some o) (f : c → X = some o → G) : rx_ck c G := by
  unfold rx_c at h
  by_cases q : c
  · rw [if_pos q] at h; exact ⟨q, f q h⟩
  · rw [if_neg q] at h; cases h
theorem rr_cE {α : Type} {c : Prop} [Decidable c] {X : Option α} {o : α} (h : rx_c c X = some o) : c ∧ X = some o := by
  unfold rx_c at h
  by_cases q : c
  · rw [if_pos q] at h; exact ⟨q, h⟩
  · rw [if_neg q] at h; cases h
theorem rr_ck {c G : Prop} (a : c) (f : G) : rx_ck c G := ⟨a, f⟩
theorem rr_callT {K : rx_KT} {v r : Option Value} {P P' P2 : List Nat} {σ σ' σ2 : rx_St} {a : Nat} {args : List Value} {is : List rx_I} {L : rx_L} {st : List Value} (hok : rx_OK a args 162 [] P σ (r, rx_D P2 σ2)) (k : K is L (r.toList ++ st) (rx_D P2 σ2)) (hn : rx_nr r = true := by rfl) : rx_cl_ K (v, rx_D P' σ') a args is L st (rx_D P σ) :=
  ⟨r, 162, 0, 0, [], P2, σ2, hok, ⟨hn, Nat.le_refl _, Nat.le_refl _, Nat.le_refl _⟩, k⟩
theorem rr_callP {β : Type} {K : rx_KT} {v : Option Value} {P P' P2 : List Nat} {σ σ' σ2 : rx_St} {a : Nat} {args : List Value} {is : List rx_I} {L : rx_L} {st : List Value} {F : Option Int32} {G : Int32 → Option β} {o : β} (h : F.bind G = some o) (hok : ∀ y, F = some y → rx_OK a args 162 [] P σ (some (.int y), rx_D P2 σ2)) (k : ∀ y, F = some y → G y = some o → K is L (.int y :: st) (rx_D P2 σ2)) : rx_cl_ K (v, rx_D P' σ') a args is L st (rx_D P σ) := by
  cases hF : F with
  | none => rw [hF] at h; cases h
  | some y => rw [hF] at h; exact rr_callT (hok y hF) (k y hF h)
theorem rr_callPL {β : Type} {K : rx_KT} {v : Option Value} {P P' P2 : List Nat} {σ σ' σ2 : rx_St} {a : Nat} {args : List Value} {is : List rx_I} {L : rx_L} {st : List Value} {F : Option Int64} {G : Int64 → Option β} {o : β} (h : F.bind G = some o) (hok : ∀ y, F = some y → rx_OK a args 162 [] P σ (some (.long y), rx_D P2 σ2)) (k : ∀ y, F = some y → G y = some o → K is L (.long y :: st) (rx_D P2 σ2)) : rx_cl_ K (v, rx_D P' σ') a args is L st (rx_D P σ) := by
  cases hF : F with
  | none => rw [hF] at h; cases h
  | some y => rw [hF] at h; exact rr_callT (hok y hF) (k y hF h)
theorem rr_callS {β : Type} {K : rx_KT} {v : Option Value} {P P' P2 : List Nat} {σ σ' : rx_St} {a : Nat} {args : List Value} {is : List rx_I} {L : rx_L} {st : List Value} {F : Option (Int32 × rx_St)} {G : Int32 × rx_St → Option β} {o : β} (h : F.bind G = some o) (hok : ∀ y, F = some y → rx_OK a args 162 [] P σ (some (.int y.1), rx_D P2 y.2)) (k : ∀ y, F = some y → G y = some o → K is L (.int y.1 :: st) (rx_D P2 y.2)) : rx_cl_ K (v, rx_D P' σ') a args is L st (rx_D P σ) := by
  cases hF : F with
  | none => rw [hF] at h; cases h
  | some y => rw [hF] at h; exact rr_callT (hok y hF) (k y hF h)
theorem rr_callSL {β : Type} {K : rx_KT} {v : Option Value} {P P' P2 : List Nat} {σ σ' : rx_St} {a : Nat} {args : List Value} {is : List rx_I} {L : rx_L} {st : List Value} {F : Option (Int64 × rx_St)} {G : Int64 × rx_St → Option β} {o : β} (h : F.bind G = some o) (hok : ∀ y, F = some y → rx_OK a args 162 [] P σ (some (.long y.1), rx_D P2 y.2)) (k : ∀ y, F = some y → G y = some o → K is L (.long y.1 :: st) (rx_D P2 y.2)) : rx_cl_ K (v, rx_D P' σ') a args is L st (rx_D P σ) := by
  cases hF : F with
  | none => rw [hF] at h; cases h
  | some y => rw [hF] at h; exact rr_callT (hok y hF) (k y hF h)
theorem rr_callV {β : Type} {K : rx_KT} {v : Option Value} {P P' P2 : List Nat} {σ σ' : rx_St} {a : Nat} {args : List Value} {is : List rx_I} {L : rx_L} {st : List Value} {F : Option rx_St} {G : rx_St → Option β} {o : β} (h : F.bind G = some o) (hok : ∀ y, F = some y → rx_OK a args 162 [] P σ (none, rx_D P2 y)) (k : ∀ y, F = some y → G y = some o → K is L st (rx_D P2 y)) : rx_cl_ K (v, rx_D P' σ') a args is L st (rx_D P σ) := by
  cases hF : F with
  | none => rw [hF] at h; cases h
  | some y => rw [hF] at h; exact rr_callT (hok y hF) (k y hF h)
