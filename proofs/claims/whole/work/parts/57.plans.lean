/-! PLANS OF TRIALS: tells and fewest; both sides say that no two asked effects are mixed -/
theorem tw_ifE {α : Type} {c d : Prop} [Decidable c] [Decidable d] (h : c = d) {a b : α} : (if c then a else b) = (if d then a else b) := by
  by_cases x : c
  · rw [if_pos x, if_pos (h ▸ x)]
  · rw [if_neg x, if_neg (h ▸ x)]
def tp_A (v : Int32) (i : Nat) : Prop := ¬ ((rx_ishr v (nI i)) &&& (1 : Int32)) = (0 : Int32)
def tp_E (e i : Nat) : Int32 := f_pla_effectAt (nI e) (nI i)
def tp_sm (p : Int32) (T : Nat → Int32) : Nat → Int32
  | 0 => nI 0
  | i + 1 => if ((rx_ishr p (nI i)) &&& (1 : Int32)) = (0 : Int32) then tp_sm p T i else tp_sm p T i + T i
/-- the answer is `some 0`, unless P holds: then it is x -/
def tp_q (P : Prop) (r x : Option Int32) : Prop := (P → r = x) ∧ (¬ P → r = some (nI 0))
theorem tp_q.of {P Q : Prop} {r x : Option Int32} (h : tp_q P r x) (f : P ↔ Q) : tp_q Q r x := ⟨fun q => h.1 (f.mpr q), fun q => h.2 (fun p => q (f.mp p))⟩
theorem tp_q.and {P Q : Prop} {r x y : Option Int32} (h : tp_q P r x) (g : tp_q Q x y) : tp_q (P ∧ Q) r y :=
  ⟨fun q => (h.1 q.1).trans (g.1 q.2), fun q => by
    by_cases hp : P
    · exact (h.1 hp).trans (g.2 (fun hq => q ⟨hp, hq⟩))
    · exact h.2 hp⟩
set_option maxRecDepth 100000 in
theorem tp_eff : ∀ e, e < 8 → ∀ i, i < 8 → f_m_effectOf (nI e) (nI i) = some (f_pla_effectAt (nI e) (nI i)) := by decide +kernel
set_option maxRecDepth 100000 in
theorem tp_eff0 : ∀ e, e < 8 → ∀ i, i < 8 → f_pla_effectAt (nI e) (nI i) * f_pla_effectAt (nI 0) (nI i) = f_pla_effectAt (nI e) (nI i) := by decide +kernel
set_option maxRecDepth 100000 in
theorem tp_bits : ∀ p, p < 256 → f_m_bits (nI p) = some (f_j_bitCount (nI p)) := by decide +kernel
set_option maxRecDepth 100000 in
theorem tp_or : ∀ x, x < 256 → ∀ i, i < 8 → ((rx_ishr (nI x ||| (1 : Int32)) (nI i)) &&& (1 : Int32)) = if i = 0 then (1 : Int32) else ((rx_ishr (nI x) (nI i)) &&& (1 : Int32)) := by decide +kernel
theorem tp_orA {x i : Nat} (hx : x < 256) (hi : i < 8) : tp_A (nI x ||| (1 : Int32)) i ↔ i = 0 ∨ tp_A (nI x) i := by
  unfold tp_A
  rw [tp_or x hx i hi]
  by_cases h : i = 0
  · rw [if_pos h]; exact ⟨fun _ => Or.inl h, fun _ => by decide⟩
  · rw [if_neg h]; exact ⟨fun q => Or.inr q, fun q => q.resolve_left h⟩
theorem tp_nl {a b : Nat} (ha : a < 2147483648) (hb : b < 2147483648) (h : ¬ a ≤ b) : ¬ nI a ≤ nI b := by rw [tw_le ha hb]; exact h
theorem tp_yl {a b : Nat} (ha : a < 2147483648) (hb : b < 2147483648) (h : a ≤ b) : nI a ≤ nI b := by rw [tw_le ha hb]; exact h
theorem tp_smE (p : Int32) {T U : Nat → Int32} : ∀ i, (∀ x, x < i → T x = U x) → tp_sm p T i = tp_sm p U i
  | 0, _ => rfl
  | i + 1, h => by
    unfold tp_sm
    rw [tp_smE p i (fun x hx => h x (by omega)), h i (by omega)]
section TP
variable {k R : Nat}
theorem tp_csum (hk : rx_ishl (1 : Int32) (nI k) = nI R) (hR : R ≤ 8) {p : Int32} {e f : Nat} : ∀ n i, R - i < n → i ≤ R → f_pla_sumOfProducts_6 n (nI k) p (nI e) (nI f) (tp_sm p (fun x => tp_E e x * tp_E f x) i) (nI i) = some (tp_sm p (fun x => tp_E e x * tp_E f x) R) := by
  intro n
  induction n with
  | zero => intro i h; exact absurd h (Nat.not_lt_zero _)
  | succ n ih =>
    intro i h hi
    unfold f_pla_sumOfProducts_6
    rw [show f_pla_rows (nI k) = nI R from hk]
    by_cases c : i = R
    · subst c
      exact if_pos (tp_yl (by omega) (by omega) (Nat.le_refl _))
    · rw [if_neg (tp_nl (by omega) (by omega) (by omega))]
      have g := ih (i + 1) (by omega) (by omega)
      by_cases a : tp_A p i
      · rw [if_neg a]
        rw [show tp_sm p (fun x => tp_E e x * tp_E f x) (i + 1) = tp_sm p (fun x => tp_E e x * tp_E f x) i + tp_E e i * tp_E f i from if_neg a] at g
        unfold f_pla_sumOfProducts_42
        rw [show nI i + (1 : Int32) = nI (i + 1) from nI_add i 1]
        exact g
      · rw [if_pos (Classical.not_not.mp a)]
        rw [show tp_sm p (fun x => tp_E e x * tp_E f x) (i + 1) = tp_sm p (fun x => tp_E e x * tp_E f x) i from if_pos (Classical.not_not.mp a)] at g
        unfold f_pla_sumOfProducts_42
        rw [show nI i + (1 : Int32) = nI (i + 1) from nI_add i 1]
        exact g
theorem tp_csum0 (hk : rx_ishl (1 : Int32) (nI k) = nI R) (hR : R ≤ 8) {p : Int32} {e f : Nat} : f_pla_sumOfProducts (nI k) p (nI e) (nI f) = some (tp_sm p (fun x => tp_E e x * tp_E f x) R) :=
  tp_csum hk hR rx_fu 0 (by unfold rx_fu; omega) (Nat.zero_le _)
def tp_good (R : Nat) (p v : Int32) (e f : Nat) : Prop := tp_A v e → tp_A v f → tp_sm p (fun x => tp_E e x * tp_E f x) R = nI 0
theorem tp_c19 (hk : rx_ishl (1 : Int32) (nI k) = nI R) (hR : R ≤ 8) {k7 : Int32 → Int32 → Int32 → Int32 → Option (Int32)} {p v : Int32} {e : Nat} (he : e < R) : ∀ n f, e - f < n → f ≤ e → tp_q (∀ x, f ≤ x → x < e → tp_good R p v e x) (f_pla_isTelling_19 k7 n (nI k) p v (nI e) (nI f)) (k7 (nI k) p v (nI (e + 1))) := by
  intro n
  induction n with
  | zero => intro i h; exact absurd h (Nat.not_lt_zero _)
  | succ n ih =>
    intro f h hf
    unfold f_pla_isTelling_19
    by_cases c : f = e
    · subst c
      rw [if_pos (tp_yl (by omega) (by omega) (Nat.le_refl _)), show nI f + (1 : Int32) = nI (f + 1) from nI_add f 1]
      exact ⟨fun _ => rfl, fun q => absurd (fun x h1 h2 => absurd h1 (by omega)) q⟩
    · rw [if_neg (tp_nl (by omega) (by omega) (by omega))]
      have g := ih (f + 1) (by omega) (by omega)
      have e70 : f_pla_isTelling_70 k7 (f_pla_isTelling_19 k7 n) (nI k) p v (nI e) (nI f) = f_pla_isTelling_19 k7 n (nI k) p v (nI e) (nI (f + 1)) := by
        unfold f_pla_isTelling_70
        rw [show nI f + (1 : Int32) = nI (f + 1) from nI_add f 1]
      have e49 : f_pla_isTelling_49 k7 (f_pla_isTelling_19 k7 n) (nI k) p v (nI e) (nI f) (0 : Int32) = f_pla_isTelling_19 k7 n (nI k) p v (nI e) (nI (f + 1)) := by
        unfold f_pla_isTelling_49
        rw [if_pos rfl, e70]
      have hi : tp_good R p v e f → ((∀ x, f + 1 ≤ x → x < e → tp_good R p v e x) ↔ (∀ x, f ≤ x → x < e → tp_good R p v e x)) := fun hg =>
        ⟨fun q x h1 h2 => by
          by_cases cx : x = f
          · subst cx; exact hg
          · exact q x (by omega) h2, fun q x h1 h2 => q x (by omega) h2⟩
      by_cases a1 : tp_A v e
      · by_cases a2 : tp_A v f
        · rw [if_neg a1, if_neg a2]
          unfold f_pla_isTelling_49
          rw [if_neg (by decide), tp_csum0 hk hR, Option.bind_some]
          by_cases z : tp_sm p (fun x => tp_E e x * tp_E f x) R = nI 0
          · rw [if_pos (show _ = (0 : Int32) from z), e70]
            exact g.of (hi (fun _ _ => z))
          · rw [if_neg (show ¬ _ = (0 : Int32) from z)]
            exact ⟨fun q => absurd (q f (Nat.le_refl _) (by omega) a1 a2) z, fun _ => rfl⟩
        · rw [if_neg a1, if_pos (Classical.not_not.mp a2)]
          unfold f_pla_isTelling_48
          rw [e49]
          exact g.of (hi (fun _ x => absurd x a2))
      · rw [if_pos (Classical.not_not.mp a1)]
        unfold f_pla_isTelling_48
        rw [e49]
        exact g.of (hi (fun x => absurd x a1))
theorem tp_c7 (hk : rx_ishl (1 : Int32) (nI k) = nI R) (hR : R ≤ 8) {p v : Int32} : ∀ n e, R - e < n → e ≤ R → tp_q (∀ y, e ≤ y → y < R → ∀ x, x < y → tp_good R p v y x) (f_pla_isTelling_7 n (nI k) p v (nI e)) (some (nI 1)) := by
  intro n
  induction n with
  | zero => intro i h; exact absurd h (Nat.not_lt_zero _)
  | succ n ih =>
    intro e h he
    unfold f_pla_isTelling_7
    rw [show f_pla_rows (nI k) = nI R from hk]
    by_cases c : e = R
    · subst c
      rw [if_pos (tp_yl (by omega) (by omega) (Nat.le_refl _))]
      exact ⟨fun _ => rfl, fun q => absurd (fun y h1 h2 => absurd h1 (by omega)) q⟩
    · rw [if_neg (tp_nl (by omega) (by omega) (by omega))]
      have g := tp_c19 hk hR (k7 := f_pla_isTelling_7 n) (p := p) (v := v) (e := e) (by omega) rx_fu 0 (by unfold rx_fu; omega) (Nat.zero_le _)
      refine (g.and (ih (e + 1) (by omega) (by omega))).of ⟨fun q y h1 h2 x h3 => ?_, fun q => ⟨fun x h1 h2 => q e (Nat.le_refl _) (by omega) x h2, fun y h1 h2 => q y (by omega) h2⟩⟩
      by_cases cy : y = e
      · subst cy; exact q.1 x (Nat.zero_le _) h3
      · exact q.2 y (by omega) h2 x h3
theorem tp_ctell (hk : rx_ishl (1 : Int32) (nI k) = nI R) (hR : R ≤ 8) {p v : Int32} (hR1 : 1 ≤ R) : tp_q (∀ y, 1 ≤ y → y < R → ∀ x, x < y → tp_good R p (v ||| (1 : Int32)) y x) (f_pla_isTelling (nI k) p v) (some (nI 1)) :=
  tp_c7 hk hR rx_fu 1 (by unfold rx_fu; omega) hR1
/-! the model -/
def tp_mT (j i : Nat) (x : Nat) : Int32 := if i = j then tp_E j x else tp_E j x * tp_E i x
theorem tp_m49 (hk : rx_ishl (1 : Int32) (nI k) = nI R) (hR : R ≤ 8) {k2 : Int32 → Int32 → Int32 → Int32 → Option (Int32)} {k23 : Int32 → Int32 → Int32 → Int32 → Int32 → Option (Int32)} {p v : Int32} {j i : Nat} (hj : j < R) (hi : i < R) : ∀ n x, R - x < n → x ≤ R → tp_q (tp_sm p (tp_mT j i) R = nI 0) (f_m_areTold_49 k2 k23 n (nI k) p v (nI j) (nI i) (tp_sm p (tp_mT j i) x) (nI x)) (k23 (nI k) p v (nI j) (nI (i + 1))) := by
  intro n
  induction n with
  | zero => intro i h; exact absurd h (Nat.not_lt_zero _)
  | succ n ih =>
    intro x h hx
    unfold f_m_areTold_49
    rw [hk]
    by_cases c : x = R
    · subst c
      rw [if_pos (tp_yl (by omega) (by omega) (Nat.le_refl _))]
      unfold f_m_areTold_116
      rw [show nI i + (1 : Int32) = nI (i + 1) from nI_add i 1]
      exact ⟨fun q => if_pos q, fun q => if_neg q⟩
    · rw [if_neg (tp_nl (by omega) (by omega) (by omega))]
      have g := ih (x + 1) (by omega) (by omega)
      have e103 : ∀ s, f_m_areTold_103 k2 k23 (f_m_areTold_49 k2 k23 n) (nI k) p v (nI j) (nI i) s (nI x) = f_m_areTold_49 k2 k23 n (nI k) p v (nI j) (nI i) s (nI (x + 1)) := fun s => by
        unfold f_m_areTold_103
        rw [show nI x + (1 : Int32) = nI (x + 1) from nI_add x 1]
      by_cases a : tp_A p x
      · rw [if_neg a]
        rw [show tp_sm p (tp_mT j i) (x + 1) = tp_sm p (tp_mT j i) x + tp_mT j i x from if_neg a] at g
        by_cases ij : i = j
        · subst ij
          rw [if_pos rfl, tp_eff i (by omega) x (by omega), Option.bind_some]
          unfold f_m_areTold_100
          rw [e103, show f_pla_effectAt (nI i) (nI x) = tp_mT i i x from (if_pos rfl).symm]
          exact g
        · rw [if_neg (by rw [tw_eq (by omega) (by omega)]; exact ij), tp_eff j (by omega) x (by omega), Option.bind_some, tp_eff i (by omega) x (by omega), Option.bind_some]
          unfold f_m_areTold_100
          rw [e103, show f_pla_effectAt (nI j) (nI x) * f_pla_effectAt (nI i) (nI x) = tp_mT j i x from (if_neg ij).symm]
          exact g
      · rw [if_pos (Classical.not_not.mp a), e103]
        rw [show tp_sm p (tp_mT j i) (x + 1) = tp_sm p (tp_mT j i) x from if_pos (Classical.not_not.mp a)] at g
        exact g
def tp_mgood (R : Nat) (p v : Int32) (j i : Nat) : Prop := tp_A v i → tp_sm p (tp_mT j i) R = nI 0
theorem tp_m23 (hk : rx_ishl (1 : Int32) (nI k) = nI R) (hR : R ≤ 8) {k2 : Int32 → Int32 → Int32 → Int32 → Option (Int32)} {p v : Int32} {j : Nat} (hj : j < R) : ∀ n i, R - i < n → i ≤ R → tp_q (∀ y, i ≤ y → y < R → tp_mgood R p v j y) (f_m_areTold_23 k2 n (nI k) p v (nI j) (nI i)) (k2 (nI k) p v (nI (j + 1))) := by
  intro n
  induction n with
  | zero => intro i h; exact absurd h (Nat.not_lt_zero _)
  | succ n ih =>
    intro i h hi
    unfold f_m_areTold_23
    rw [hk]
    by_cases c : i = R
    · subst c
      rw [if_pos (tp_yl (by omega) (by omega) (Nat.le_refl _))]
      unfold f_m_areTold_122
      rw [show nI j + (1 : Int32) = nI (j + 1) from nI_add j 1]
      exact ⟨fun _ => rfl, fun q => absurd (fun x h1 h2 => absurd h1 (by omega)) q⟩
    · rw [if_neg (tp_nl (by omega) (by omega) (by omega))]
      have g := ih (i + 1) (by omega) (by omega)
      by_cases a : tp_A v i
      · rw [if_neg a]
        have g0 := tp_m49 hk hR (k2 := k2) (k23 := f_m_areTold_23 k2 n) (p := p) (v := v) hj (show i < R by omega) rx_fu 0 (by unfold rx_fu; omega) (Nat.zero_le _)
        refine (g0.and g).of ⟨fun q y h1 h2 => ?_, fun q => ⟨q i (Nat.le_refl _) (by omega) a, fun y h1 h2 => q y (by omega) h2⟩⟩
        by_cases cy : y = i
        · subst cy; exact fun _ => q.1
        · exact q.2 y (by omega) h2
      · rw [if_pos (Classical.not_not.mp a)]
        unfold f_m_areTold_116
        rw [show nI i + (1 : Int32) = nI (i + 1) from nI_add i 1]
        refine g.of ⟨fun q y h1 h2 => ?_, fun q y h1 h2 => q y (by omega) h2⟩
        by_cases cy : y = i
        · subst cy; exact fun x => absurd x a
        · exact q y (by omega) h2
theorem tp_m2 (hk : rx_ishl (1 : Int32) (nI k) = nI R) (hR : R ≤ 8) {p v : Int32} : ∀ n j, R - j < n → j ≤ R → tp_q (∀ x, j ≤ x → x < R → tp_A v x → ∀ y, x ≤ y → y < R → tp_mgood R p v x y) (f_m_areTold_2 n (nI k) p v (nI j)) (some (nI 1)) := by
  intro n
  induction n with
  | zero => intro i h; exact absurd h (Nat.not_lt_zero _)
  | succ n ih =>
    intro j h hj
    unfold f_m_areTold_2
    rw [hk]
    by_cases c : j = R
    · subst c
      rw [if_pos (tp_yl (by omega) (by omega) (Nat.le_refl _))]
      exact ⟨fun _ => rfl, fun q => absurd (fun x h1 h2 => absurd h1 (by omega)) q⟩
    · rw [if_neg (tp_nl (by omega) (by omega) (by omega))]
      have g := ih (j + 1) (by omega) (by omega)
      by_cases a : tp_A v j
      · rw [if_neg a]
        have g0 := tp_m23 hk hR (k2 := f_m_areTold_2 n) (p := p) (v := v) (show j < R by omega) rx_fu j (by unfold rx_fu; omega) hj
        refine (g0.and g).of ⟨fun q x h1 h2 => ?_, fun q => ⟨q j (Nat.le_refl _) (by omega) a, fun y h1 h2 => q y (by omega) h2⟩⟩
        by_cases cy : x = j
        · subst cy; exact fun _ => q.1
        · exact q.2 x (by omega) h2
      · rw [if_pos (Classical.not_not.mp a)]
        unfold f_m_areTold_122
        rw [show nI j + (1 : Int32) = nI (j + 1) from nI_add j 1]
        refine g.of ⟨fun q y h1 h2 => ?_, fun q y h1 h2 => q y (by omega) h2⟩
        by_cases cy : y = j
        · subst cy; exact fun x => absurd x a
        · exact q y (by omega) h2
theorem tp_mtell (hk : rx_ishl (1 : Int32) (nI k) = nI R) (hR : R ≤ 8) {p v : Int32} (hR1 : 1 ≤ R) : tp_q (∀ x, 1 ≤ x → x < R → tp_A v x → ∀ y, x ≤ y → y < R → tp_mgood R p v x y) (f_m_areTold (nI k) p v) (some (nI 1)) :=
  tp_m2 hk hR rx_fu 1 (by unfold rx_fu; omega) hR1
/-- both sides say the same of a plan -/
theorem tp_same (hk : rx_ishl (1 : Int32) (nI k) = nI R) (hR : R ≤ 8) {x : Nat} {p : Int32} (hx : x < 256) (hR1 : 1 ≤ R) : ∃ b : Bool, f_pla_isTelling (nI k) p (nI x) = some (tw_B b) ∧ f_m_areTold (nI k) p (nI x) = some (tw_B b) := by
  have h1 := tp_ctell hk hR (p := p) (v := nI x) hR1
  have h2 := tp_mtell hk hR (p := p) (v := nI x) hR1
  have h3 := h2.of (Q := ∀ y, 1 ≤ y → y < R → ∀ z, z < y → tp_good R p (nI x ||| (1 : Int32)) y z) ⟨fun q y c1 c2 z c3 a1 a2 => ?_, fun q j c1 c2 aj i c3 c4 ai => ?_⟩
  · by_cases P : ∀ y, 1 ≤ y → y < R → ∀ z, z < y → tp_good R p (nI x ||| (1 : Int32)) y z
    · exact ⟨true, h1.1 P, h3.1 P⟩
    · exact ⟨false, h1.2 P, h3.2 P⟩
  · have b1 := ((tp_orA hx (show y < 8 by omega)).mp a1).resolve_left (by omega)
    rcases (tp_orA hx (show z < 8 by omega)).mp a2 with b2 | b2
    · subst b2
      have := q y c1 c2 b1 y (Nat.le_refl _) c2 b1
      rw [← this]
      exact tp_smE p R (fun i hi => (tp_eff0 y (by omega) i (by omega)).trans (if_pos rfl).symm)
    · by_cases cz : z = 0
      · subst cz
        have := q y c1 c2 b1 y (Nat.le_refl _) c2 b1
        rw [← this]
        exact tp_smE p R (fun i hi => (tp_eff0 y (by omega) i (by omega)).trans (if_pos rfl).symm)
      · have := q z (by omega) (by omega) b2 y (by omega) c2 b1
        rw [← this]
        exact tp_smE p R (fun i hi => (Int32.mul_comm _ _).trans (if_neg (by omega)).symm)
  · have b1 := (tp_orA hx (show j < 8 by omega)).mpr (Or.inr aj)
    have b2 := (tp_orA hx (show i < 8 by omega)).mpr (Or.inr ai)
    by_cases ij : i = j
    · subst ij
      have := q i c1 c2 0 (by omega) b1 ((tp_orA hx (show 0 < 8 by omega)).mpr (Or.inl rfl))
      rw [← this]
      exact tp_smE p R (fun y hy => (if_pos rfl).trans (tp_eff0 i (by omega) y (by omega)).symm)
    · have := q i (by omega) c4 j (by omega) b2 b1
      rw [← this]
      exact tp_smE p R (fun y hy => (if_neg ij).trans (Int32.mul_comm _ _))
/-- fewest: both loops -/
theorem tp_few (hk : rx_ishl (1 : Int32) (nI k) = nI R) (hR : R ≤ 8) {x M : Nat} (hM : rx_ishl (1 : Int32) (nI R) = nI M) (hM2 : M ≤ 256) (hx : x < 256) (hR1 : 1 ≤ R) (σ : rx_St) : ∀ n i best cnt, M - i < n → i ≤ M → (best = (-2 : Int32) ∧ cnt = nI 0 ∨ ∃ b, b < M ∧ best = nI b ∧ cnt = f_j_bitCount (nI b)) → ∃ o, f_pla_fewestRows_5 n (nI k) (nI x) best (nI i) = some o ∧ f_m_fewest_24 n (nI k) (nI x) best cnt (nI i) σ = some (o, σ) := by
  intro n
  induction n with
  | zero => intro i _ _ h; exact absurd h (Nat.not_lt_zero _)
  | succ n ih =>
    intro i best cnt h hi hb
    unfold f_pla_fewestRows_5 f_m_fewest_24
    rw [show f_pla_rows (nI k) = nI R from hk, hk, hM]
    by_cases c : i = M
    · subst c
      rw [if_pos (tp_yl (by omega) (by omega) (Nat.le_refl _)), if_pos (tp_yl (by omega) (by omega) (Nat.le_refl _))]
      exact ⟨best, rfl, rfl⟩
    · rw [if_neg (tp_nl (by omega) (by omega) (by omega)), if_neg (tp_nl (by omega) (by omega) (by omega))]
      have hi1 : nI i + (1 : Int32) = nI (i + 1) := nI_add i 1
      have try1 : ∃ o, f_pla_fewestRows_30 (f_pla_fewestRows_5 n) (nI k) (nI x) best (nI i) = some o ∧ f_m_fewest_50 (f_m_fewest_24 n) (nI k) (nI x) best cnt (nI i) σ = some (o, σ) := by
        unfold f_pla_fewestRows_30 f_pla_fewestRows_35 f_m_fewest_50 f_pla_fewestRows_53 f_m_fewest_73
        rw [if_neg (by decide)]
        obtain ⟨b, e1, e2⟩ := tp_same hk hR (p := nI i) hx hR1
        rw [e1, e2, Option.bind_some, Option.bind_some, hi1]
        cases b with
        | false => exact ih (i + 1) best cnt (by omega) (by omega) hb
        | true =>
          rw [if_neg (show ¬ tw_B true = (0 : Int32) by decide), if_neg (show ¬ tw_B true = (0 : Int32) by decide), tp_bits i (by omega), Option.bind_some]
          exact ih (i + 1) (nI i) _ (by omega) (by omega) (Or.inr ⟨i, by omega, rfl, rfl⟩)
      rcases hb with ⟨hb, hc⟩ | ⟨b, hbM, hb, hc⟩
      · subst hb
        rw [if_pos (by decide), if_pos rfl]
        exact try1
      · subst hb
        subst hc
        rw [if_neg (show ¬ nI b < (0 : Int32) by rw [show (0 : Int32) = nI 0 from rfl, tw_lt (by omega) (by omega)]; omega)]
        rw [if_neg (show ¬ nI b = (-2 : Int32) by
          intro e
          have := nI_pos' (n := b) (by omega)
          rw [e] at this
          exact absurd this (by decide))]
        rw [tp_bits i (by omega), Option.bind_some]
        by_cases q : f_j_bitCount (nI b) ≤ f_j_bitCount (nI i)
        · rw [if_pos q, if_pos q]
          unfold f_pla_fewestRows_35 f_pla_fewestRows_53 f_m_fewest_73
          rw [if_pos rfl, hi1]
          exact ih (i + 1) (nI b) _ (by omega) (by omega) (Or.inr ⟨b, hbM, rfl, rfl⟩)
        · rw [if_neg q, if_neg q]
          exact try1
end TP
/-! which numbers are taken -/
theorem tp_k {a : Int32} (h1 : ¬ a < (1 : Int32)) (h3 : ¬ (3 : Int32) < a) : ∃ k R M, k ≤ 3 ∧ a = nI k ∧ rx_ishl (1 : Int32) (nI k) = nI R ∧ rx_ishl (1 : Int32) (nI R) = nI M ∧ 1 ≤ R ∧ R ≤ 8 ∧ M ≤ 256 := by
  obtain ⟨k, rfl, hk⟩ := tq_nn (x := a) (fun q => h1 (by
    rw [Int32.lt_iff_toInt_lt] at q ⊢
    have : (nI 0).toInt = 0 := rfl
    have : (1 : Int32).toInt = 1 := rfl
    omega))
  rw [show (1 : Int32) = nI 1 from rfl, tw_lt hk (by omega)] at h1
  rw [show (3 : Int32) = nI 3 from rfl, tw_lt (by omega) hk] at h3
  have : k = 1 ∨ k = 2 ∨ k = 3 := by omega
  rcases this with rfl | rfl | rfl
  · exact ⟨1, 2, 4, by omega, rfl, by decide, by decide, by omega, by omega, by omega⟩
  · exact ⟨2, 4, 16, by omega, rfl, by decide, by decide, by omega, by omega, by omega⟩
  · exact ⟨3, 8, 256, by omega, rfl, by decide, by decide, by omega, by omega, by omega⟩
theorem tp_trial (a v : Int32) : f_m_isTrial a v = f_pla_hasEffects a v := rfl
theorem tp_has {a v : Int32} (h : ¬ f_pla_hasEffects a v = (0 : Int32)) : ∃ k R M x, x < M ∧ k ≤ 3 ∧ a = nI k ∧ v = nI x ∧ rx_ishl (1 : Int32) (nI k) = nI R ∧ rx_ishl (1 : Int32) (nI R) = nI M ∧ 1 ≤ R ∧ R ≤ 8 ∧ M ≤ 256 := by
  unfold f_pla_hasEffects at h
  by_cases c1 : a < (1 : Int32)
  · rw [if_pos c1] at h; exact absurd rfl h
  rw [if_neg c1] at h
  by_cases c2 : (3 : Int32) < a
  · rw [if_pos c2] at h; exact absurd rfl h
  rw [if_neg c2] at h
  by_cases c3 : v < (0 : Int32)
  · rw [if_pos c3] at h; exact absurd rfl h
  rw [if_neg c3] at h
  obtain ⟨k, R, M, hk, rfl, hR, hM, r1, r8, m⟩ := tp_k c1 c2
  obtain ⟨x, rfl, hx⟩ := tq_nn (x := v) c3
  rw [show f_pla_rows (nI k) = nI R from hR, hM] at h
  by_cases c4 : nI M ≤ nI x
  · rw [if_pos c4] at h; exact absurd rfl h
  rw [tw_le (by omega) (by omega)] at c4
  exact ⟨k, R, M, x, by omega, hk, rfl, rfl, hR, hM, r1, r8, m⟩
/-- tells: both sides -/
theorem tq_tells (a b c : Int32) (σ : rx_St) : ∃ o1, f_c_tells a b c = some o1 ∧ f_m_tells a b c σ = some (o1, rx_si σ 87 0 (nI 0)) := by
  unfold f_c_tells f_m_tells f_m_tells_27
  rw [tp_trial]
  by_cases h : f_pla_hasEffects a c = (0 : Int32)
  · rw [if_pos h]
    exact ⟨(-1 : Int32), rfl, if_pos h⟩
  · obtain ⟨k, R, M, x, hx, hk, rfl, rfl, hR, hM, r1, r8, m⟩ := tp_has h
    rw [if_neg h]
    show ∃ o1, _ ∧ (if f_pla_hasEffects (nI k) (nI x) = (0 : Int32) then _ else _) = _
    rw [if_neg h, hR, hM]
    unfold f_pla_hasPlan
    rw [show f_pla_rows (nI k) = nI R from hR, hM]
    rw [if_neg (show ¬ nI k < (1 : Int32) by intro q; unfold f_pla_hasEffects at h; rw [if_pos q] at h; exact h rfl)]
    rw [if_neg (show ¬ (3 : Int32) < nI k by rw [show (3 : Int32) = nI 3 from rfl, tw_lt (by omega) (by omega)]; omega)]
    by_cases b1 : b < (1 : Int32)
    · rw [if_pos b1, if_pos b1]
      exact ⟨(-1 : Int32), rfl, rfl⟩
    · rw [if_neg b1, if_neg b1]
      by_cases b2 : b < nI M
      · rw [if_neg (show ¬ nI M ≤ b from Int32.not_le.mpr b2), if_pos b2]
        obtain ⟨t, e1, e2⟩ := tp_same hR r8 (p := b) (show x < 256 by omega) r1
        rw [e1, e2]
        cases t with
        | false => exact ⟨(0 : Int32), rfl, rfl⟩
        | true => exact ⟨(1 : Int32), rfl, rfl⟩
      · rw [if_pos (show nI M ≤ b from Int32.not_lt.mp b2), if_neg b2]
        exact ⟨(-1 : Int32), rfl, rfl⟩
/-- fewest: both sides -/
theorem tq_fewest (a b : Int32) (σ : rx_St) : ∃ o1, f_c_fewest a b = some o1 ∧ f_m_fewest a b σ = some (o1, rx_si σ 87 0 (nI 0)) := by
  unfold f_c_fewest f_m_fewest
  rw [tp_trial]
  by_cases h : f_pla_hasEffects a b = (0 : Int32)
  · rw [if_pos h]
    exact ⟨(-1 : Int32), rfl, if_pos h⟩
  · obtain ⟨k, R, M, x, hx, hk, rfl, rfl, hR, hM, r1, r8, m⟩ := tp_has h
    rw [if_neg h]
    show ∃ o1, _ ∧ (if f_pla_hasEffects (nI k) (nI x) = (0 : Int32) then _ else _) = _
    rw [if_neg h]
    obtain ⟨o, e1, e2⟩ := tp_few hR r8 hM m (show x < 256 by omega) r1 (rx_si σ 87 0 (nI 0)) rx_fu 1 (-2 : Int32) (nI 0) (by unfold rx_fu; omega) (by
      have : 1 ≤ M := by omega
      omega) (Or.inl ⟨rfl, rfl⟩)
    unfold f_pla_fewestRows
    have e1' : f_pla_fewestRows_5 rx_fu (nI k) (nI x) (-2 : Int32) (1 : Int32) = some o := e1
    rw [e1']
    exact ⟨o, rfl, e2⟩
