/-! THE GRID: what is told of it, points and their numbers, on both sides -/
/-- a SPAN: SETTING, from, step, how many; a SEEN: time, KIND, VAR, low, high -/
abbrev tw_Sp : Type := Nat × Int32 × Int32 × Nat
abbrev tw_Se : Type := Nat × Nat × Nat × Int32 × Int32
def tw_z (sp : List tw_Sp) (i : Nat) : Nat := match sp[i]? with
  | some x => x.2.2.2
  | none => 1
def tw_ptn (sp : List tw_Sp) : Nat → Nat
  | 0 => 1
  | i + 1 => tw_ptn sp i * tw_z sp i
def tw_pts (sp : List tw_Sp) : Nat := tw_ptn sp sp.length
def tw_tn (z : Nat → Nat) (i : Nat) : Nat → Nat → Nat
  | 0, p => p % z i
  | d + 1, p => tw_tn z i d (p / z (i + (d + 1)))
def tw_turn (sp : List tw_Sp) (p i : Nat) : Nat := tw_tn (tw_z sp) i (sp.length - 1 - i) p
def tw_num (sp : List tw_Sp) (p i : Nat) : Int32 := match sp[i]? with
  | some x => x.2.1 + nI (tw_turn sp p i) * x.2.2.1
  | none => nI 0
def tw_stn (sp : List tw_Sp) (st : Nat → Int32) (p : Nat) : Nat → Nat → Int32
  | 0 => st
  | i + 1 => match sp[i]? with
    | some x => tw_updN (tw_stn sp st p i) x.1 (tw_num sp p i)
    | none => tw_stn sp st p i
/-- SETTINGS at a point -/
def tw_stp (sp : List tw_Sp) (st : Nat → Int32) (p : Nat) : Nat → Int32 := tw_stn sp st p sp.length
def tw_gok (W : tw_Wo) (sp : List tw_Sp) (se : List tw_Se) : Prop := (sp.length ≤ 3 ∧ 1 ≤ tw_pts sp ∧ tw_pts sp ≤ 200 ∧ ∀ (i : Nat) (x : tw_Sp), sp[i]? = some x → x.1 < W.1.length ∧ 1 ≤ x.2.2.2 ∧ x.2.2.2 ≤ 200) ∧ se.length ≤ 8 ∧ ∀ (i : Nat) (x : tw_Se), se[i]? = some x → x.1 ≤ 40 ∧ x.2.1 < W.2.length ∧ x.2.2.1 < tw_vc W x.2.1
def tc_G (sp : List tw_Sp) (se : List tw_Se) (σ : rx_St) : Prop := (σ.1 76 8 = nI sp.length ∧ σ.1 76 13 = nI (tw_pts sp) ∧ ∀ (i : Nat) (x : tw_Sp), sp[i]? = some x → σ.1 82 i = nI x.1 ∧ σ.1 83 i = x.2.1 ∧ σ.1 84 i = x.2.2.1 ∧ σ.1 85 i = nI x.2.2.2) ∧ σ.1 76 2 = nI se.length ∧ ∀ (i : Nat) (x : tw_Se), se[i]? = some x → σ.1 77 i = nI x.1 ∧ σ.1 78 i = nI x.2.1 ∧ σ.1 79 i = nI x.2.2.1 ∧ σ.1 80 i = x.2.2.2.1 ∧ σ.1 81 i = x.2.2.2.2
def tm_G (sp : List tw_Sp) (se : List tw_Se) (σ : rx_St) : Prop := (σ.1 87 96 = nI sp.length ∧ ∀ (i : Nat) (x : tw_Sp), sp[i]? = some x → σ.1 157 i = nI x.1 ∧ σ.1 158 i = x.2.1 ∧ σ.1 159 i = x.2.2.1 ∧ σ.1 160 i = nI x.2.2.2) ∧ σ.1 87 90 = nI se.length ∧ ∀ (i : Nat) (x : tw_Se), se[i]? = some x → σ.1 152 i = nI x.1 ∧ σ.1 153 i = nI x.2.1 ∧ σ.1 154 i = nI x.2.2.1 ∧ σ.1 155 i = x.2.2.2.1 ∧ σ.1 156 i = x.2.2.2.2
theorem tc_G.fr {sp : List tw_Sp} {se : List tw_Se} {σ σ' : rx_St} (h : tc_G sp se σ) (f : ∀ q j, q = 76 ∧ (j = 2 ∨ j = 8 ∨ j = 13) ∨ 77 ≤ q ∧ q ≤ 85 → σ'.1 q j = σ.1 q j) : tc_G sp se σ' := by
  obtain ⟨⟨h1, h2, h3⟩, h4, h5⟩ := h
  refine ⟨⟨by rw [f _ _ (by omega)]; exact h1, by rw [f _ _ (by omega)]; exact h2, fun i x hx => ?_⟩, by rw [f _ _ (by omega)]; exact h4, fun i x hx => ?_⟩
  · obtain ⟨a, b, c, d⟩ := h3 i x hx
    exact ⟨by rw [f _ _ (by omega)]; exact a, by rw [f _ _ (by omega)]; exact b, by rw [f _ _ (by omega)]; exact c, by rw [f _ _ (by omega)]; exact d⟩
  · obtain ⟨a, b, c, d, e⟩ := h5 i x hx
    exact ⟨by rw [f _ _ (by omega)]; exact a, by rw [f _ _ (by omega)]; exact b, by rw [f _ _ (by omega)]; exact c, by rw [f _ _ (by omega)]; exact d, by rw [f _ _ (by omega)]; exact e⟩
theorem tm_G.fr {sp : List tw_Sp} {se : List tw_Se} {σ σ' : rx_St} (h : tm_G sp se σ) (f : ∀ q j, q = 87 ∧ (j = 90 ∨ j = 96) ∨ 152 ≤ q ∧ q ≤ 160 → σ'.1 q j = σ.1 q j) : tm_G sp se σ' := by
  obtain ⟨⟨h1, h3⟩, h4, h5⟩ := h
  refine ⟨⟨by rw [f _ _ (by omega)]; exact h1, fun i x hx => ?_⟩, by rw [f _ _ (by omega)]; exact h4, fun i x hx => ?_⟩
  · obtain ⟨a, b, c, d⟩ := h3 i x hx
    exact ⟨by rw [f _ _ (by omega)]; exact a, by rw [f _ _ (by omega)]; exact b, by rw [f _ _ (by omega)]; exact c, by rw [f _ _ (by omega)]; exact d⟩
  · obtain ⟨a, b, c, d, e⟩ := h5 i x hx
    exact ⟨by rw [f _ _ (by omega)]; exact a, by rw [f _ _ (by omega)]; exact b, by rw [f _ _ (by omega)]; exact c, by rw [f _ _ (by omega)]; exact d, by rw [f _ _ (by omega)]; exact e⟩
theorem tw_zs {sp : List tw_Sp} {i : Nat} {x : tw_Sp} (h : sp[i]? = some x) : tw_z sp i = x.2.2.2 := by
  unfold tw_z; rw [h]
theorem tw_sps {sp : List tw_Sp} {i : Nat} (h : i < sp.length) : ∃ x, sp[i]? = some x := ⟨_, List.getElem?_eq_getElem h⟩
theorem tw_max1 {z : Nat} (h : 1 ≤ z) (h2 : z < 2147483648) : f_j_max (nI z) (nI 1) = nI z := by
  unfold f_j_max
  exact if_neg (by rw [tw_lt h2 (by omega)]; omega)
section TG
variable {W : tw_Wo} {sp : List tw_Sp} {se : List tw_Se}
theorem tc_turn {σ : rx_St} (hok : tw_gok W sp se) (hG : tc_G sp se σ) {i p : Nat} (hi : i < sp.length) (hp : p < 2147483648) : f_gri_turn (nI p) (nI i) σ = some (nI (tw_turn sp p i)) := by
  obtain ⟨⟨s3, -, -, s4⟩, -⟩ := hok
  obtain ⟨⟨g1, -, g3⟩, -⟩ := hG
  have main : ∀ m d p, i + d < sp.length → d < m → p < 2147483648 → f_gri_turn_10 m (nI i) (nI p) (nI (i + d)) σ = some (nI (tw_tn (tw_z sp) i d p)) := by
    intro m
    induction m with
    | zero => intro d p _ h; exact absurd h (Nat.not_lt_zero _)
    | succ m ih =>
      intro d p hd hm hp
      unfold f_gri_turn_10
      cases d with
      | zero =>
        obtain ⟨x, hx⟩ := tw_sps (show i < sp.length by omega)
        obtain ⟨-, z1, z2⟩ := s4 i x hx
        have e := (g3 i x hx).2.2.2
        rw [Nat.add_zero, if_pos (tp_yl (by omega) (by omega) (Nat.le_refl _)), tw_gN (by omega) (by decide), nI_clamp (by omega), e, show (1 : Int32) = nI 1 from rfl, tw_max1 z1 (by omega), tw_cE (by rw [show (0 : Int32) = nI 0 from rfl, tw_eq (by omega) (by omega)]; omega), tw_rem (by omega) (by omega) (by omega), tw_tn, tw_zs hx]
      | succ d =>
        obtain ⟨x, hx⟩ := tw_sps hd
        obtain ⟨-, z1, z2⟩ := s4 _ x hx
        have e := (g3 _ x hx).2.2.2
        rw [if_neg (tp_nl (by omega) (by omega) (by omega)), tw_gN (by omega) (by decide), nI_clamp (by omega), e, show (1 : Int32) = nI 1 from rfl, tw_max1 z1 (by omega), tw_cE (by rw [show (0 : Int32) = nI 0 from rfl, tw_eq (by omega) (by omega)]; omega), tw_div (by omega) (by omega) (by omega)]
        have q : nI (i + (d + 1)) + -nI 1 = nI (i + d) := tw_dec (a := i + (d + 1)) (by omega)
        rw [q, tw_tn, tw_zs hx]
        exact ih d _ (by omega) (by omega) (by have := Nat.div_le_self p x.2.2.2; omega)
  unfold f_gri_turn
  rw [g1]
  show f_gri_turn_10 rx_fu (nI i) (nI p) (nI sp.length - (1 : Int32)) σ = _
  rw [show nI sp.length - (1 : Int32) = nI (i + (sp.length - 1 - i)) from (tw_sub (a := sp.length) (b := 1) (by omega)).trans (by rw [show i + (sp.length - 1 - i) = sp.length - 1 by omega])]
  exact main rx_fu _ p (by omega) (by show _ < 100000; omega) hp
theorem tm_turn {σ : rx_St} (hok : tw_gok W sp se) (hG : tm_G sp se σ) {i p : Nat} (hi : i < sp.length) (hp : p < 2147483648) : f_m_stepOf (nI p) (nI i) σ = some (nI (tw_turn sp p i)) := by
  obtain ⟨⟨s3, -, -, s4⟩, -⟩ := hok
  obtain ⟨⟨g1, g3⟩, -⟩ := hG
  have main : ∀ m d p, i + d < sp.length → d < m → p < 2147483648 → f_m_stepOf_10 m (nI i) (nI p) (nI (i + d)) σ = some (nI (tw_tn (tw_z sp) i d p)) := by
    intro m
    induction m with
    | zero => intro d p _ h; exact absurd h (Nat.not_lt_zero _)
    | succ m ih =>
      intro d p hd hm hp
      unfold f_m_stepOf_10
      cases d with
      | zero =>
        obtain ⟨x, hx⟩ := tw_sps (show i < sp.length by omega)
        obtain ⟨-, z1, z2⟩ := s4 i x hx
        have e := (g3 i x hx).2.2.2
        rw [Nat.add_zero, if_pos (tp_yl (by omega) (by omega) (Nat.le_refl _)), tw_gN (by omega) (by decide), nI_clamp (by omega), e, tw_cE (by rw [show (0 : Int32) = nI 0 from rfl, tw_eq (by omega) (by omega)]; omega), tw_rem (by omega) (by omega) (by omega), tw_tn, tw_zs hx]
      | succ d =>
        obtain ⟨x, hx⟩ := tw_sps hd
        obtain ⟨-, z1, z2⟩ := s4 _ x hx
        have e := (g3 _ x hx).2.2.2
        rw [if_neg (tp_nl (by omega) (by omega) (by omega)), tw_gN (by omega) (by decide), nI_clamp (by omega), e, tw_cE (by rw [show (0 : Int32) = nI 0 from rfl, tw_eq (by omega) (by omega)]; omega), tw_div (by omega) (by omega) (by omega)]
        have q : nI (i + (d + 1)) + (-1 : Int32) = nI (i + d) := tw_dec (a := i + (d + 1)) (by omega)
        rw [q, tw_tn, tw_zs hx]
        exact ih d _ (by omega) (by omega) (by have := Nat.div_le_self p x.2.2.2; omega)
  unfold f_m_stepOf
  rw [g1]
  show f_m_stepOf_10 rx_fu (nI i) (nI p) (nI sp.length - (1 : Int32)) σ = _
  rw [show nI sp.length - (1 : Int32) = nI (i + (sp.length - 1 - i)) from (tw_sub (a := sp.length) (b := 1) (by omega)).trans (by rw [show i + (sp.length - 1 - i) = sp.length - 1 by omega])]
  exact main rx_fu _ p (by omega) (by show _ < 100000; omega) hp
theorem tc_number {σ : rx_St} (hok : tw_gok W sp se) (hG : tc_G sp se σ) {i p : Nat} (hi : i < sp.length) (hp : p < 2147483648) : f_gri_number (nI p) (nI i) σ = some (tw_num sp p i) := by
  obtain ⟨x, hx⟩ := tw_sps hi
  obtain ⟨-, e1, e2, -⟩ := hG.1.2.2 i x hx
  have s3 := hok.1.1
  unfold f_gri_number tw_num
  rw [tw_gN (by omega) (by decide), tc_turn hok hG hi hp, Option.bind_some, tw_gN (by omega) (by decide), nI_clamp (by omega), e1, e2, hx]
theorem tm_points {σ : rx_St} (hok : tw_gok W sp se) (hG : tm_G sp se σ) : f_m_points σ = some (nI (tw_pts sp)) := by
  obtain ⟨⟨s3, s1, s2, s4⟩, -⟩ := hok
  obtain ⟨⟨g1, g3⟩, -⟩ := hG
  have main : ∀ m i, i ≤ sp.length → sp.length - i < m → f_m_points_4 m (nI (tw_ptn sp i)) (nI i) σ = some (nI (tw_pts sp)) := by
    intro m
    induction m with
    | zero => intro i _ h; exact absurd h (Nat.not_lt_zero _)
    | succ m ih =>
      intro i hi hm
      unfold f_m_points_4
      rw [g1]
      by_cases c : i = sp.length
      · subst c
        exact if_pos (tp_yl (by omega) (by omega) (Nat.le_refl _))
      · obtain ⟨x, hx⟩ := tw_sps (show i < sp.length by omega)
        have e := (g3 i x hx).2.2.2
        rw [if_neg (tp_nl (by omega) (by omega) (by omega)), tw_gN (by omega) (by decide), nI_clamp (by omega), e]
        have ih' := ih (i + 1) (by omega) (by omega)
        rw [tw_ptn, tw_zs hx] at ih'
        show f_m_points_4 m (nI (tw_ptn sp i) * nI x.2.2.2) (nI i + (1 : Int32)) σ = _
        rw [pk_mul, show nI i + (1 : Int32) = nI (i + 1) from nI_add i 1]
        exact ih'
  exact main rx_fu 0 (Nat.zero_le _) (by show _ < 100000; omega)
/-- the model's SETTINGS at a point -/
theorem tm_stands {σ : rx_St} {st : Nat → Int32} (hok : tw_gok W sp se) (hG : tm_G sp se σ) (hW : W.1.length ≤ 6) (hst : ∀ i, i < W.1.length → σ.1 129 i = st i) {p : Nat} (hp : p < 2147483648) :
    tw_ok (f_m_stands (nI p) σ) (fun σ' => tw_fr (fun q _ => q = 134) σ σ' ∧ ∀ i, i < W.1.length → σ'.1 134 i = tw_stp sp st p i) := by
  have s3 := hok.1.1
  unfold f_m_stands
  refine tw_b (tm_takes σ) (fun σ1 h => ?_)
  obtain ⟨f1, g1⟩ := h
  have main : ∀ m i σ', i ≤ sp.length → sp.length - i < m → tw_fr (fun q _ => q = 134) σ σ' → (∀ j, j < W.1.length → σ'.1 134 j = tw_stn sp st p i j) → tw_ok (f_m_stands_6 m (nI p) (nI i) σ') (fun σ' => tw_fr (fun q _ => q = 134) σ σ' ∧ ∀ i, i < W.1.length → σ'.1 134 i = tw_stp sp st p i) := by
    intro m
    induction m with
    | zero => intro i σ' _ h; exact absurd h (Nat.not_lt_zero _)
    | succ m ih =>
      intro i σ' hi hm f g
      have hG' : tm_G sp se σ' := hG.fr (fun q j a => f.i (by omega))
      unfold f_m_stands_6
      rw [hG'.1.1]
      by_cases c : i = sp.length
      · subst c
        rw [if_pos (tp_yl (by omega) (by omega) (Nat.le_refl _)), tw_some]
        exact ⟨f, g⟩
      · obtain ⟨x, hx⟩ := tw_sps (show i < sp.length by omega)
        obtain ⟨e0, e1, e2, e3⟩ := hG'.1.2 i x hx
        have hx1 := (hok.1.2.2.2 i x hx).1
        rw [if_neg (tp_nl (by omega) (by omega) (by omega)), tw_gN (by omega) (by decide), tw_gN (by omega) (by decide), tm_turn hok hG' (by omega) hp, Option.bind_some, tw_gN (by omega) (by decide), nI_clamp (by omega), e0, e1, e2, tw_gN (by omega) (by decide), nI_clamp (by omega), show nI i + (1 : Int32) = nI (i + 1) from nI_add i 1]
        refine ih (i + 1) _ (by omega) (by omega) (f.si rfl) (fun j hj => ?_)
        rw [tw_stn, hx]
        show _ = tw_updN (tw_stn sp st p i) x.1 (tw_num sp p i) j
        unfold tw_updN tw_num
        rw [hx, tw_r1]
        by_cases y : j = x.1
        · rw [if_pos ⟨rfl, y⟩, if_pos y]
        · rw [if_neg (fun h => y h.2), if_neg y]; exact g j hj
  exact main rx_fu 0 σ1 (Nat.zero_le _) (by show _ < 100000; omega) f1 (fun j hj => by rw [g1 j (by omega)]; exact hst j hj)
end TG
