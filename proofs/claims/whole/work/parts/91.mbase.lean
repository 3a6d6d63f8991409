/-! THE MODEL READS: where it stands -/
def tm_tk (T : List tw_Tk) (n : Nat) (σ : rx_St) : Prop := tm_tok T n σ ∧ ∀ (i : Nat) (x : tw_Tk), T[i]? = some x → tw_tkok x
theorem tm_tk.fr {T : List tw_Tk} {n : Nat} {σ σ' : rx_St} (h : tm_tk T n σ) (f : ∀ q j, 90 ≤ q → q ≤ 93 → σ'.1 q j = σ.1 q j ∧ σ'.2 q j = σ.2 q j) : tm_tk T n σ' := by
  obtain ⟨⟨h1, h2⟩, h3⟩ := h
  refine ⟨⟨fun i x hi hx => ?_, fun hl => ?_⟩, h3⟩
  · obtain ⟨a, b, c, d⟩ := h1 i x hi hx
    exact ⟨by rw [(f _ _ (by omega) (by omega)).1]; exact a, by rw [(f _ _ (by omega) (by omega)).1]; exact b, fun z => by rw [(f _ _ (by omega) (by omega)).1]; exact c z, fun z => by rw [(f _ _ (by omega) (by omega)).2]; exact d z⟩
  · obtain ⟨a, b⟩ := h2 hl
    exact ⟨by rw [(f _ _ (by omega) (by omega)).1]; exact a, by rw [(f _ _ (by omega) (by omega)).1]; exact b⟩
theorem tw_km_b : ∀ k, k < 39 → tw_km k < 60 ∧ ∀ k', k' < 39 → tw_km k = tw_km k' → k = k' := by decide +kernel
theorem tm_tk.K {T : List tw_Tk} {n i : Nat} {σ : rx_St} (h : tm_tk T n σ) (h5 : i ≤ 500) (hl : i ≤ T.length) : σ.1 90 i = nI (tw_km (ty_K T i)) ∧ σ.1 91 i = nI (ty_Pl T n i) ∧ ty_K T i ≤ 38 := by
  obtain ⟨⟨h1, h2⟩, h3⟩ := h
  unfold ty_K ty_Pl
  cases e : T[i]? with
  | none =>
    have : ¬ i < T.length := fun z => by rw [List.getElem?_eq_getElem z] at e; cases e
    have e2 : i = T.length := by omega
    obtain ⟨a, b⟩ := h2 (by omega)
    rw [e2]
    exact ⟨a, b, by show 37 ≤ 38; omega⟩
  | some x =>
    obtain ⟨a, b, -, -⟩ := h1 i x h5 e
    exact ⟨a, b, (h3 i x e).1⟩
section TMR
variable {T : List tw_Tk} {n : Nat}
def tm_rs (T : List tw_Tk) (n : Nat) (s : ty_Ps) (σ : rx_St) : Prop := σ.1 87 13 = nI s.1 ∧ (∃ q, q ≤ 500 ∧ σ.1 87 11 = nI q ∧ (s.1 = 0 → q = s.2)) ∧ (s.1 ≠ 0 → σ.1 87 14 = nI (ty_Pl T n s.2)) ∧ ty_sok T s
theorem tm_rs.fr {s : ty_Ps} {σ σ' : rx_St} (h : tm_rs T n s σ) (f : ∀ j, j = 11 ∨ j = 13 ∨ j = 14 → σ'.1 87 j = σ.1 87 j) : tm_rs T n s σ' := by
  obtain ⟨h1, ⟨q, h2, h3, h4⟩, h5, h6⟩ := h
  exact ⟨by rw [f _ (by omega)]; exact h1, ⟨q, h2, by rw [f _ (by omega)]; exact h3, h4⟩, fun z => by rw [f _ (by omega)]; exact h5 z, h6⟩
def ta_S1 (q j : Nat) : Prop := q = 87 ∧ (j = 11 ∨ j = 13 ∨ j = 14)
/-- with it nothing amiss -/
theorem tm_rs.p {s : ty_Ps} {σ : rx_St} (h : tm_rs T n s σ) (c : s.1 = 0) : σ.1 87 11 = nI s.2 ∧ s.2 ≤ 500 ∧ s.2 ≤ T.length := by
  obtain ⟨h1, ⟨q, h2, h3, h4⟩, h5, h6⟩ := h
  rw [h3, h4 c]
  exact ⟨rfl, h6.2.1, h6.2.2⟩
theorem tm_rs.z {s : ty_Ps} {σ : rx_St} (h : tm_rs T n s σ) : (σ.1 87 13 = (0 : Int32)) = (s.1 = 0) := by
  have := h.2.2.2.1
  rw [h.1, show (0 : Int32) = nI 0 from rfl, tw_eq (by omega) (by omega)]
theorem tm_rs.l {s : ty_Ps} {σ : rx_St} (h : tm_rs T n s σ) : (σ.1 87 13 ≤ (0 : Int32)) = (s.1 = 0) := by
  have := h.2.2.2.1
  rw [h.1, show (0 : Int32) = nI 0 from rfl, tw_le (by omega) (by omega)]
  exact propext ⟨fun z => by omega, fun z => by omega⟩
theorem tm_rs.g {s : ty_Ps} {σ : rx_St} (h : tm_rs T n s σ) : ((0 : Int32) < σ.1 87 13) = ¬ (s.1 = 0) := by
  have := h.2.2.2.1
  rw [h.1, show (0 : Int32) = nI 0 from rfl, tw_lt (by omega) (by omega)]
  exact propext ⟨fun z => by omega, fun z => by omega⟩
theorem tm_is {s : ty_Ps} {σ : rx_St} {m : Int32} (k : Nat) (hm : m = nI (tw_km k)) (hk : k < 38) (ht : tm_tk T n σ) (h : tm_rs T n s σ) : f_m_is m σ = some (if ty_nx T s = k then (1 : Int32) else (0 : Int32)) := by
  unfold f_m_is
  rw [tw_ifE h.z]
  by_cases c : s.1 = 0
  · obtain ⟨p1, p2, p3⟩ := h.p c
    obtain ⟨k1, -, k3⟩ := ht.K p2 p3
    rw [if_pos c, p1, tw_gN (by omega) (by decide), nI_clamp (by omega), k1, hm]
    have b1 := tw_km_b (ty_K T s.2) (by omega)
    have b2 := tw_km_b k (by omega)
    have e : (nI (tw_km (ty_K T s.2)) = nI (tw_km k)) = (ty_nx T s = k) := by
      rw [tw_eq (by omega) (by omega)]
      unfold ty_nx
      rw [if_pos c]
      exact propext ⟨fun z => b1.2 k (by omega) z, fun z => by rw [z]⟩
    rw [tw_ifE e]
    by_cases d : ty_nx T s = k
    · rw [if_pos d, if_pos d]
    · rw [if_neg d, if_neg d]
  · rw [if_neg c, if_neg (by unfold ty_nx; rw [if_neg c]; omega)]
theorem tm_ifz {α : Type} {c : Prop} [Decidable c] {a b : α} : (if (if c then (1 : Int32) else (0 : Int32)) = (0 : Int32) then a else b) = if c then b else a := by
  by_cases d : c
  · rw [if_pos d, if_pos d, if_neg (by decide)]
  · rw [if_neg d, if_neg d, if_pos rfl]
theorem tm_fail {s : ty_Ps} {σ : rx_St} {m : Int32} (f : Nat) (hm : m = nI f) (hf : f ≤ 2) (f1 : 1 ≤ f) (ht : tm_tk T n σ) (h : tm_rs T n s σ) : tw_ok (f_m_fail m σ) (fun σ' => tw_fr ta_S1 σ σ' ∧ tm_rs T n (if s.1 = 0 then (f, s.2) else s) σ') := by
  unfold f_m_fail
  rw [tw_ifE h.l]
  by_cases c : s.1 = 0
  · obtain ⟨p1, p2, p3⟩ := h.p c
    obtain ⟨-, k2, -⟩ := ht.K p2 p3
    rw [if_pos c, if_pos c, hm]
    have e : (rx_si σ 87 13 (nI f)).1 87 11 = nI s.2 := by rw [tw_r1n _ _ (by omega)]; exact p1
    have e2 : (rx_si σ 87 13 (nI f)).1 91 s.2 = nI (ty_Pl T n s.2) := by rw [tw_r1n _ _ (by omega)]; exact k2
    show tw_ok (rx_g ((rx_si σ 87 13 (nI f)).1 87 11) 503 (some (rx_si (rx_si σ 87 13 (nI f)) 87 14 ((rx_si σ 87 13 (nI f)).1 91 ((rx_si σ 87 13 (nI f)).1 87 11).toNatClampNeg)))) _
    rw [e, nI_clamp (by omega), e2]
    refine tw_g (vp_in_nI (by omega) (by decide)) ?_
    rw [tw_some]
    refine ⟨(tw_fr.rf.si ⟨rfl, by omega⟩).si ⟨rfl, by omega⟩, ?_, ⟨s.2, p2, ?_, fun _ => rfl⟩, fun _ => tw_r1s _ _ _ _, ⟨by show f ≤ 2; omega, p2, p3⟩⟩
    · rw [tw_r1n _ _ (by omega)]; exact tw_r1s _ _ _ _
    · rw [tw_r1n _ _ (by omega), tw_r1n _ _ (by omega)]; exact p1
  · rw [if_neg c, if_neg c, tw_some]
    exact ⟨tw_fr.rf, h⟩
theorem tm_next {s : ty_Ps} {σ : rx_St} (k : Nat) (hk : k ≠ 37) (hs : s.1 = 0 → ty_K T s.2 = k) (ht : tm_tk T n σ) (h : tm_rs T n s σ) : tw_ok (f_m_next σ) (fun σ' => tw_fr ta_S1 σ σ' ∧ tm_rs T n (ty_tkn T k s) σ') := by
  obtain ⟨h1, ⟨q, h2, h3, h4⟩, h5, h6⟩ := id h
  have ok := ty_tkn_ok h6 hk
  unfold f_m_next
  rw [h3, tw_ifE (show (nI q = (500 : Int32)) = (q = 500) from tw_eq (b := 500) (by omega) (by omega))]
  by_cases c : q = 500
  · rw [if_pos c]
    refine tw_b (tm_fail 2 rfl (by omega) (by omega) ht h) (fun σ1 g => ?_)
    rw [tw_some]
    refine ⟨g.1, ?_⟩
    have e : ty_tkn T k s = if s.1 = 0 then (2, s.2) else s := by
      unfold ty_tkn
      by_cases d : s.1 = 0
      · rw [if_pos d, if_pos d, if_pos (hs d), if_neg (by have := h4 d; omega)]
      · rw [if_neg d, if_neg d]
    rw [e]
    exact g.2
  · rw [if_neg c, tw_some, show nI q + (1 : Int32) = nI (q + 1) from nI_add q 1]
    refine ⟨tw_fr.rf.si ⟨rfl, by omega⟩, ?_, ⟨q + 1, by omega, tw_r1s _ _ _ _, fun z => ?_⟩, fun z => ?_, ok⟩
    · rw [tw_r1n _ _ (by omega), h1]
      unfold ty_tkn
      by_cases d : s.1 = 0
      · rw [if_pos d, if_pos (hs d), if_pos (by have := h4 d; omega), d]
      · rw [if_neg d]
    · have t := ty_tkn_0 z
      rw [t.2.2.2, h4 t.1]
    · have d : ¬ s.1 = 0 := fun d => z (by
        unfold ty_tkn
        rw [if_pos d, if_pos (hs d), if_pos (by have := h4 d; omega)])
      rw [ty_tkn_f d, tw_r1n _ _ (by omega)]
      exact h5 d
theorem tm_must {s : ty_Ps} {σ : rx_St} {m : Int32} (k : Nat) (hm : m = nI (tw_km k)) (hk : k < 37) (ht : tm_tk T n σ) (h : tm_rs T n s σ) : tw_ok (f_m_must m σ) (fun σ' => tw_fr ta_S1 σ σ' ∧ tm_rs T n (ty_tkn T k s) σ') := by
  unfold f_m_must
  rw [tm_is k hm (by omega) ht h, Option.bind_some, tm_ifz]
  by_cases c : ty_nx T s = k
  · rw [if_pos c]
    refine tw_b (tm_next k (by omega) (fun z => ?_) ht h) (fun σ1 g => ?_)
    · unfold ty_nx at c; rw [if_pos z] at c; exact c
    · rw [tw_some]; exact g
  · rw [if_neg c]
    refine tw_b (tm_fail 1 rfl (by omega) (by omega) ht h) (fun σ1 g => ?_)
    rw [tw_some]
    refine ⟨g.1, ?_⟩
    have e : ty_tkn T k s = if s.1 = 0 then (1, s.2) else s := by
      unfold ty_tkn
      by_cases d : s.1 = 0
      · rw [if_pos d, if_pos d, if_neg (fun z => c (by unfold ty_nx; rw [if_pos d]; exact z))]
      · rw [if_neg d, if_neg d]
    rw [e]
    exact g.2
/-- room for one more -/
theorem tm_room {s : ty_Ps} {σ : rx_St} {α : Type} {Q : α → Prop} {F : rx_St → Option α} {c : Prop} [Decidable c] (a m : Nat) (hc : s.1 = 0 → (c ↔ m ≤ a)) (ht : tm_tk T n σ) (h : tm_rs T n s σ)
    (k : ∀ σ', tw_fr ta_S1 σ σ' → tm_rs T n (ty_room a m s) σ' → tw_ok (F σ') Q) : tw_ok (if c then (f_m_fail (2 : Int32) σ).bind F else F σ) Q := by
  by_cases d : c
  · rw [if_pos d]
    refine tw_b (tm_fail 2 rfl (by omega) (by omega) ht h) (fun σ1 g => ?_)
    refine k σ1 g.1 ?_
    have e : ty_room a m s = if s.1 = 0 then (2, s.2) else s := by
      unfold ty_room
      by_cases z : s.1 = 0
      · rw [if_pos z, if_pos ⟨z, (hc z).mp d⟩]
      · rw [if_neg z, if_neg (fun y => z y.1)]
    rw [e]
    exact g.2
  · rw [if_neg d]
    refine k σ tw_fr.rf ?_
    have e : ty_room a m s = s := by
      unfold ty_room
      rw [if_neg (fun y => d ((hc y.1).mpr y.2))]
    rw [e]
    exact h
/-! what is amiss -/
def tm_fd (acc : Option (Nat × Nat)) (σ : rx_St) : Prop := match acc with
  | none => σ.1 87 15 = nI 0
  | some m => σ.1 87 15 = nI m.2 ∧ σ.1 87 16 = nI m.1 ∧ 1 ≤ m.2 ∧ m.2 < 8 ∧ m.1 ≤ 2000
theorem tm_fd.fr {acc : Option (Nat × Nat)} {σ σ' : rx_St} (h : tm_fd acc σ) (f : ∀ j, j = 15 ∨ j = 16 → σ'.1 87 j = σ.1 87 j) : tm_fd acc σ' := by
  unfold tm_fd at h ⊢
  cases acc with
  | none => exact (f _ (by omega)).trans h
  | some m => exact ⟨(f _ (by omega)).trans h.1, (f _ (by omega)).trans h.2.1, h.2.2⟩
def ta_S5 (q j : Nat) : Prop := q = 87 ∧ (j = 15 ∨ j = 16)
theorem tm_wrong {s : ty_Ps} {σ : rx_St} {acc : Option (Nat × Nat)} {m : Int32} {k t : Nat} (hm : m = nI k) (hP : ∀ i, ty_Pl T n i ≤ 2000) (ht : tm_tk T n σ) (h : tm_rs T n s σ) (hs : s.1 = 0) (h5 : t ≤ 500) (hl : t ≤ T.length) (hk : 1 ≤ k) (hk8 : k < 8) (ha : tm_fd acc σ) : tw_ok (f_m_wrong m (nI t) σ) (fun σ' => tw_fr ta_S5 σ σ' ∧ tm_fd (ty_st T n acc (k, t)) σ') := by
  have p2 := hP t
  unfold f_m_wrong
  refine tw_g (vp_in_nI (by omega) (by decide)) ?_
  rw [nI_clamp (by omega), (ht.K h5 hl).2.1]
  show tw_ok (if (0 : Int32) < σ.1 87 13 then some σ else if σ.1 87 15 = (0 : Int32) then f_m_wrong_46 m (nI (ty_Pl T n t)) σ else if σ.1 87 16 < nI (ty_Pl T n t) then some σ else if nI (ty_Pl T n t) = σ.1 87 16 then (if m < σ.1 87 15 then f_m_wrong_46 m (nI (ty_Pl T n t)) σ else some σ) else f_m_wrong_46 m (nI (ty_Pl T n t)) σ) _
  rw [tw_ifE h.g, if_neg (fun z => z hs), hm]
  have put : tw_ok (f_m_wrong_46 (nI k) (nI (ty_Pl T n t)) σ) (fun σ' => tw_fr ta_S5 σ σ' ∧ tm_fd (some (ty_Pl T n t, k)) σ') := by
    unfold f_m_wrong_46
    rw [tw_some]
    refine ⟨(tw_fr.rf.si ⟨rfl, by omega⟩).si ⟨rfl, by omega⟩, ?_, tw_r1s _ _ _ _, hk, hk8, p2⟩
    rw [tw_r1n _ _ (by omega)]
    exact tw_r1s _ _ _ _
  unfold ty_st
  cases acc with
  | none =>
    have h1 : σ.1 87 15 = nI 0 := ha
    rw [h1, if_pos (show nI 0 = (0 : Int32) from rfl)]
    exact put
  | some m =>
    obtain ⟨h1, h2, h3, h4, h5'⟩ := ha
    show tw_ok _ (fun σ' => tw_fr ta_S5 σ σ' ∧ tm_fd (if ty_Pl T n t < m.1 ∨ ty_Pl T n t = m.1 ∧ k < m.2 then some (ty_Pl T n t, k) else some m) σ')
    rw [h1, h2, if_neg (show ¬ nI m.2 = (0 : Int32) by rw [show (0 : Int32) = nI 0 from rfl, tw_eq (by omega) (by omega)]; omega), tw_ifE (tw_lt (a := m.1) (b := ty_Pl T n t) (by omega) (by omega))]
    have keep : ¬ (ty_Pl T n t < m.1 ∨ ty_Pl T n t = m.1 ∧ k < m.2) → tw_ok (some σ) (fun σ' => tw_fr ta_S5 σ σ' ∧ tm_fd (if ty_Pl T n t < m.1 ∨ ty_Pl T n t = m.1 ∧ k < m.2 then some (ty_Pl T n t, k) else some m) σ') := fun z => by
      rw [if_neg z, tw_some]
      exact ⟨tw_fr.rf, h1, h2, h3, h4, h5'⟩
    by_cases c1 : m.1 < ty_Pl T n t
    · rw [if_pos c1]
      exact keep (fun z => by omega)
    · rw [if_neg c1, tw_ifE (tw_eq (a := ty_Pl T n t) (b := m.1) (by omega) (by omega))]
      by_cases c2 : ty_Pl T n t = m.1
      · rw [if_pos c2, tw_ifE (tw_lt (a := k) (b := m.2) (by omega) (by omega))]
        by_cases c3 : k < m.2
        · rw [if_pos c3, if_pos (Or.inr ⟨c2, c3⟩)]
          exact put
        · rw [if_neg c3]
          exact keep (fun z => by omega)
      · rw [if_neg c2, if_pos (Or.inl (by omega))]
        exact put
/-- the letters of a NAME, packed -/
theorem tm_nameK {σ : rx_St} {t : Nat} (ht : tm_tk T n σ) (h : ty_K T t = 23) (h5 : t ≤ 500) : σ.2 93 t = qL (tw_pk 27 (ty_Lt T t)) ∧ tw_az (ty_Lt T t) ∧ (ty_Lt T t).length ≤ 8 ∧ t < T.length := by
  have hl := ty_K_lt h (by omega)
  have nl := ty_nm_L ht.2 h
  refine ⟨?_, nl.1, nl.2, hl⟩
  have e : T[t]? = some T[t] := List.getElem?_eq_getElem hl
  have hk := h
  unfold ty_K at hk
  rw [e] at hk
  have hk' : T[t].1 = 23 := hk
  unfold ty_Lt
  rw [e, (ht.1.1 t _ h5 e).2.2.2 (by omega)]
theorem tm_name {σ : rx_St} {t : Nat} (ht : tm_tk T n σ) (h : ty_nm T t) : σ.2 93 t = qL (tw_pk 27 (ty_Lt T t)) ∧ tw_az (ty_Lt T t) ∧ (ty_Lt T t).length ≤ 8 ∧ t < T.length := tm_nameK ht h.1 (by have := h.2; omega)
theorem tm_cmp {L L' : List Nat} (h : tw_az L) (h8 : L.length ≤ 8) (h' : tw_az L') (h8' : L'.length ≤ 8) : (lg_cmp (qL (tw_pk 27 L)) (qL (tw_pk 27 L')) = (0 : Int32)) = (L = L') := by
  rw [lg_cmp0, qL_inj (tw_pk8 (by omega) (by omega) h h8) (tw_pk8 (by omega) (by omega) h' h8')]
  exact propext ⟨fun z => tw_pk_inj (by omega) h h' z, fun z => by rw [z]⟩
theorem tm_val {σ : rx_St} {t : Nat} (ht : tm_tk T n σ) (h : ty_K T t = 24) (h5 : t ≤ 500) : σ.1 92 t = nI (ty_V T t) ∧ ty_V T t ≤ 9999 := by
  have hl := ty_K_lt h (by omega)
  have e : T[t]? = some T[t] := List.getElem?_eq_getElem hl
  refine ⟨?_, ty_V_le ht.2 h⟩
  unfold ty_K at h
  rw [e] at h
  have h' : T[t].1 = 24 := h
  unfold ty_V
  rw [e]
  exact (ht.1.1 t _ h5 e).2.2.1 h'
end TMR
