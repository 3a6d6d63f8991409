/-! THE WORLD in the class's rows: RULES, KINDS -/
section TBYC
variable {T : List tw_Tk} {U : ty_Wo} {k w : Nat} {K : ty_Ki} {cnt : Bool} {σ : rx_St} {D : List tz_Cd}
/-- what counts those about is known -/
def ta_nd (cnt : Bool) (r : ty_Ru) : Prop := ∀ x, (∃ l ∈ r.1, x ∈ l.2.2.2.1 ∨ x ∈ l.2.2.2.2) ∨ (∃ w ∈ r.2, x ∈ w.2.2.2) → tz_nd (tz_uc x).1 = true → cnt = true
theorem ta_Crule (hD : ∀ (p : Nat) (x : tz_Cd), D[p]? = some x → σ.1 (18 + 14 * w) p = nI x.1 ∧ σ.1 (19 + 14 * w) p = x.2.1 ∧ σ.1 (20 + 14 * w) p = x.2.2) {r : ty_Ru} {p : Nat} (hv : ty_vR T r) (hd : ty_dR r) (h : ta_cR T U k r) (hc : ta_nd cnt r) (ha : ta_at D p ((tz_rc p r).map (tz_rv T U k))) : tc_rule w cnt σ p (ta_Wu T U k r) (p + (tz_rc p r).length) := by
  obtain ⟨v1, v2, v3, v4⟩ := hv
  have rl : (tz_rc p r).length = ty_sz r.1 + (tz_wcs r.2).length := by
    unfold tz_rc
    rw [List.length_append, tz_lco_len]
  have er : p + (tz_rc p r).length = p + ty_sz r.1 + (tz_wcs r.2).length := by omega
  rw [er]
  unfold tz_rc at ha
  rw [List.map_append] at ha
  have a1 := ha.l
  have a2 := ha.r
  rw [List.length_map, tz_lco_len] at a2
  refine ⟨p + ty_sz r.1, ?_, ta_Cwis hD r.2 _ v2 hd.2 h.2 (fun x hx y hy => hc y (Or.inr ⟨x, hx, hy⟩)) a2⟩
  show tc_cond w cnt σ _ p (ta_Wls T U k true r.1) _
  have h1 := h.1
  have hc1 : ∀ l ∈ r.1, ∀ x, x ∈ l.2.2.2.1 ∨ x ∈ l.2.2.2.2 → tz_nd (tz_uc x).1 = true → cnt = true := fun l hl x hx => hc x (Or.inl ⟨l, hl, hx⟩)
  cases hr : r.1 with
  | nil => exact (Nat.add_zero p).symm
  | cons l ls =>
    rw [hr] at a1 v1 h1 hc1
    have lf := v4 l ls hr
    have nl : ¬ l.1 = true := by rw [lf]; decide
    rw [ty_sz, if_neg nl, Nat.zero_add] at a1 ⊢
    rw [tz_lco, if_neg nl, List.map_append] at a1
    have tg := tz_tg_ge (e := p + (ty_ln l.2 + ty_sz ls) + (tz_wcs r.2).length) ls (p + ty_ln l.2) (by omega)
    have a3 := a1.r
    rw [List.length_map, tz_lc_len] at a3
    refine ⟨_, p + ty_ln l.2, ta_Clit hD (v1 l (List.mem_cons_self ..)) (h1 l (List.mem_cons_self ..)) (hc1 l (List.mem_cons_self ..)) a1.l tg.1, tg.2, ?_⟩
    exact ta_Clits hD (by omega) ls _ (fun y hy => v1 y (List.mem_cons_of_mem _ hy)) (fun y hy => h1 y (List.mem_cons_of_mem _ hy)) (fun y hy => hc1 y (List.mem_cons_of_mem _ hy)) a3 (by omega)
theorem ta_Crules (hD : ∀ (p : Nat) (x : tz_Cd), D[p]? = some x → σ.1 (18 + 14 * w) p = nI x.1 ∧ σ.1 (19 + 14 * w) p = x.2.1 ∧ σ.1 (20 + 14 * w) p = x.2.2) : ∀ (rs : List ty_Ru) (p : Nat), (∀ r ∈ rs, ty_vR T r ∧ ty_dR r ∧ ta_cR T U k r ∧ ta_nd cnt r) → ta_at D p ((tz_rcs p rs).map (tz_rv T U k)) → tc_rules w cnt σ p (rs.map (ta_Wu T U k)) (p + (tz_rcs p rs).length)
  | [], p, _, _ => rfl
  | r :: rs, p, h, ha => by
    obtain ⟨h1, h2, h3, h4⟩ := h r (List.mem_cons_self ..)
    rw [tz_rcs, List.map_append] at ha
    have a2 := ha.r
    rw [List.length_map] at a2
    rw [tz_rcs, List.length_append, List.map_cons, ← Nat.add_assoc]
    exact ⟨_, ta_Crule hD h1 h2 h3 h4 ha.l, ta_Crules hD rs _ (fun y hy => h y (List.mem_cons_of_mem _ hy)) a2⟩
theorem ta_Ckind : ∀ (Ks : List ty_Ki) (k0 p k : Nat) (K : ty_Ki), ta_at D p (tz_kD T U k0 p Ks) → Ks[k]? = some K → ta_at D (p + (tz_kcs p (Ks.take k)).length) ((tz_rcs (p + (tz_kcs p (Ks.take k)).length) K.2.2).map (tz_rv T U (k0 + k))) ∧ (tz_kcs p (Ks.take (k + 1))).length = (tz_kcs p (Ks.take k)).length + (tz_rcs (p + (tz_kcs p (Ks.take k)).length) K.2.2).length ∧ (tz_kcs p (Ks.take (k + 1))).length ≤ (tz_kD T U k0 p Ks).length
  | [], _, _, _, _, _, h => by cases h
  | K0 :: Ks, k0, p, 0, K, ha, h => by
    cases h
    rw [tz_kD] at ha ⊢
    have e : tz_kcs p ((K0 :: Ks).take 1) = tz_rcs p K0.2.2 := by
      show tz_rcs p K0.2.2 ++ [] = _
      rw [List.append_nil]
    refine ⟨ha.l, ?_, ?_⟩
    · rw [e]
      exact (Nat.zero_add _).symm
    · rw [e, List.length_append, List.length_map]
      omega
  | K0 :: Ks, k0, p, k + 1, K, ha, h => by
    rw [tz_kD] at ha ⊢
    have a2 := ha.r
    rw [List.length_map] at a2
    have ih := ta_Ckind Ks (k0 + 1) (p + (tz_rcs p K0.2.2).length) k K a2 h
    have e : ∀ j, tz_kcs p ((K0 :: Ks).take (j + 1)) = tz_rcs p K0.2.2 ++ tz_kcs (p + (tz_rcs p K0.2.2).length) (Ks.take j) := fun j => rfl
    rw [e, e, List.length_append, List.length_append, List.length_append, List.length_map, show k0 + (k + 1) = k0 + 1 + k by omega, ← Nat.add_assoc p]
    obtain ⟨i1, i2, i3⟩ := ih
    exact ⟨i1, by omega, by omega⟩
theorem ta_WR (hT : ∀ (i : Nat) (x : tw_Tk), T[i]? = some x → tw_tkok x) (hU : ty_vP T U) (hd : ∀ K ∈ U.2, ty_dK K) (hE : tz_E T U = []) (hw : tz_wr w T U σ) (hc : tz_cd2 w (tz_kD T U 0 0 U.2) σ) (h13 : σ.1 (7 + 14 * w) 13 = tw_B (tz_cnt (tz_kcs 0 U.2))) : tc_WR w (ta_Wo T U) σ := by
  obtain ⟨⟨s1, s2, s3⟩, n1, n2, n3⟩ := hw
  obtain ⟨d1, d2, d3⟩ := hc
  have kind : ∀ k, k < U.2.length → ∃ K, U.2[k]? = some K ∧ K ∈ U.2 := fun k hk => ⟨_, List.getElem?_eq_getElem hk, List.getElem_mem hk⟩
  refine ⟨_, h13, ⟨by rw [ta_Wo_len]; exact n1, fun k hk => ?_⟩, ⟨_, d1, d2, fun k hk => ?_⟩, ?_⟩
  · rw [ta_Wo_len] at hk
    obtain ⟨K, hK, -⟩ := kind k hk
    obtain ⟨-, ⟨q1, -, -⟩, -⟩ := tz_Krs_get U.2 0 0 k K n3 hK
    rw [Nat.zero_add] at q1
    rw [ta_Wo_vc hK]
    exact q1
  · rw [ta_Wo_len] at hk
    obtain ⟨K, hK, hm⟩ := kind k hk
    obtain ⟨-, -, -, -, q1, q2⟩ := tz_Krs_get U.2 0 0 k K n3 hK
    obtain ⟨a, b, c⟩ := ta_Ckind (D := tz_kD T U 0 0 U.2) (T := T) (U := U) U.2 0 0 k K (ta_at.rf _) hK
    simp only [Nat.zero_add] at a b q1 q2
    obtain ⟨-, -, v3, -, -⟩ := hU.2.2.1 K hm
    have g := ta_Crules (cnt := tz_cnt (tz_kcs 0 U.2)) d3 K.2.2 _ (fun r hr => ⟨v3 r hr, hd K hm r hr, ta_clean hE hK r hr, fun x hx nd => ?_⟩) a
    · refine ⟨_, _, q1, q2, ?_, ?_⟩
      · exact c
      · rw [ta_Wo_kind hK, b]
        exact g
    · obtain ⟨q, m1⟩ := tz_mem_kcs U.2 0 K hm
      obtain ⟨q', m2⟩ := tz_mem_rcs K.2.2 q r hr
      unfold tz_cnt
      rw [List.any_eq_true]
      exact ⟨_, m1 _ (m2 _ (ta_mem_op hx)), nd⟩
  · show _ = nI (U.1.map _).length
    rw [List.length_map]
    exact s1
end TBYC
