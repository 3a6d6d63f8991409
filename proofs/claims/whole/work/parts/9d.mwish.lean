/-! THE MODEL READS: a WISH from its E on -/
/-- a WISH from behind its VAR on -/
def ta_wx (T : List tw_Tk) (k0 : Nat) (s : ty_Ps) (tok t0 : Nat) : ty_Ps × ty_Wi :=
  if k0 = 2 then (ty_tkn T 25 (ty_tkn T 23 (ty_tkn T (ty_pk T (ty_tkn T 10 (ty_E1 T s).1)) (ty_tkn T 10 (ty_E1 T s).1))), (ty_pk T (ty_tkn T 10 (ty_E1 T s).1) - 9, tok, (ty_tkn T (ty_pk T (ty_tkn T 10 (ty_E1 T s).1)) (ty_tkn T 10 (ty_E1 T s).1)).2, (ty_E1 T s).2))
  else if k0 = 4 then (ty_tkn T 25 s, (k0, tok, t0, []))
  else (ty_tkn T 25 (ty_E1 T s).1, (k0, tok, t0, (ty_E1 T s).2))
section TBE
variable {X : ta_X} {T : List tw_Tk} {n : Nat}
def ta_wh (r lv : Nat) (Ws : List ta_Wr) (v b : Nat) (σ : rx_St) : Prop := ta_wr r lv Ws σ ∧ σ.1 109 (6 * r + Ws.length) = nI v ∧ σ.1 112 (6 * r + Ws.length) = nI (700 * lv + b)
theorem ta_wh.fr {r lv v b : Nat} {Ws : List ta_Wr} {σ σ' : rx_St} (h : ta_wh r lv Ws v b σ) (f : ∀ q j, 107 ≤ q ∧ q ≤ 112 → σ'.1 q j = σ.1 q j) (f2 : ∀ j, j < 6 * r + Ws.length → σ'.1 113 j = σ.1 113 j) : ta_wh r lv Ws v b σ' := by
  refine ⟨h.1.fr (fun q j a => ?_), (f _ _ (by omega)).trans h.2.1, (f _ _ (by omega)).trans h.2.2⟩
  by_cases e : q = 113
  · subst e; exact f2 j (by omega)
  · exact f q j (by omega)
/-- 113 is written -/
theorem ta_w113 {s : ty_Ps} {d r v b : Nat} {C : List tz_Cd} {Q : List ta_Qu} {acc : Option (Nat × Nat)} {L : List ta_Lr} {Ws : List ta_Wr} {σ0 σ : rx_St} (h : ta_pl X T n s d C Q acc L σ) (hw : s.1 = 0 → ta_wh r X.1 Ws v b σ) (fr : tw_fr (ta_SW r X.1) σ0 σ) (hW : Ws.length ≤ 5) : ta_pl X T n s d C Q acc L (rx_si σ 113 (6 * r + Ws.length) (σ.1 87 46)) ∧ (s.1 = 0 → ta_wp r X.1 Ws v b C.length (rx_si σ 113 (6 * r + Ws.length) (σ.1 87 46))) ∧ tw_fr (ta_SW r X.1) σ0 (rx_si σ 113 (6 * r + Ws.length) (σ.1 87 46)) := by
  have f : tw_fr (fun q j => q = 113 ∧ j = 6 * r + Ws.length) σ (rx_si σ 113 (6 * r + Ws.length) (σ.1 87 46)) := tw_fr.rf.si ⟨rfl, rfl⟩
  refine ⟨h.keep (f.mn (fun q j a => by omega)), fun z => ?_, fr.tr (f.mn (fun q j a => by unfold ta_SW; omega))⟩
  obtain ⟨a, b', c⟩ := (hw z).fr (σ' := rx_si σ 113 (6 * r + Ws.length) (σ.1 87 46)) (fun q j y => f.i (by omega)) (fun j y => f.i (by omega))
  refine ⟨a, b', c, ?_⟩
  rw [tw_r1s]
  exact (h.1.2.2.2 z).1.1.1
theorem ta_w155 {s : ty_Ps} {d r k0 v b tok t0 : Nat} {v4 : Int32} {C : List tz_Cd} {Q : List ta_Qu} {acc : Option (Nat × Nat)} {L : List ta_Lr} {Ws : List ta_Wr} {σ0 σ : rx_St} (hr : r < 80) (hW : Ws.length ≤ 5) (hk : k0 ≤ 4) (h4 : k0 = 2 → s.1 = 0 → v4 = nI tok) (h : ta_pl X T n s d C Q acc L σ) (hw : s.1 = 0 → ta_wh r X.1 Ws v b σ) (fr : tw_fr (ta_SW r X.1) σ0 σ) :
    tw_ok (f_m_tellWish_155 (nI r) (nI k0) (nI (6 * r + Ws.length)) v4 σ) (fun σ' => tw_fr (ta_SW r X.1) σ0 σ' ∧
      if k0 = 2 then ta_pw X T n r (ty_tkn T 25 (ty_tkn T 23 (ty_tkn T (ty_pk T (ty_tkn T 10 s)) (ty_tkn T 10 s)))) d C (Q ++ [(2, 6 * r + Ws.length, X.2.1, (ty_tkn T (ty_pk T (ty_tkn T 10 s)) (ty_tkn T 10 s)).2, tok)]) acc L (Ws ++ [(ty_pk T (ty_tkn T 10 s) - 9, v, b, C.length)]) σ'
      else ta_pw X T n r (ty_tkn T 25 s) d C Q acc L (Ws ++ [(k0, v, b, C.length)]) σ') := by
  obtain ⟨h1, h2, f1⟩ := ta_w113 h hw fr hW
  unfold f_m_tellWish_155
  refine tw_g (vp_in_nI (by omega) (by decide)) ?_
  rw [nI_clamp (by omega)]
  show tw_ok (if nI k0 = (2 : Int32) then ((f_m_must (30 : Int32) (rx_si σ 113 (6 * r + Ws.length) (σ.1 87 46))).bind fun y1 => (f_m_is (32 : Int32) y1).bind fun y2 => if y2 = (0 : Int32) then f_m_tellWish_187 (nI r) (nI k0) (nI (6 * r + Ws.length)) v4 y1 else f_m_tellWish_187 (nI r) (3 : Int32) (nI (6 * r + Ws.length)) v4 y1) else f_m_tellWish_237 (nI r) (nI k0) (nI (6 * r + Ws.length)) (rx_si σ 113 (6 * r + Ws.length) (σ.1 87 46))) _
  rw [tw_ifE (show (nI k0 = (2 : Int32)) = (k0 = 2) from tw_eq (b := 2) (by omega) (by omega))]
  by_cases c : k0 = 2
  · rw [if_pos c]
    refine tw_b (h1.mu (m := (30 : Int32)) 10 rfl (by omega)) (fun σ1 g => ?_)
    obtain ⟨g1, g2⟩ := g
    have fA := f1.tr (g1.mn (ta_S1W r X.1))
    have w1 : (ty_tkn T 10 s).1 = 0 → ta_wp r X.1 Ws v b C.length σ1 := fun z => (h2 (ty_tkn_0 z).1).fr (fun q j a => g1.i (by unfold ta_S1; omega))
    rw [tm_is (m := (32 : Int32)) 12 rfl (by omega) g2.1.1.1 g2.1.2.1, Option.bind_some, tm_ifz]
    by_cases e : ty_nx T (ty_tkn T 10 s) = 12
    · have pk : ty_pk T (ty_tkn T 10 s) = 12 := if_pos e
      have gz := ty_nx_0 (T := T) (s := ty_tkn T 10 s) (by omega)
      rw [if_pos e]
      unfold f_m_tellWish_187
      rw [tm_is (m := (32 : Int32)) 12 rfl (by omega) g2.1.1.1 g2.1.2.1, Option.bind_some, tm_ifz, if_pos e]
      refine tw_b (ta_pl.nx 12 (by omega) (fun _ => by rw [← gz.2]; exact e) g2) (fun σ2 k => ?_)
      obtain ⟨k1, k2⟩ := k
      have := ta_w209 (k := 3) (v4 := v4) (t := tok) hr hW (fun z => h4 c (ty_tkn_0 (ty_tkn_0 z).1).1) (k2.sel (d' := d) (by omega)) (fun z => (w1 (ty_tkn_0 z).1).fr (fun q j a => k1.i (by unfold ta_S1; omega))) (fA.tr (k1.mn (ta_S1W r X.1)))
      refine tw_mono this (fun σ' k => ⟨k.1, ?_⟩)
      rw [if_pos c, pk]
      exact k.2
    · have pk : ty_pk T (ty_tkn T 10 s) = 11 := if_neg e
      rw [if_neg e]
      unfold f_m_tellWish_187
      rw [tm_is (m := (32 : Int32)) 12 rfl (by omega) g2.1.1.1 g2.1.2.1, Option.bind_some, tm_ifz, if_neg e]
      refine tw_b (g2.mu (m := (31 : Int32)) 11 rfl (by omega)) (fun σ2 k => ?_)
      obtain ⟨k1, k2⟩ := k
      have := ta_w209 (k := 2) (v4 := v4) (t := tok) hr hW (fun z => h4 c (ty_tkn_0 (ty_tkn_0 z).1).1) (k2.sel (d' := d) (by omega)) (fun z => (w1 (ty_tkn_0 z).1).fr (fun q j a => k1.i (by unfold ta_S1; omega))) (fA.tr (k1.mn (ta_S1W r X.1)))
      rw [c]
      refine tw_mono this (fun σ' k => ⟨k.1, ?_⟩)
      rw [if_pos rfl, pk]
      exact k.2
  · rw [if_neg c]
    refine tw_mono (ta_w237 (k := k0) hr hW h1 h2 f1) (fun σ' k => ⟨k.1, ?_⟩)
    rw [if_neg c]
    exact k.2
/-- from the E on -/
theorem ta_w135 {s : ty_Ps} {d r k0 v tok t0 : Nat} {v4 s2 : Int32} {C : List tz_Cd} {Q : List ta_Qu} {acc : Option (Nat × Nat)} {L : List ta_Lr} {Ws : List ta_Wr} {σ0 σ : rx_St} (hP : ∀ i, ty_Pl T n i ≤ 2000) (hr : r < 80) (hW : Ws.length ≤ 5) (hk : k0 ≤ 4) (h4 : k0 = 2 → s.1 = 0 → v4 = nI tok) (hs2 : s.1 = 0 → s2 = nI v) (h : ta_pl X T n s d C Q acc L σ) (hw : s.1 = 0 → ta_wr r X.1 Ws σ) (fr : tw_fr (ta_SW r X.1) σ0 σ) :
    tw_ok (f_m_tellWish_135 (nI r) (nI k0) (nI (6 * r + Ws.length)) v4 (nI (6 * r + Ws.length)) s2 σ) (fun σ' => tw_fr (ta_SW r X.1) σ0 σ' ∧ ta_pw X T n r (ta_wx T k0 s tok t0).1 d (C ++ (ta_wx T k0 s tok t0).2.2.2.2.map (ta_oc T X)) (Q ++ ta_oqs X C.length (ta_wx T k0 s tok t0).2.2.2.2 ++ (if k0 = 2 then [(2, 6 * r + Ws.length, X.2.1, (ta_wx T k0 s tok t0).2.2.2.1, tok)] else [])) (ty_mn T n acc ((ta_wx T k0 s tok t0).2.2.2.2.flatMap (ta_oe T X))) L (Ws ++ [((ta_wx T k0 s tok t0).2.1, v, C.length, C.length + (ta_wx T k0 s tok t0).2.2.2.2.length)]) σ') := by
  unfold f_m_tellWish_135
  refine tw_g (vp_in_nI (by omega) (by decide)) ?_
  rw [nI_clamp (by omega)]
  have e46 : (rx_si σ 109 (6 * r + Ws.length) s2).1 87 46 = σ.1 87 46 := tw_r1n _ _ (by omega)
  have f : tw_fr (fun q j => (q = 109 ∨ q = 112) ∧ j = 6 * r + Ws.length) σ (rx_si (rx_si σ 109 (6 * r + Ws.length) s2) 112 (6 * r + Ws.length) (σ.1 87 46)) := (tw_fr.rf.si ⟨Or.inl rfl, rfl⟩).si ⟨Or.inr rfl, rfl⟩
  have hA : ta_pl X T n s d C Q acc L (rx_si (rx_si σ 109 (6 * r + Ws.length) s2) 112 (6 * r + Ws.length) (σ.1 87 46)) := h.keep (f.mn (fun q j a => by omega))
  have wA : s.1 = 0 → ta_wh r X.1 Ws v C.length (rx_si (rx_si σ 109 (6 * r + Ws.length) s2) 112 (6 * r + Ws.length) (σ.1 87 46)) := fun z => by
    refine ⟨(hw z).fr (fun q j a => f.i (by omega)), ?_, ?_⟩
    · rw [tw_r1n _ _ (by omega), tw_r1s]; exact hs2 z
    · rw [tw_r1s]; exact (h.1.2.2.2 z).1.1.1
  have fA : tw_fr (ta_SW r X.1) σ0 (rx_si (rx_si σ 109 (6 * r + Ws.length) s2) 112 (6 * r + Ws.length) (σ.1 87 46)) := fr.tr (f.mn (fun q j a => by unfold ta_SW; omega))
  show tw_ok (rx_g (nI (6 * r + Ws.length)) 480 (if nI k0 = (4 : Int32) then f_m_tellWish_155 (nI r) (nI k0) (nI (6 * r + Ws.length)) v4 (rx_si (rx_si σ 109 (6 * r + Ws.length) s2) 112 (6 * r + Ws.length) ((rx_si σ 109 (6 * r + Ws.length) s2).1 87 46)) else ((f_m_expression (rx_si (rx_si σ 109 (6 * r + Ws.length) s2) 112 (6 * r + Ws.length) ((rx_si σ 109 (6 * r + Ws.length) s2).1 87 46))).bind fun y1 => f_m_tellWish_155 (nI r) (nI k0) (nI (6 * r + Ws.length)) v4 y1))) _
  rw [e46, tw_ifE (show (nI k0 = (4 : Int32)) = (k0 = 4) from tw_eq (b := 4) (by omega) (by omega))]
  refine tw_g (vp_in_nI (by omega) (by decide)) ?_
  by_cases c4 : k0 = 4
  · rw [if_pos c4]
    refine tw_mono (ta_w155 (tok := tok) (t0 := t0) hr hW hk h4 hA wA fA) (fun σ' k => ⟨k.1, ?_⟩)
    have k2 := k.2
    rw [if_neg (by omega)] at k2
    unfold ta_wx
    rw [if_neg (by omega), if_pos c4, if_neg (by omega)]
    show ta_pw X T n r (ty_tkn T 25 s) d (C ++ []) (Q ++ [] ++ []) acc L (Ws ++ [(k0, v, C.length, C.length + 0)]) σ'
    rw [List.append_nil, List.append_nil, List.append_nil]
    exact k2
  · rw [if_neg c4]
    refine tw_b (ta_E hP hA.1) (fun σ1 g => ?_)
    obtain ⟨g1, g2⟩ := g
    have h1 : ta_pl X T n (ty_E1 T s).1 d (C ++ (ty_E1 T s).2.map (ta_oc T X)) (Q ++ ta_oqs X C.length (ty_E1 T s).2) (ty_mn T n acc ((ty_E1 T s).2.flatMap (ta_oe T X))) L σ1 := ⟨g2, fun z => (hA.2 (ty_E1_0 z)).fr (fun q j a => g1.i (by unfold ta_SE; omega))⟩
    refine tw_mono (ta_w155 (tok := tok) (t0 := t0) (v := v) (b := C.length) hr hW hk (fun c z => h4 c (ty_E1_0 z)) h1 (fun z => (wA (ty_E1_0 z)).fr (fun q j a => g1.i (by unfold ta_SE; omega)) (fun j a => g1.i (by unfold ta_SE; omega))) (fA.tr (g1.mn (ta_SEW r X.1)))) (fun σ' k => ⟨k.1, ?_⟩)
    have k2 := k.2
    rw [List.length_append, List.length_map] at k2
    unfold ta_wx
    by_cases c2 : k0 = 2
    · rw [if_pos c2] at k2 ⊢
      rw [if_pos c2]
      exact k2
    · rw [if_neg c2] at k2 ⊢
      rw [if_neg c4, if_neg c2, List.append_nil]
      exact k2
end TBE
