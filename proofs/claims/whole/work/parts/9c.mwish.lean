/-! THE MODEL READS: a WISH -/
/-- sort, VAR, where its code begins and ends -/
abbrev ta_Wr : Type := Nat × Nat × Nat × Nat
def ta_wr (r lv : Nat) (Ws : List ta_Wr) (σ : rx_St) : Prop := σ.1 107 r = nI Ws.length ∧ ∀ (p : Nat) (x : ta_Wr), Ws[p]? = some x → σ.1 108 (6 * r + p) = nI x.1 ∧ σ.1 109 (6 * r + p) = nI x.2.1 ∧ σ.1 112 (6 * r + p) = nI (700 * lv + x.2.2.1) ∧ σ.1 113 (6 * r + p) = nI (700 * lv + x.2.2.2)
theorem ta_wr.fr {r lv : Nat} {Ws : List ta_Wr} {σ σ' : rx_St} (h : ta_wr r lv Ws σ) (f : ∀ q j, q = 107 ∧ j = r ∨ (q = 108 ∨ q = 109 ∨ q = 112 ∨ q = 113) ∧ j < 6 * r + Ws.length → σ'.1 q j = σ.1 q j) : ta_wr r lv Ws σ' := by
  obtain ⟨h1, h2⟩ := h
  refine ⟨(f _ _ (by omega)).trans h1, fun p x hx => ?_⟩
  have hp := (List.getElem?_eq_some_iff.mp hx).1
  obtain ⟨a, b, c, d⟩ := h2 p x hx
  exact ⟨(f _ _ (by omega)).trans a, (f _ _ (by omega)).trans b, (f _ _ (by omega)).trans c, (f _ _ (by omega)).trans d⟩
def ta_SW (r lv q j : Nat) : Prop := ta_SL lv q j ∨ q = 107 ∧ j = r ∨ 108 ≤ q ∧ q ≤ 113 ∧ 6 * r ≤ j ∧ j < 6 * r + 6
theorem ta_SLW (r lv : Nat) : ∀ q j, ta_SL lv q j → ta_SW r lv q j := fun q j h => Or.inl h
theorem ta_SEW (r lv : Nat) : ∀ q j, ta_SE lv q j → ta_SW r lv q j := fun q j h => Or.inl (Or.inl h)
theorem ta_S1W (r lv : Nat) : ∀ q j, ta_S1 q j → ta_SW r lv q j := fun q j h => Or.inl (Or.inl (ta_S1E lv q j h))
section TBD
variable {X : ta_X} {T : List tw_Tk} {n : Nat}
/-- rows of WISHES written: all else is kept -/
theorem ta_pl.keep {s : ty_Ps} {d : Nat} {C : List tz_Cd} {Q : List ta_Qu} {acc : Option (Nat × Nat)} {L : List ta_Lr} {σ σ' : rx_St} (h : ta_pl X T n s d C Q acc L σ) (f : tw_fr (fun q _ => 104 ≤ q ∧ q ≤ 113) σ σ') : ta_pl X T n s d C Q acc L σ' := by
  obtain ⟨⟨h1, h2, ⟨c, r1, r2⟩, h4⟩, h5⟩ := h
  refine ⟨⟨?_, h2.fr (fun j y => f.i (by omega)), ⟨c, (f.i (by omega)).trans r1, r2⟩, fun z => ?_⟩, fun z => (h5 z).fr (fun q j a => f.i (by omega))⟩
  · obtain ⟨c1, ⟨c2, c3⟩, ⟨c4, c5⟩, ⟨c6, c7, c8⟩, ⟨c9, c10, c11⟩⟩ := h1
    exact ⟨c1.fr (fun q j a b => ⟨f.i (by omega), f.l (by omega)⟩), ⟨(f.i (by omega)).trans c2, c3⟩, ⟨(f.i (by omega)).trans c4, c5⟩, ⟨(f.i (by omega)).trans c6, c7, fun i t ht => ⟨(f.l (by omega)).trans (c8 i t ht).1, (c8 i t ht).2⟩⟩, ⟨(f.i (by omega)).trans c9, c10, fun i t ht => ⟨(f.l (by omega)).trans (c11 i t ht).1, (c11 i t ht).2⟩⟩⟩
  · obtain ⟨g1, g2, g3⟩ := h4 z
    exact ⟨g1.fr (fun q j a => f.i (by omega)), g2, (f.i (by omega)).trans g3⟩
theorem ta_pl.mu {s : ty_Ps} {d : Nat} {C : List tz_Cd} {Q : List ta_Qu} {acc : Option (Nat × Nat)} {L : List ta_Lr} {σ : rx_St} {m : Int32} (k : Nat) (hm : m = nI (tw_km k)) (hk : k < 37) (h : ta_pl X T n s d C Q acc L σ) : tw_ok (f_m_must m σ) (fun σ' => tw_fr ta_S1 σ σ' ∧ ta_pl X T n (ty_tkn T k s) (d + 1) C Q acc L σ') := by
  refine tw_mono (h.1.mu k hm hk) (fun σ' g => ⟨g.1, g.2.sel (by omega), fun z => ?_⟩)
  exact (h.2 (ty_tkn_0 z).1).fr (fun q j a => g.1.i (by unfold ta_S1; omega))
theorem ta_pl.sel {s : ty_Ps} {d d' : Nat} {C : List tz_Cd} {Q : List ta_Qu} {acc : Option (Nat × Nat)} {L : List ta_Lr} {σ : rx_St} (h : ta_pl X T n s d C Q acc L σ) (hd : d' ≤ d) : ta_pl X T n s d' C Q acc L σ := ⟨h.1.sel (by omega), h.2⟩
/-- a WISH all but told -/
def ta_wp (r lv : Nat) (Ws : List ta_Wr) (v b e : Nat) (σ : rx_St) : Prop := ta_wr r lv Ws σ ∧ σ.1 109 (6 * r + Ws.length) = nI v ∧ σ.1 112 (6 * r + Ws.length) = nI (700 * lv + b) ∧ σ.1 113 (6 * r + Ws.length) = nI (700 * lv + e)
theorem ta_wp.fr {r lv v b e : Nat} {Ws : List ta_Wr} {σ σ' : rx_St} (h : ta_wp r lv Ws v b e σ) (f : ∀ q j, 107 ≤ q ∧ q ≤ 113 → σ'.1 q j = σ.1 q j) : ta_wp r lv Ws v b e σ' :=
  ⟨h.1.fr (fun q j a => f q j (by omega)), (f _ _ (by omega)).trans h.2.1, (f _ _ (by omega)).trans h.2.2.1, (f _ _ (by omega)).trans h.2.2.2⟩
def ta_pw (X : ta_X) (T : List tw_Tk) (n r : Nat) (s : ty_Ps) (d : Nat) (C : List tz_Cd) (Q : List ta_Qu) (acc : Option (Nat × Nat)) (L : List ta_Lr) (Ws : List ta_Wr) (σ : rx_St) : Prop := ta_pl X T n s d C Q acc L σ ∧ (s.1 = 0 → ta_wr r X.1 Ws σ)
theorem ta_w237 {s : ty_Ps} {d r k v b e : Nat} {C : List tz_Cd} {Q : List ta_Qu} {acc : Option (Nat × Nat)} {L : List ta_Lr} {Ws : List ta_Wr} {σ0 σ : rx_St} (hr : r < 80) (hW : Ws.length ≤ 5) (h : ta_pl X T n s d C Q acc L σ) (hw : s.1 = 0 → ta_wp r X.1 Ws v b e σ) (fr : tw_fr (ta_SW r X.1) σ0 σ) : tw_ok (f_m_tellWish_237 (nI r) (nI k) (nI (6 * r + Ws.length)) σ) (fun σ' => tw_fr (ta_SW r X.1) σ0 σ' ∧ ta_pw X T n r (ty_tkn T 25 s) d C Q acc L (Ws ++ [(k, v, b, e)]) σ') := by
  unfold f_m_tellWish_237
  refine tw_b (h.mu (m := (4 : Int32)) 25 rfl (by omega)) (fun σ1 g => ?_)
  obtain ⟨f1, h1⟩ := g
  refine tw_g (vp_in_nI (by omega) (by decide)) ?_
  rw [nI_clamp (by omega)]
  have f2 : tw_fr (fun q j => q = 108 ∧ j = 6 * r + Ws.length) σ1 (rx_si σ1 108 (6 * r + Ws.length) (nI k)) := tw_fr.rf.si ⟨rfl, rfl⟩
  have h2 := h1.keep (f2.mn (fun q j a => by omega))
  have fA : tw_fr (ta_SW r X.1) σ0 (rx_si σ1 108 (6 * r + Ws.length) (nI k)) := (fr.tr (f1.mn (ta_S1W r X.1))).tr (f2.mn (fun q j a => by unfold ta_SW; omega))
  show tw_ok (if (rx_si σ1 108 (6 * r + Ws.length) (nI k)).1 87 13 = (0 : Int32) then (rx_g (nI r) 80 (rx_g (nI r) 80 (some (rx_si (rx_si σ1 108 (6 * r + Ws.length) (nI k)) 107 (nI r).toNatClampNeg ((rx_si σ1 108 (6 * r + Ws.length) (nI k)).1 107 (nI r).toNatClampNeg + (1 : Int32)))))) else some (rx_si σ1 108 (6 * r + Ws.length) (nI k))) _
  rw [tw_ifE h2.1.2.1.z]
  by_cases z : (ty_tkn T 25 s).1 = 0
  · rw [if_pos z]
    refine tw_g (vp_in_nI (by omega) (by decide)) (tw_g (vp_in_nI (by omega) (by decide)) ?_)
    obtain ⟨w1, w2, w3, w4⟩ := hw (ty_tkn_0 z).1
    have e1 : ∀ q j, 107 ≤ q ∧ q ≤ 113 → σ1.1 q j = σ.1 q j := fun q j a => f1.i (by unfold ta_S1; omega)
    have e107 : (rx_si σ1 108 (6 * r + Ws.length) (nI k)).1 107 r = nI Ws.length := by rw [tw_r1n _ _ (by omega), e1 _ _ (by omega)]; exact w1.1
    rw [nI_clamp (by omega), e107, show nI Ws.length + (1 : Int32) = nI (Ws.length + 1) from nI_add _ 1, tw_some]
    have f3 : tw_fr (fun q j => q = 107 ∧ j = r) (rx_si σ1 108 (6 * r + Ws.length) (nI k)) (rx_si (rx_si σ1 108 (6 * r + Ws.length) (nI k)) 107 r (nI (Ws.length + 1))) := tw_fr.rf.si ⟨rfl, rfl⟩
    refine ⟨fA.tr (f3.mn (fun q j a => by unfold ta_SW; omega)), (h2.keep (f3.mn (fun q j a => by omega))).sel (by omega), fun _ => ⟨?_, fun p x hx => ?_⟩⟩
    · rw [tw_r1s, List.length_append]; rfl
    · have b3 : ∀ q j, 108 ≤ q ∧ q ≤ 113 → ¬ (q = 108 ∧ j = 6 * r + Ws.length) → (rx_si (rx_si σ1 108 (6 * r + Ws.length) (nI k)) 107 r (nI (Ws.length + 1))).1 q j = σ.1 q j := fun q j a c => ((f3.i (by omega)).trans (f2.i (by omega))).trans (e1 _ _ (by omega))
      rcases tw_app hx with ⟨hp, hx⟩ | ⟨hp, rfl⟩
      · obtain ⟨a1, a2, a3, a4⟩ := w1.2 p x hx
        exact ⟨(b3 _ _ (by omega) (by omega)).trans a1, (b3 _ _ (by omega) (by omega)).trans a2, (b3 _ _ (by omega) (by omega)).trans a3, (b3 _ _ (by omega) (by omega)).trans a4⟩
      · subst hp
        refine ⟨?_, (b3 _ _ (by omega) (by omega)).trans w2, (b3 _ _ (by omega) (by omega)).trans w3, (b3 _ _ (by omega) (by omega)).trans w4⟩
        rw [tw_r1n _ _ (by omega), tw_r1s]
  · rw [if_neg z, tw_some]
    exact ⟨fA, h2.sel (by omega), fun y => absurd y z⟩
/-- its question -/
theorem ta_w209 {s : ty_Ps} {d r k v b e t : Nat} {v4 : Int32} {C : List tz_Cd} {Q : List ta_Qu} {acc : Option (Nat × Nat)} {L : List ta_Lr} {Ws : List ta_Wr} {σ0 σ : rx_St} (hr : r < 80) (hW : Ws.length ≤ 5) (h4 : s.1 = 0 → v4 = nI t) (h : ta_pl X T n s d C Q acc L σ) (hw : s.1 = 0 → ta_wp r X.1 Ws v b e σ) (fr : tw_fr (ta_SW r X.1) σ0 σ) : tw_ok (f_m_tellWish_209 (nI r) (nI k) (nI (6 * r + Ws.length)) v4 σ) (fun σ' => tw_fr (ta_SW r X.1) σ0 σ' ∧ ta_pw X T n r (ty_tkn T 25 (ty_tkn T 23 s)) d C (Q ++ [(2, 6 * r + Ws.length, X.2.1, s.2, t)]) acc L (Ws ++ [(k, v, b, e)]) σ') := by
  unfold f_m_tellWish_209
  refine tw_b (h.mu (m := (1 : Int32)) 23 rfl (by omega)) (fun σ1 g => ?_)
  obtain ⟨f1, h1⟩ := g
  rw [tw_ifE h1.1.2.1.z]
  have e1 : ∀ q j, 107 ≤ q ∧ q ≤ 113 → σ1.1 q j = σ.1 q j := fun q j a => f1.i (by unfold ta_S1; omega)
  have fA := fr.tr (f1.mn (ta_S1W r X.1))
  by_cases z : (ty_tkn T 23 s).1 = 0
  · rw [if_pos z]
    have z0 := (ty_tkn_0 z).1
    obtain ⟨p1, p2, p3⟩ := h.1.2.1.p z0
    obtain ⟨g1, g2, g3⟩ := h1.1.2.2.2 z
    have s5 := h1.1.2.1.2.2.2.2.1
    rw [p1, h4 z0]
    refine tw_b (g1.ask (m := (2 : Int32)) (e := nI t) 2 (6 * r + Ws.length) s.2 t rfl (fun _ => rfl) h1.1.1.2.2.1.1 (by omega)) (fun σ2 g => ?_)
    obtain ⟨k1, k2⟩ := g
    have fE : tw_fr (ta_SE X.1) σ1 σ2 := k1.mn (fun q j y => by unfold ta_SE; omega)
    refine ta_w237 hr hW ⟨⟨h1.1.1.fr fE, h1.1.2.1.fr (fun j y => k1.i (by omega)), ?_, fun _ => ⟨k2, ?_, (k1.i (by omega)).trans g3⟩⟩, fun y => (h1.2 y).fr (fun q j a => k1.i (by omega))⟩ (fun _ => ((hw z0).fr e1).fr (fun q j a => k1.i (by omega))) (fA.tr (fE.mn (ta_SEW r X.1)))
    · obtain ⟨c, r1, r2⟩ := h1.1.2.2.1
      exact ⟨c, (k1.i (by omega)).trans r1, r2⟩
    · rw [List.length_append]
      show C.length + (Q.length + 1) + (2 * L.length + d) ≤ _
      omega
  · rw [if_neg z]
    exact ta_w237 hr hW ((ta_pl.bad (d' := d) (C' := C) (Q' := Q ++ [(2, 6 * r + Ws.length, X.2.1, s.2, t)]) (acc' := acc) (L' := L) h1 z)) (fun y => absurd y z) fA
end TBD
