/-! THE MODEL READS: tellWish -/
theorem ty_W1_f {T : List tw_Tk} {s : ty_Ps} (h : ¬ s.1 = 0) : (ty_W1 T s).1 = s := by
  have nx := ty_nx_f (T := T) h
  have a : (ty_Wa T s).1 = s := by unfold ty_Wa; rw [nx, if_neg (by omega)]; exact ty_tkn_f h
  have b : (ty_Wb T s).1 = s := by unfold ty_Wb; rw [nx, if_neg (by omega), a]; exact ty_E1_f h
  unfold ty_W1
  rw [nx, if_neg (by omega)]
  show ty_tkn T 25 (ty_Wb T s).1 = s
  rw [b]
  exact ty_tkn_f h
theorem ta_wx_1 (T : List tw_Tk) (k0 : Nat) (s : ty_Ps) (tok t0 : Nat) (h : k0 = 0 ∨ k0 = 1 ∨ k0 = 2 ∨ k0 = 4) : ((ta_wx T k0 s tok t0).2.1 = 0 ∨ (ta_wx T k0 s tok t0).2.1 = 2 ∨ (ta_wx T k0 s tok t0).2.1 = 3 ↔ k0 = 0 ∨ k0 = 2) ∧ ((ta_wx T k0 s tok t0).2.1 = 2 ∨ (ta_wx T k0 s tok t0).2.1 = 3 ↔ k0 = 2) ∧ (ta_wx T k0 s tok t0).2.2.1 = tok := by
  unfold ta_wx
  by_cases c2 : k0 = 2
  · rw [if_pos c2]
    have pk : ty_pk T (ty_tkn T 10 (ty_E1 T s).1) - 9 = 2 ∨ ty_pk T (ty_tkn T 10 (ty_E1 T s).1) - 9 = 3 := by
      unfold ty_pk
      by_cases e : ty_nx T (ty_tkn T 10 (ty_E1 T s).1) = 12
      · rw [if_pos e]; exact Or.inr rfl
      · rw [if_neg e]; exact Or.inl rfl
    exact ⟨⟨fun _ => Or.inr c2, fun _ => Or.inr pk⟩, ⟨fun _ => c2, fun _ => pk⟩, rfl⟩
  · rw [if_neg c2]
    by_cases c4 : k0 = 4
    · rw [if_pos c4]
      refine ⟨?_, ?_, rfl⟩
      · show k0 = 0 ∨ k0 = 2 ∨ k0 = 3 ↔ _
        omega
      · show k0 = 2 ∨ k0 = 3 ↔ _
        omega
    · rw [if_neg c4]
      refine ⟨?_, ?_, rfl⟩
      · show k0 = 0 ∨ k0 = 2 ∨ k0 = 3 ↔ _
        omega
      · show k0 = 2 ∨ k0 = 3 ↔ _
        omega
section TBG
variable {X : ta_X} {T : List tw_Tk} {n : Nat}
def ta_wd (X : ta_X) (T : List tw_Tk) (n r : Nat) (d : Nat) (C : List tz_Cd) (Q : List ta_Qu) (acc : Option (Nat × Nat)) (L : List ta_Lr) (Ws : List ta_Wr) (σ : rx_St) (w : ty_Ps × ty_Wi) (σ' : rx_St) : Prop := tw_fr (ta_SW r X.1) σ σ' ∧ ta_pw X T n r w.1 d (C ++ w.2.2.2.2.map (ta_oc T X)) (Q ++ ta_wq X C.length (6 * r + Ws.length) w.2) (ty_mn T n acc (ta_we T X w.2)) L (Ws ++ [(w.2.1, ta_wv T X w.2, C.length, C.length + w.2.2.2.2.length)]) σ'
theorem ta_w83 {s : ty_Ps} {d r k0 k : Nat} {C : List tz_Cd} {Q : List ta_Qu} {acc : Option (Nat × Nat)} {L : List ta_Lr} {Ws : List ta_Wr} {σ : rx_St} (hP : ∀ i, ty_Pl T n i ≤ 2000) (hr : r < 80) (hW : Ws.length ≤ 5) (hk : k0 = 0 ∨ k0 = 1 ∨ k0 = 2 ∨ k0 = 4) (hs : s.1 = 0) (hK : ty_K T s.2 = k) (h37 : k ≠ 37) (h : ta_pw X T n r s d C Q acc L Ws σ) : tw_ok (f_m_tellWish_83 (nI r) (nI k0) σ) (ta_wd X T n r d C Q acc L Ws σ (if k0 = 0 ∨ k0 = 2 then ta_wx T k0 (ty_tkn T 23 (ty_tkn T k s)) (ty_tkn T k s).2 s.2 else ta_wx T k0 (ty_tkn T k s) s.2 s.2)) := by
  obtain ⟨h1, h2⟩ := h
  have w0 := h2 hs
  unfold f_m_tellWish_83
  rw [tw_ifE h1.1.2.1.l, if_pos hs]
  refine tw_g (vp_in_nI (by omega) (by decide)) ?_
  rw [nI_clamp (by omega), w0.1]
  show tw_ok ((f_m_next σ).bind fun y2 => if nI k0 = (0 : Int32) then f_m_tellWish_127 (nI r) (nI k0) ((6 : Int32) * nI r + nI Ws.length) (y2.1 87 11) ((6 : Int32) * nI r + nI Ws.length) y2 else if nI k0 = (2 : Int32) then f_m_tellWish_127 (nI r) (nI k0) ((6 : Int32) * nI r + nI Ws.length) (y2.1 87 11) ((6 : Int32) * nI r + nI Ws.length) y2 else f_m_tellWish_135 (nI r) (nI k0) ((6 : Int32) * nI r + nI Ws.length) (y2.1 87 11) ((6 : Int32) * nI r + nI Ws.length) (0 : Int32) y2) _
  rw [show (6 : Int32) * nI r + nI Ws.length = nI (6 * r + Ws.length) by rw [show (6 : Int32) = nI 6 from rfl, pk_mul, nI_add]]
  refine tw_b (ta_pl.nx k h37 (fun _ => hK) h1) (fun σ1 g => ?_)
  obtain ⟨f1, p1⟩ := g
  have w1 : (ty_tkn T k s).1 = 0 → ta_wr r X.1 Ws σ1 := fun _ => w0.fr (fun q j a => f1.i (by unfold ta_S1; omega))
  have fA : tw_fr (ta_SW r X.1) σ σ1 := f1.mn (ta_S1W r X.1)
  have own : k0 = 0 ∨ k0 = 2 → tw_ok (f_m_tellWish_127 (nI r) (nI k0) (nI (6 * r + Ws.length)) (σ1.1 87 11) (nI (6 * r + Ws.length)) σ1) (ta_wd X T n r d C Q acc L Ws σ (if k0 = 0 ∨ k0 = 2 then ta_wx T k0 (ty_tkn T 23 (ty_tkn T k s)) (ty_tkn T k s).2 s.2 else ta_wx T k0 (ty_tkn T k s) s.2 s.2)) := by
    intro c
    rw [if_pos c]
    unfold f_m_tellWish_127
    refine tw_b (ta_own hP p1) (fun y g => ?_)
    obtain ⟨g1, g2, g3⟩ := g
    refine tw_mono (ta_w135 (v := (ty_fi T (ty_Lt T (ty_tkn T k s).2) X.2.2.2 0).getD 0) (tok := (ty_tkn T k s).2) (t0 := s.2) hP hr hW (by omega) (fun _ z => (p1.1.2.1.p (ty_tkn_0 z).1).1) g3 (g2.sel (d' := d) (by omega)) (fun z => (w1 (ty_tkn_0 z).1).fr (fun q j a => g1.i (by unfold ta_SE; omega))) (fA.tr (g1.mn (ta_SEW r X.1)))) (fun σ' gg => ⟨gg.1, ?_⟩)
    have k2 := gg.2
    obtain ⟨x1, x2, x3⟩ := ta_wx_1 T k0 (ty_tkn T 23 (ty_tkn T k s)) (ty_tkn T k s).2 s.2 hk
    have e1 : ta_wv T X (ta_wx T k0 (ty_tkn T 23 (ty_tkn T k s)) (ty_tkn T k s).2 s.2).2 = (ty_fi T (ty_Lt T (ty_tkn T k s).2) X.2.2.2 0).getD 0 := by
      unfold ta_wv
      rw [if_pos (x1.mpr c), x3]
    have e2 : ta_wq X C.length (6 * r + Ws.length) (ta_wx T k0 (ty_tkn T 23 (ty_tkn T k s)) (ty_tkn T k s).2 s.2).2 = ta_oqs X C.length (ta_wx T k0 (ty_tkn T 23 (ty_tkn T k s)) (ty_tkn T k s).2 s.2).2.2.2.2 ++ (if k0 = 2 then [(2, 6 * r + Ws.length, X.2.1, (ta_wx T k0 (ty_tkn T 23 (ty_tkn T k s)) (ty_tkn T k s).2 s.2).2.2.2.1, (ty_tkn T k s).2)] else []) := by
      unfold ta_wq
      rw [x3]
      by_cases c2 : k0 = 2
      · rw [if_pos (x2.mpr c2), if_pos c2]
      · rw [if_neg (fun y => c2 (x2.mp y)), if_neg c2]
    have e3 : ta_we T X (ta_wx T k0 (ty_tkn T 23 (ty_tkn T k s)) (ty_tkn T k s).2 s.2).2 = (if ty_fi T (ty_Lt T (ty_tkn T k s).2) X.2.2.2 0 = none then [(4, (ty_tkn T k s).2)] else []) ++ (ta_wx T k0 (ty_tkn T 23 (ty_tkn T k s)) (ty_tkn T k s).2 s.2).2.2.2.2.flatMap (ta_oe T X) := by
      unfold ta_we
      rw [x3]
      by_cases c2 : ty_fi T (ty_Lt T (ty_tkn T k s).2) X.2.2.2 0 = none
      · rw [if_pos ⟨x1.mpr c, c2⟩, if_pos c2]
      · rw [if_neg (fun y => c2 y.2), if_neg c2]
    rw [e1, e2, e3, ty_mn_app, ← List.append_assoc]
    exact k2
  rw [tw_ifE (show (nI k0 = (0 : Int32)) = (k0 = 0) from tw_eq (b := 0) (by omega) (by omega)), tw_ifE (show (nI k0 = (2 : Int32)) = (k0 = 2) from tw_eq (b := 2) (by omega) (by omega))]
  by_cases c0 : k0 = 0
  · rw [if_pos c0]; exact own (Or.inl c0)
  rw [if_neg c0]
  by_cases c2 : k0 = 2
  · rw [if_pos c2]; exact own (Or.inr c2)
  rw [if_neg c2, if_neg (show ¬ (k0 = 0 ∨ k0 = 2) by omega)]
  refine tw_mono (ta_w135 (v := 0) (tok := s.2) (t0 := s.2) hP hr hW (by omega) (fun y => absurd y c2) (fun _ => rfl) (p1.sel (d' := d) (by omega)) w1 fA) (fun σ' gg => ⟨gg.1, ?_⟩)
  have k2 := gg.2
  obtain ⟨x1, x2, x3⟩ := ta_wx_1 T k0 (ty_tkn T k s) s.2 s.2 hk
  have e1 : ta_wv T X (ta_wx T k0 (ty_tkn T k s) s.2 s.2).2 = 0 := by
    unfold ta_wv
    rw [if_neg (fun y => by have := x1.mp y; omega)]
  have e2 : ta_wq X C.length (6 * r + Ws.length) (ta_wx T k0 (ty_tkn T k s) s.2 s.2).2 = ta_oqs X C.length (ta_wx T k0 (ty_tkn T k s) s.2 s.2).2.2.2.2 := by
    unfold ta_wq
    rw [if_neg (fun y => c2 (x2.mp y)), List.append_nil]
  have e3 : ta_we T X (ta_wx T k0 (ty_tkn T k s) s.2 s.2).2 = (ta_wx T k0 (ty_tkn T k s) s.2 s.2).2.2.2.2.flatMap (ta_oe T X) := by
    unfold ta_we
    rw [if_neg (fun y => by have := x1.mp y.1; omega)]
    rfl
  rw [e1, e2, e3]
  rw [if_neg c2, List.append_nil] at k2
  exact k2
theorem ta_W {s : ty_Ps} {d r : Nat} {C : List tz_Cd} {Q : List ta_Qu} {acc : Option (Nat × Nat)} {L : List ta_Lr} {Ws : List ta_Wr} {σ : rx_St} (hP : ∀ i, ty_Pl T n i ≤ 2000) (hr : r < 80) (hW : Ws.length ≤ 6) (hn : ty_isw (ty_nx T s)) (h : ta_pw X T n r s d C Q acc L Ws σ) : tw_ok (f_m_tellWish (nI r) σ) (ta_wd X T n r d C Q acc L Ws σ (ty_W1 T (ty_room Ws.length 6 s))) := by
  have gz := ty_nx_0 (T := T) (s := s) (by unfold ty_isw at hn; omega)
  have hs := gz.1
  have ht := h.1.1.1.1
  have hr' := h.1.1.2.1
  have w0 := h.2 hs
  -- all sorts end so
  have go : ∀ (k0 k : Nat), (k0 = 0 ∨ k0 = 1 ∨ k0 = 2 ∨ k0 = 4) → ty_nx T s = k → k < 37 → (Ws.length ≤ 5 → ty_W1 T s = if k0 = 0 ∨ k0 = 2 then ta_wx T k0 (ty_tkn T 23 (ty_tkn T k s)) (ty_tkn T k s).2 s.2 else ta_wx T k0 (ty_tkn T k s) s.2 s.2) → tw_ok (f_m_tellWish_53 (nI r) (nI k0) σ) (ta_wd X T n r d C Q acc L Ws σ (ty_W1 T (ty_room Ws.length 6 s))) := by
    intro k0 k hk e hk37 hx
    have no : ¬ nI k0 = (-1 : Int32) := fun z => by
      have z' : nI k0 = -nI 1 := z
      rw [tw_m1 (by omega)] at z'
      exact z'.elim
    unfold f_m_tellWish_53
    rw [if_neg no]
    refine tw_g (vp_in_nI (by omega) (by decide)) ?_
    rw [nI_clamp (by omega), w0.1, tw_ifE (show (nI Ws.length = (6 : Int32)) = (Ws.length = 6) from tw_eq (b := 6) (by omega) (by omega))]
    by_cases c6 : Ws.length = 6
    · rw [if_pos c6]
      have er : ty_room Ws.length 6 s = (2, s.2) := by unfold ty_room; rw [if_pos ⟨hs, by omega⟩]
      rw [er]
      refine tw_b (tm_fail (m := (2 : Int32)) 2 rfl (by omega) (by omega) ht hr') (fun σ1 g => ?_)
      obtain ⟨g1, g2⟩ := g
      rw [if_pos hs] at g2
      unfold f_m_tellWish_83
      rw [tw_ifE g2.l, if_neg (show ¬ (2 = 0) by decide), tw_some]
      have e1 : (ty_W1 T ((2, s.2) : ty_Ps)).1 = (2, s.2) := ty_W1_f (show ¬ (2 = 0) by decide)
      unfold ta_wd
      rw [e1]
      have pp : ta_pp X T n (2, s.2) (2 * L.length + d) C Q acc σ1 := h.1.1.of1 g1 g2 (fun y => absurd (show 2 = 0 from y) (by decide))
      have pl : ta_pl X T n (2, s.2) d C Q acc L σ1 := ⟨pp, fun y => absurd (show 2 = 0 from y) (by decide)⟩
      exact ⟨g1.mn (ta_S1W r X.1), ta_pl.bad pl (show ¬ (2 = 0) by decide), fun y => absurd (show 2 = 0 from y) (by decide)⟩
    · rw [if_neg c6]
      have er : ty_room Ws.length 6 s = s := by unfold ty_room; rw [if_neg (fun y => by omega)]
      rw [er, hx (by omega)]
      exact ta_w83 hP hr (by omega) hk hs (by rw [← gz.2]; exact e) (by omega) h
  obtain ⟨x7, x8, x9, x13⟩ := ty_W1_x T s
  unfold f_m_tellWish
  rw [tm_is (m := (27 : Int32)) 7 rfl (by omega) ht hr', Option.bind_some, tm_ifz]
  by_cases e7 : ty_nx T s = 7
  · rw [if_pos e7]
    exact go 0 7 (Or.inl rfl) e7 (by omega) (fun _ => x7 e7)
  rw [if_neg e7, tm_is (m := (28 : Int32)) 8 rfl (by omega) ht hr', Option.bind_some, tm_ifz]
  by_cases e8 : ty_nx T s = 8
  · rw [if_pos e8]
    exact go 1 8 (Or.inr (Or.inl rfl)) e8 (by omega) (fun _ => x8 e8)
  rw [if_neg e8, tm_is (m := (29 : Int32)) 9 rfl (by omega) ht hr', Option.bind_some, tm_ifz]
  by_cases e9 : ty_nx T s = 9
  · rw [if_pos e9]
    exact go 2 9 (Or.inr (Or.inr (Or.inl rfl))) e9 (by omega) (fun _ => x9 e9)
  rw [if_neg e9, tm_is (m := (33 : Int32)) 13 rfl (by omega) ht hr', Option.bind_some, tm_ifz]
  have e13 : ty_nx T s = 13 := by unfold ty_isw at hn; omega
  rw [if_pos e13]
  exact go 4 13 (Or.inr (Or.inr (Or.inr rfl))) e13 (by omega) (fun _ => x13 e13)
end TBG
