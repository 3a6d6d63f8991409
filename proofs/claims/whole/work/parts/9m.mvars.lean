/-! THE MODEL READS: tellVar -/
def ta_SV (kk q j : Nat) : Prop := ta_S1 q j ∨ ta_S5 q j ∨ q = 100 ∧ j = kk ∨ (101 ≤ q ∧ q ≤ 103) ∧ (6 * kk ≤ j ∧ j < 6 * kk + 6)
def ta_vi (lv kk : Nat) (SN : List Nat) (T : List tw_Tk) (n : Nat) (s : ty_Ps) (d : Nat) (C : List tz_Cd) (Q : List ta_Qu) (acc : Option (Nat × Nat)) (L : List ta_Lr) (vs : List ty_Va) (σ : rx_St) : Prop := ∃ VN, ta_pl (lv, kk, SN, VN) T n s d C Q (ty_mn T n acc (ta_ve T [] vs)) L σ ∧ (s.1 = 0 → VN = vs.map (fun x => x.1) ∧ vs.length ≤ 6 ∧ ta_vr kk T vs σ)
section TBM
variable {T : List tw_Tk} {n : Nat} {d : Nat} {C : List tz_Cd} {Q : List ta_Qu} {acc : Option (Nat × Nat)} {L : List ta_Lr} {lv kk : Nat} {SN : List Nat}
theorem ta_S1V : ∀ q j, ta_S1 q j → ta_SV kk q j := fun q j h => Or.inl h
theorem ta_v93 {Hc : ty_Ps} {vs : List ty_Va} {x : ty_Va} {v1 v2 v3 v4 : Int32} {σ0 σ : rx_St} (hP : ∀ i, ty_Pl T n i ≤ 2000) (h : ta_pl (lv, kk, SN, vs.map (fun x => x.1)) T n Hc d C Q (ty_mn T n acc (ta_ve T [] vs)) L σ) (hx : (ty_tkn T 25 (ty_tkn T 24 Hc)).1 = 0 → v2 = nI x.1 ∧ ty_nm T x.1 ∧ v3 * v4 = tz_val T x ∧ vs.length < 6 ∧ ta_vr kk T vs σ) (h1 : v1 = tw_B x.2.2.2) (f : tw_fr (ta_SV kk) σ0 σ) :
    tw_ok (f_m_tellVar_93 v1 v2 v3 v4 σ) (fun σ' => tw_fr (ta_SV kk) σ0 σ' ∧ ta_vi lv kk SN T n (ty_tkn T 25 (ty_tkn T 24 Hc)) d C Q acc L (vs ++ [x]) σ') := by
  unfold f_m_tellVar_93
  refine tw_b (ta_pl.mu (m := (2 : Int32)) 24 rfl (by omega) h) (fun σ1 g => ?_)
  obtain ⟨f1, p1⟩ := g
  refine tw_b (ta_pl.mu (m := (4 : Int32)) 25 rfl (by omega) p1) (fun σ2 g => ?_)
  obtain ⟨f2, p2⟩ := g
  have fA : tw_fr (ta_SV kk) σ0 σ2 := (f.tr (f1.mn ta_S1V)).tr (f2.mn ta_S1V)
  rw [tw_ifE p2.1.2.1.l]
  by_cases z : (ty_tkn T 25 (ty_tkn T 24 Hc)).1 = 0
  · rw [if_pos z]
    obtain ⟨e2, nm, ev, l6, vr⟩ := hx z
    have nm5 := nm.2
    rw [e2]
    refine tw_g (vp_in_nI (by omega) (by decide)) ?_
    obtain ⟨n1, n2, n3, n4⟩ := tm_name (σ := σ2) p2.1.1.1 nm
    obtain ⟨x56, k10⟩ := p2.1.1.2.2.1
    have x56 : σ2.1 87 56 = nI kk := x56
    have k10 : kk < 10 := k10
    have vr2 : ta_vr kk T vs σ2 := vr.fr (fun q j y => (f2.i (by unfold ta_S1; omega)).trans (f1.i (by unfold ta_S1; omega)))
    rw [nI_clamp (by omega), n1, x56, ta_varOf k10 p2.1.1.2.2.2.2 p2.1.1.1.2 n2 n3, Option.bind_some]
    have bd : ∀ i, ty_fi T (ty_Lt T x.1) (vs.map (fun x => x.1)) 0 = some i → i < 1000 := fun i hi => by
      have := (ty_fi_lt _ _ _ hi).2
      rw [List.length_map] at this
      omega
    rw [tw_ifE (show (tw_en (-nI 1) (ty_fi T (ty_Lt T x.1) (vs.map (fun x => x.1)) 0) = (-1 : Int32)) = (ty_fi T (ty_Lt T x.1) (vs.map (fun x => x.1)) 0 = none) from tw_en_m (Or.inl rfl) bd)]
    have eE : ta_ve T [] (vs ++ [x]) = ta_ve T [] vs ++ ta_ve1 T (vs.map (fun x => x.1)) x.1 := by
      rw [ta_ve_app, ta_ve, ta_ve, List.append_nil, List.nil_append]
    have fin : ∀ (acc' : Option (Nat × Nat)) (σ3 : rx_St), acc' = ty_mn T n acc (ta_ve T [] (vs ++ [x])) → tw_fr (ta_SV kk) σ0 σ3 → ta_vr kk T vs σ3 → ta_pl (lv, kk, SN, vs.map (fun x => x.1)) T n (ty_tkn T 25 (ty_tkn T 24 Hc)) d C Q acc' L σ3 → tw_ok (f_m_tellVar_137 v1 (nI x.1) v3 v4 σ3) (fun σ' => tw_fr (ta_SV kk) σ0 σ' ∧ ta_vi lv kk SN T n (ty_tkn T 25 (ty_tkn T 24 Hc)) d C Q acc L (vs ++ [x]) σ') := by
      intro acc' σ3 ea f3 vr3 p3
      subst ea
      refine tw_mono (ta_v137 p3 l6 vr3 nm h1 ev) (fun σ' k => ?_)
      obtain ⟨k1, k2, k3⟩ := k
      exact ⟨f3.tr (k1.mn (fun q j a => by unfold ta_SV; omega)), _, k2, fun _ => ⟨rfl, by rw [List.length_append]; show vs.length + 1 ≤ 6; omega, k3⟩⟩
    by_cases c : ty_fi T (ty_Lt T x.1) (vs.map (fun x => x.1)) 0 = none
    · rw [if_pos c]
      refine fin _ σ2 ?_ fA vr2 (p2.sel (by omega))
      rw [eE, ta_ve1, if_pos c, List.append_nil]
    · rw [if_neg c]
      refine tw_b (ta_pl.wr (m := (3 : Int32)) (k := 3) rfl hP z (by omega) (by omega) (by omega) (by omega) p2) (fun σ3 g => ?_)
      obtain ⟨f3, p3⟩ := g
      refine fin _ σ3 ?_ (fA.tr (f3.mn (fun q j a => Or.inr (Or.inl a)))) (vr2.fr (fun q j y => f3.i (by unfold ta_S5; omega))) (p3.sel (by omega))
      rw [eE, ta_ve1, if_neg c, ty_mn_app]
      rfl
  · rw [if_neg z, tw_some]
    exact ⟨fA, _, p2.bad z, fun y => absurd y z⟩
theorem ta_V {s : ty_Ps} {vs : List ty_Va} {σ : rx_St} (hP : ∀ i, ty_Pl T n i ≤ 2000) (hs : s.1 = 0) (hK : ty_nx T s = 3 ∨ ty_nx T s = 4) (h : ta_vi lv kk SN T n s d C Q acc L vs σ) : tw_ok (f_m_tellVar σ) (fun σ' => tw_fr (ta_SV kk) σ σ' ∧ ta_vi lv kk SN T n (ty_H1 T vs.length s).1 d C Q acc L (vs ++ [(ty_H1 T vs.length s).2]) σ') := by
  obtain ⟨VN, h1, h2⟩ := h
  obtain ⟨e, v6, vr⟩ := h2 hs
  subst e
  obtain ⟨x56, k10⟩ := h1.1.1.2.2.1
  have x56 : σ.1 87 56 = nI kk := x56
  have k10 : kk < 10 := k10
  have x100 : σ.1 100 kk = nI vs.length := by
    have := h1.1.1.2.2.2.2.1
    rw [List.length_map] at this
    exact this
  unfold f_m_tellVar
  rw [x56]
  refine tw_g (vp_in_nI (by omega) (by decide)) ?_
  rw [nI_clamp (by omega), x100]
  refine tm_room (F := f_m_tellVar_19) vs.length 6 (fun _ => ?_) h1.1.1.1 h1.1.2.1 (fun σ1 f1 r1 => ?_)
  · rw [show (nI vs.length = (6 : Int32)) = (vs.length = 6) from tw_eq (b := 6) (by omega) (by omega)]
    omega
  have p1 : ta_pl (lv, kk, SN, vs.map (fun x => x.1)) T n (ty_room vs.length 6 s) d C Q (ty_mn T n acc (ta_ve T [] vs)) L σ1 := ⟨h1.1.of1 f1 r1 (fun z => by
    obtain ⟨-, -, e⟩ := ty_room_0 z
    rw [e]
    exact ⟨hs, Nat.le_refl _⟩), fun _ => (h1.2 hs).fr (fun q j y => f1.i (by unfold ta_S1; omega))⟩
  unfold f_m_tellVar_19
  rw [tm_is (m := (24 : Int32)) 4 rfl (by omega) p1.1.1.1 p1.1.2.1, Option.bind_some]
  have hk : (ty_room vs.length 6 s).1 = 0 → ty_K T (ty_room vs.length 6 s).2 = (if ty_nx T (ty_room vs.length 6 s) = 4 then 4 else 3) := fun z => by
    obtain ⟨-, -, e⟩ := ty_room_0 z
    rw [e]
    obtain ⟨-, y⟩ := ty_nx_0 (T := T) (s := s) (by omega)
    rw [← y]
    by_cases c : ty_nx T s = 4
    · rw [if_pos c]; exact c
    · rw [if_neg c]; omega
  refine tw_b (ta_pl.nx (if ty_nx T (ty_room vs.length 6 s) = 4 then 4 else 3) (by split <;> omega) hk p1) (fun σ2 g => ?_)
  obtain ⟨f2, p2⟩ := g
  have p2 : ta_pl (lv, kk, SN, vs.map (fun x => x.1)) T n (ty_Ha T vs.length s) (d + 1) C Q (ty_mn T n acc (ta_ve T [] vs)) L σ2 := p2
  have pA := p2.1.2.1.p
  refine tw_b (ta_pl.mu (m := (1 : Int32)) 23 rfl (by omega) p2) (fun σ3 g => ?_)
  obtain ⟨f3, p3⟩ := g
  refine tw_b (ta_pl.mu (m := (5 : Int32)) 26 rfl (by omega) p3) (fun σ4 g => ?_)
  obtain ⟨f4, p4⟩ := g
  have p4 : ta_pl (lv, kk, SN, vs.map (fun x => x.1)) T n (ty_Hb T vs.length s) (d + 1 + 1 + 1) C Q (ty_mn T n acc (ta_ve T [] vs)) L σ4 := p4
  have f4A : tw_fr ta_S1 σ σ4 := ((f1.tr f2).tr f3).tr f4
  have is9 := tm_is (m := (9 : Int32)) 28 rfl (by omega) p4.1.1.1 p4.1.2.1
  rw [is9, Option.bind_some, tm_ifz]
  have last : ∀ (g : Bool) (v3 : Int32) (σ5 : rx_St), v3 = (if g = true then -nI 1 else nI 1) → g = decide (ty_nx T (ty_Hb T vs.length s) = 28) → ((ty_Hc T vs.length s).1 = 0 → (ty_Hb T vs.length s).1 = 0) → ta_pl (lv, kk, SN, vs.map (fun x => x.1)) T n (ty_Hc T vs.length s) d C Q (ty_mn T n acc (ta_ve T [] vs)) L σ5 → tw_fr ta_S1 σ σ5 → tw_ok (f_m_tellVar_73 (if ty_nx T (ty_room vs.length 6 s) = 4 then (1 : Int32) else (0 : Int32)) (σ2.1 87 11) v3 σ5) (fun σ' => tw_fr (ta_SV kk) σ σ' ∧ ta_vi lv kk SN T n (ty_H1 T vs.length s).1 d C Q acc L (vs ++ [(ty_H1 T vs.length s).2]) σ') := by
    intro g v3 σ5 e3 eg hz p5 f5
    have go : ∀ v4 : Int32, ((ty_tkn T 24 (ty_Hc T vs.length s)).1 = 0 → v4 = nI (ty_V T (ty_Hc T vs.length s).2)) → tw_ok (f_m_tellVar_93 (if ty_nx T (ty_room vs.length 6 s) = 4 then (1 : Int32) else (0 : Int32)) (σ2.1 87 11) v3 v4 σ5) (fun σ' => tw_fr (ta_SV kk) σ σ' ∧ ta_vi lv kk SN T n (ty_H1 T vs.length s).1 d C Q acc L (vs ++ [(ty_H1 T vs.length s).2]) σ') := by
      intro v4 h4
      refine ta_v93 (x := (ty_H1 T vs.length s).2) hP p5 (fun z => ?_) ?_ (f5.mn ta_S1V)
      · have z24 := (ty_tkn_0 z).1
        have zb := hz (ty_tkn_0 z24).1
        have z23 := (ty_tkn_0 (show (ty_tkn T 26 (ty_tkn T 23 (ty_Ha T vs.length s))).1 = 0 from zb)).1
        have za := (ty_tkn_0 z23).1
        have zr := (ty_tkn_0 (show (ty_tkn T (if ty_nx T (ty_room vs.length 6 s) = 4 then 4 else 3) (ty_room vs.length 6 s)).1 = 0 from za)).1
        obtain ⟨-, l6, -⟩ := ty_room_0 zr
        refine ⟨(pA za).1, ty_nm_of z23, ?_, l6, vr.fr (fun q j y => f5.i (by unfold ta_S1; omega))⟩
        rw [h4 z24, e3, eg]
        unfold tz_val
        show _ = if decide (ty_nx T (ty_Hb T vs.length s) = 28) = true then -nI (ty_V T (ty_Hc T vs.length s).2) else nI (ty_V T (ty_Hc T vs.length s).2)
        by_cases c : decide (ty_nx T (ty_Hb T vs.length s) = 28) = true
        · rw [if_pos c, if_pos c, Int32.neg_mul]
          show -(nI 1 * nI _) = _
          rw [pk_mul, Nat.one_mul]
        · rw [if_neg c, if_neg c, pk_mul, Nat.one_mul]
      · show _ = tw_B (decide (ty_nx T (ty_room vs.length 6 s) = 4))
        by_cases c : ty_nx T (ty_room vs.length 6 s) = 4
        · rw [if_pos c, decide_eq_true c]; rfl
        · rw [if_neg c, decide_eq_false c]; rfl
    unfold f_m_tellVar_73
    rw [tw_ifE p5.1.2.1.l]
    by_cases z : (ty_Hc T vs.length s).1 = 0
    · rw [if_pos z]
      obtain ⟨y1, y2, y3⟩ := p5.1.2.1.p z
      rw [y1]
      refine tw_g (vp_in_nI (by omega) (by decide)) ?_
      rw [nI_clamp (by omega)]
      refine go _ (fun z24 => ?_)
      exact (tm_val (σ := σ5) p5.1.1.1 (ty_tkn_0 z24).2.1 y2).1
    · rw [if_neg z]
      exact go _ (fun z24 => absurd (ty_tkn_0 z24).1 z)
  by_cases c : ty_nx T (ty_Hb T vs.length s) = 28
  · rw [if_pos c]
    unfold f_m_tellVar_59
    rw [is9, Option.bind_some, tm_ifz, if_pos c]
    have gz := ty_nx_0 (T := T) (s := ty_Hb T vs.length s) (by omega)
    refine tw_b (ta_pl.nx 28 (by omega) (fun _ => by rw [← gz.2]; exact c) p4) (fun σ5 g => ?_)
    obtain ⟨f5, p5⟩ := g
    have ec : ty_Hc T vs.length s = ty_tkn T 28 (ty_Hb T vs.length s) := if_pos c
    refine last true (-1 : Int32) σ5 rfl (decide_eq_true c).symm (fun _ => gz.1) ?_ (f4A.tr f5)
    rw [ec]
    exact p5.sel (by omega)
  · rw [if_neg c]
    unfold f_m_tellVar_59
    rw [is9, Option.bind_some, tm_ifz, if_neg c]
    have ec : ty_Hc T vs.length s = ty_Hb T vs.length s := if_neg c
    refine last false (1 : Int32) σ4 rfl (decide_eq_false c).symm (fun z => by rw [ec] at z; exact z) ?_ f4A
    rw [ec]
    exact p4.sel (by omega)
/-- all VARS of a KIND -/
theorem ta_vls {P : rx_St → Prop} {σ0 : rx_St} (hP : ∀ i, ty_Pl T n i ≤ 2000) : ∀ (j m : Nat) (vs : List ty_Va) (s : ty_Ps) (σ : rx_St), j + vs.length = 7 → j < m → ta_vi lv kk SN T n s d C Q acc L vs σ → tw_fr (ta_SV kk) σ0 σ →
    (∀ σ', tw_fr (ta_SV kk) σ0 σ' → ta_vi lv kk SN T n (ty_hs T j s vs).1 d C Q acc L (ty_hs T j s vs).2 σ' → tw_ok (f_m_tellKind_152 rx_fu σ') P) → tw_ok (f_m_tellKind_127 m σ) P := by
  intro j
  induction j with
  | zero =>
    intro m vs s σ hj hm h f k
    obtain ⟨m, rfl⟩ : ∃ m', m = m' + 1 := ⟨m - 1, by omega⟩
    obtain ⟨VN, h1, h2⟩ := id h
    have z : ¬ s.1 = 0 := fun z => by have := (h2 z).2.1; omega
    unfold f_m_tellKind_127
    rw [tm_is (m := (23 : Int32)) 3 rfl (by omega) h1.1.1.1 h1.1.2.1, Option.bind_some, tm_ifz, if_neg (by rw [ty_nx_f z]; omega), tm_is (m := (24 : Int32)) 4 rfl (by omega) h1.1.1.1 h1.1.2.1, Option.bind_some, tm_ifz, if_neg (by rw [ty_nx_f z]; omega)]
    exact k σ f h
  | succ j ih =>
    intro m vs s σ hj hm h f k
    obtain ⟨m, rfl⟩ : ∃ m', m = m' + 1 := ⟨m - 1, by omega⟩
    obtain ⟨VN, h1, h2⟩ := id h
    have go : ty_nx T s = 3 ∨ ty_nx T s = 4 → tw_ok (f_m_tellKind_145 (f_m_tellKind_127 m) σ) P := fun c => by
      obtain ⟨hs, -⟩ := ty_nx_0 (T := T) (s := s) (by omega)
      unfold f_m_tellKind_145
      refine tw_b (ta_V hP hs c h) (fun σ1 g => ?_)
      unfold ty_hs at k
      rw [if_pos c] at k
      exact ih m _ _ σ1 (by rw [List.length_append]; show j + (vs.length + 1) = 7; omega) (by omega) g.2 (f.tr g.1) k
    unfold f_m_tellKind_127
    rw [tm_is (m := (23 : Int32)) 3 rfl (by omega) h1.1.1.1 h1.1.2.1, Option.bind_some, tm_ifz]
    by_cases c : ty_nx T s = 3
    · rw [if_pos c]; exact go (Or.inl c)
    · rw [if_neg c, tm_is (m := (24 : Int32)) 4 rfl (by omega) h1.1.1.1 h1.1.2.1, Option.bind_some, tm_ifz]
      by_cases c4 : ty_nx T s = 4
      · rw [if_pos c4]; exact go (Or.inr c4)
      · rw [if_neg c4]
        unfold ty_hs at k
        rw [if_neg (by omega)] at k
        exact k σ f h
end TBM
