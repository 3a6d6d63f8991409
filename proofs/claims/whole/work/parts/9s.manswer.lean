/-! THE MODEL READS: it answers a question -/
def ta_qo (T : List tw_Tk) (U : ty_Wo) (x : ta_Qu) : Option Nat := ty_fi T (ty_Lt T x.2.2.2.1) (ty_kn U) 0
def ta_qs (T : List tw_Tk) (U : ty_Wo) (o : Nat) (x : ta_Qu) : Option Nat := if x.1 = 1 then some 0 else ty_fi T (ty_Lt T x.2.2.2.2) (ty_vn U o) 0
/-- what is amiss with it -/
def ta_qe (T : List tw_Tk) (U : ty_Wo) (lv : Nat) (x : ta_Qu) : List (Nat × Nat) :=
  (ta_qo T U x).elim [(4, x.2.2.2.1)] (fun o => (ta_qs T U o x).elim [(4, if x.1 = 2 then x.2.2.2.1 else x.2.2.2.2)] (fun w => if x.1 = 0 ∧ x.2.2.1 ≠ 5 * lv + o ∧ ty_scr U o w = true then [(6, x.2.2.2.2)] else []))
def ta_qw (lv : Nat) (T : List tw_Tk) (n : Nat) (s : ty_Ps) (U : ty_Wo) (Q : List ta_Qu) (σ : rx_St) : Prop := tm_tk T n σ ∧ tm_rs T n s σ ∧ (σ.1 87 19 = nI lv ∧ lv ≤ 1) ∧ ta_kn lv T (ty_kn U) σ ∧ (∀ (k : Nat) (K : ty_Ki), U.2[k]? = some K → ta_vn (5 * lv + k) T (K.2.1.map (fun x => x.1)) σ ∧ ta_vr (5 * lv + k) T K.2.1 σ) ∧ σ.1 87 50 = nI Q.length ∧ ∀ (p : Nat) (x : ta_Qu), Q[p]? = some x → σ.1 123 p = nI x.1 ∧ σ.1 124 p = nI x.2.1 ∧ σ.1 125 p = nI x.2.2.1 ∧ σ.1 126 p = nI x.2.2.2.1 ∧ (x.1 ≠ 1 → σ.1 127 p = nI x.2.2.2.2)
theorem ta_qw.fr {lv : Nat} {T : List tw_Tk} {n : Nat} {s : ty_Ps} {U : ty_Wo} {Q : List ta_Qu} {σ σ' : rx_St} (h : ta_qw lv T n s U Q σ) (f : tw_fr (fun q j => ta_S5 q j ∨ q = 110 ∨ q = 111 ∨ q = 121 ∨ q = 122) σ σ') : ta_qw lv T n s U Q σ' := by
  obtain ⟨h1, h2, ⟨h3, h3'⟩, h4, h5, h6, h7⟩ := h
  refine ⟨h1.fr (fun q j a b => f q j (by unfold ta_S5; omega)), h2.fr (fun j a => f.i (by unfold ta_S5; omega)), ⟨(f.i (by unfold ta_S5; omega)).trans h3, h3'⟩, h4.fr (fun q j a => f q j (by unfold ta_S5; omega)), fun k K hK => ⟨(h5 k K hK).1.fr (fun q j a => f q j (by unfold ta_S5; omega)), (h5 k K hK).2.fr (fun q j a => f.i (by unfold ta_S5; omega))⟩, (f.i (by unfold ta_S5; omega)).trans h6, fun p x hx => ?_⟩
  obtain ⟨a, b, c, d, e⟩ := h7 p x hx
  exact ⟨(f.i (by unfold ta_S5; omega)).trans a, (f.i (by unfold ta_S5; omega)).trans b, (f.i (by unfold ta_S5; omega)).trans c, (f.i (by unfold ta_S5; omega)).trans d, fun z => (f.i (by unfold ta_S5; omega)).trans (e z)⟩
/-- behind the loop over the KINDS -/
def ta_q110 (v1 v2 : Int32) (σ : rx_St) : Option rx_St :=
  if v2 = (-1 : Int32) then (rx_g v1 500 ((f_m_wrong (4 : Int32) (σ.1 126 v1.toNatClampNeg) σ).bind fun y1 => some y1))
  else (rx_g v1 500 (if (σ.1 123 v1.toNatClampNeg) = (1 : Int32) then f_m_answers_110 v1 v2 (0 : Int32) σ else (rx_g v1 500 (rx_g (σ.1 127 v1.toNatClampNeg) 503 ((f_m_varOf v2 (σ.2 93 (σ.1 127 v1.toNatClampNeg).toNatClampNeg) σ).bind fun y2 => f_m_answers_110 v1 v2 y2 σ)))))
section TBS
variable {T : List tw_Tk} {n lv : Nat} {s : ty_Ps} {U : ty_Wo} {Q : List ta_Qu} {acc : Option (Nat × Nat)}
theorem ta_q9 {σ : rx_St} {q : Nat} {x : ta_Qu} (h : ta_qw lv T n s U Q σ) (hq : q < 500) (hx : Q[q]? = some x) (nm : ty_nm T x.2.2.2.1) : f_m_answers (nI q) σ = ta_q110 (nI q) ((ta_qo T U x).elim (-nI 1) (fun o => nI (5 * lv + o))) σ := by
  obtain ⟨h1, h2, ⟨h3, h3'⟩, ⟨k1, k2, k3⟩, h5, h6, h7⟩ := h
  obtain ⟨-, -, -, r126, -⟩ := h7 q x hx
  obtain ⟨n1, n2, n3, n4⟩ := tm_name (σ := σ) h1 nm
  have nm5 := nm.2
  unfold ta_qo
  generalize ty_kn U = KN at k1 k2 k3 ⊢
  have m1 : ∀ o, o < 10 → ¬ nI o = (-1 : Int32) := by decide +kernel
  have e5 : ∀ i, (5 : Int32) * nI lv + nI i = nI (5 * lv + i) := fun i => by rw [show (5 : Int32) = nI 5 from rfl, pk_mul, nI_add]
  have fnd : ∀ m o i, o < 10 → i ≤ KN.length → KN.length - i < m → f_m_answers_9 m (nI q) (nI o) (nI (5 * lv + i)) σ = ta_q110 (nI q) (nI o) σ := by
    intro m
    induction m with
    | zero => intro o i _ _ h; exact absurd h (Nat.not_lt_zero _)
    | succ m ih =>
      intro o i ho hi hm
      unfold f_m_answers_9
      rw [h3, tw_gN (by omega) (by decide), nI_clamp (by omega), k1, e5]
      by_cases c : i = KN.length
      · subst c
        rw [if_pos (tp_yl (by omega) (by omega) (Nat.le_refl _))]
        rfl
      · rw [if_neg (tp_nl (by omega) (by omega) (by omega)), if_neg (m1 o ho)]
        unfold f_m_answers_57
        rw [show nI (5 * lv + i) + (1 : Int32) = nI (5 * lv + (i + 1)) from nI_add _ 1]
        exact ih o (i + 1) ho (by omega) (by omega)
  have main : ∀ m i, i ≤ KN.length → KN.length - i < m → f_m_answers_9 m (nI q) (-1 : Int32) (nI (5 * lv + i)) σ = ta_q110 (nI q) ((ty_fi T (ty_Lt T x.2.2.2.1) (KN.drop i) i).elim (-nI 1) (fun o => nI (5 * lv + o))) σ := by
    intro m
    induction m with
    | zero => intro i _ h; exact absurd h (Nat.not_lt_zero _)
    | succ m ih =>
      intro i hi hm
      unfold f_m_answers_9
      rw [h3, tw_gN (by omega) (by decide), nI_clamp (by omega), k1, e5]
      by_cases c : i = KN.length
      · subst c
        rw [if_pos (tp_yl (by omega) (by omega) (Nat.le_refl _)), List.drop_eq_nil_of_le (by omega)]
        rfl
      · have hl : KN[i]? = some KN[i] := List.getElem?_eq_getElem (by omega)
        obtain ⟨e1, e2⟩ := k3 i _ hl
        have nl := ty_nm_L h1.2 e2.1
        rw [if_neg (tp_nl (by omega) (by omega) (by omega)), if_pos rfl, tw_gN (by omega) (by decide), tw_gN (by omega) (by decide), nI_clamp (by omega), nI_clamp (by omega), r126, tw_gN (by omega) (by decide), nI_clamp (by omega), n1, e1, tw_ifE (tm_cmp nl.1 nl.2 n2 n3), ty_drop hl, ty_fi]
        unfold f_m_answers_57
        rw [show nI (5 * lv + i) + (1 : Int32) = nI (5 * lv + (i + 1)) from nI_add _ 1]
        by_cases d : ty_Lt T KN[i] = ty_Lt T x.2.2.2.1
        · rw [if_pos d, if_pos d]
          exact fnd m (5 * lv + i) (i + 1) (by omega) (by omega) (by omega)
        · rw [if_neg d, if_neg d]
          exact ih (i + 1) (by omega) (by omega)
  unfold f_m_answers
  show f_m_answers_9 rx_fu (nI q) (-1 : Int32) ((5 : Int32) * (σ.1 87 19)) σ = _
  rw [h3, show (5 : Int32) * nI lv = nI (5 * lv + 0) by rw [show (5 : Int32) = nI 5 from rfl, pk_mul]; rfl]
  have := main rx_fu 0 (Nat.zero_le _) (by show _ < 100000; omega)
  rw [List.drop_zero] at this
  exact this
theorem ta_q137 {σ : rx_St} {q o w : Nat} {v3 : Int32} (hq : q < 500) (hl : lv ≤ 1) (h19 : σ.1 87 19 = nI lv) (h124 : σ.1 124 q = nI w) (hw : w < 480) : tw_ok (f_m_answers_137 (nI q) (nI (5 * lv + o)) v3 σ) (fun σ' => tw_fr (fun a j => (a = 110 ∨ a = 111) ∧ j = w) σ σ' ∧ σ'.1 110 w = nI o ∧ σ'.1 111 w = v3) := by
  have e1 : nI (5 * lv + o) - (5 : Int32) * nI lv = nI o := by
    rw [show (5 : Int32) = nI 5 from rfl, pk_mul, tw_sub (by omega), show 5 * lv + o - 5 * lv = o by omega]
  unfold f_m_answers_137
  refine tw_g (vp_in_nI (by omega) (by decide)) ?_
  rw [nI_clamp (by omega), h124]
  refine tw_g (vp_in_nI (by omega) (by decide)) ?_
  rw [nI_clamp (by omega), h19, e1]
  generalize hσ1 : rx_si σ 110 w (nI o) = σ1
  have z : σ1.1 124 q = nI w := by rw [← hσ1, tw_r1n _ _ (by omega)]; exact h124
  show tw_ok (rx_g (nI q) 500 (rx_g (σ1.1 124 q) 480 (some (rx_si σ1 111 (σ1.1 124 q).toNatClampNeg v3)))) _
  rw [z]
  refine tw_g (vp_in_nI (by omega) (by decide)) (tw_g (vp_in_nI (by omega) (by decide)) ?_)
  rw [nI_clamp (by omega), tw_some, ← hσ1]
  refine ⟨(tw_fr.rf.si ⟨Or.inl rfl, rfl⟩).si ⟨Or.inr rfl, rfl⟩, ?_, tw_r1s _ _ _ _⟩
  rw [tw_r1n _ _ (by omega), tw_r1s]
theorem ta_q233 {σ : rx_St} {q o w : Nat} {v3 : Int32} (hq : q < 500) (hl : lv ≤ 1) (h19 : σ.1 87 19 = nI lv) (h124 : σ.1 124 q = nI w) (hw : w < 1400) : tw_ok (f_m_answers_233 (nI q) (nI (5 * lv + o)) v3 σ) (fun σ' => tw_fr (fun a j => (a = 121 ∨ a = 122) ∧ j = w) σ σ' ∧ σ'.1 121 w = nI o ∧ σ'.1 122 w = v3) := by
  have e1 : nI (5 * lv + o) - (5 : Int32) * nI lv = nI o := by
    rw [show (5 : Int32) = nI 5 from rfl, pk_mul, tw_sub (by omega), show 5 * lv + o - 5 * lv = o by omega]
  unfold f_m_answers_233
  refine tw_g (vp_in_nI (by omega) (by decide)) ?_
  rw [nI_clamp (by omega), h124]
  refine tw_g (vp_in_nI (by omega) (by decide)) ?_
  rw [nI_clamp (by omega), h19, e1]
  generalize hσ1 : rx_si σ 121 w (nI o) = σ1
  have z : σ1.1 124 q = nI w := by rw [← hσ1, tw_r1n _ _ (by omega)]; exact h124
  show tw_ok (rx_g (nI q) 500 (rx_g (σ1.1 124 q) 1400 (some (rx_si σ1 122 (σ1.1 124 q).toNatClampNeg v3)))) _
  rw [z]
  refine tw_g (vp_in_nI (by omega) (by decide)) (tw_g (vp_in_nI (by omega) (by decide)) ?_)
  rw [nI_clamp (by omega), tw_some, ← hσ1]
  refine ⟨(tw_fr.rf.si ⟨Or.inl rfl, rfl⟩).si ⟨Or.inr rfl, rfl⟩, ?_, tw_r1s _ _ _ _⟩
  rw [tw_r1n _ _ (by omega), tw_r1s]
def ta_SA (x : ta_Qu) (a j : Nat) : Prop := ta_S5 a j ∨ x.1 = 2 ∧ (a = 110 ∨ a = 111) ∧ j = x.2.1 ∨ x.1 ≠ 2 ∧ (a = 121 ∨ a = 122) ∧ j = x.2.1
def ta_qr (T : List tw_Tk) (U : ty_Wo) (x : ta_Qu) (σ : rx_St) : Prop := ∀ o w, ta_qo T U x = some o → ta_qs T U o x = some w → (x.1 = 2 → σ.1 110 x.2.1 = nI o ∧ σ.1 111 x.2.1 = nI w) ∧ (x.1 ≠ 2 → σ.1 121 x.2.1 = nI o ∧ σ.1 122 x.2.1 = nI w)
/-- an answer -/
theorem ta_ans {σ : rx_St} {q : Nat} {x : ta_Qu} (hP : ∀ i, ty_Pl T n i ≤ 2000) (hU : ty_vP T U) (hs : s.1 = 0) (h : ta_qw lv T n s U Q σ) (hq : q < 500) (hx : Q[q]? = some x) (hn : x.1 ≤ 2 ∧ ty_nm T x.2.2.2.1 ∧ (x.1 ≠ 1 → ty_nm T x.2.2.2.2)) (hk : x.2.2.1 < 10) (hw : (x.1 ≠ 2 → x.2.1 < 1400) ∧ (x.1 = 2 → x.2.1 < 480)) (ha : tm_fd acc σ) :
    tw_ok (f_m_answers (nI q) σ) (fun σ' => tw_fr (ta_SA x) σ σ' ∧ tm_fd (ty_mn T n acc (ta_qe T U lv x)) σ' ∧ ta_qr T U x σ') := by
  obtain ⟨n2, nmt, nmu⟩ := hn
  rw [ta_q9 h hq hx nmt]
  obtain ⟨h1, h2, ⟨h3, h3'⟩, ⟨k1, k2, k3⟩, h5, h6, h7⟩ := id h
  obtain ⟨r123, r124, r125, r126, r127⟩ := h7 q x hx
  obtain ⟨-, -, -, tl⟩ := tm_name (σ := σ) h1 nmt
  have t5 := nmt.2
  have ukn : (ty_kn U).length = U.2.length := List.length_map _
  unfold ta_q110
  cases ho : ta_qo T U x with
  | none =>
    show tw_ok (if -nI 1 = (-1 : Int32) then _ else _) _
    rw [if_pos (show -nI 1 = (-1 : Int32) from rfl)]
    refine tw_g (vp_in_nI (by omega) (by decide)) ?_
    rw [nI_clamp (by omega), r126]
    refine tw_b (tm_wrong (m := (4 : Int32)) (k := 4) rfl hP h1 h2 hs (by omega) (by omega) (by omega) (by omega) ha) (fun σ1 g => ?_)
    rw [tw_some]
    refine ⟨g.1.mn (fun a j y => Or.inl y), ?_, fun o w e => by rw [ho] at e; cases e⟩
    unfold ta_qe
    rw [ho]
    exact g.2
  | some o =>
    have olt : o < U.2.length := by
      have := (ty_fi_lt _ _ _ ho).2
      omega
    have u5 : U.2.length ≤ 5 := hU.2.2.2
    have hK : U.2[o]? = some U.2[o] := List.getElem?_eq_getElem olt
    obtain ⟨vn, vr⟩ := h5 o _ hK
    have ev : ty_vn U o = U.2[o].2.1.map (fun x => x.1) := by unfold ty_vn; rw [hK]
    have m1 : ¬ nI (5 * lv + o) = (-1 : Int32) := (by decide +kernel : ∀ o, o < 10 → ¬ nI o = (-1 : Int32)) _ (by omega)
    rw [show (some o).elim (-nI 1) (fun o => nI (5 * lv + o)) = nI (5 * lv + o) from rfl, if_neg m1]
    refine tw_g (vp_in_nI (by omega) (by decide)) ?_
    rw [nI_clamp (by omega), r123]
    -- the VAR
    have bs : ∀ w, ta_qs T U o x = some w → w < 6 := fun w e => by
      unfold ta_qs at e
      by_cases c : x.1 = 1
      · rw [if_pos c] at e; cases e; omega
      · rw [if_neg c] at e
        have := (ty_fi_lt _ _ _ e).2
        have l6 := vn.2.1
        rw [ev] at this
        omega
    have ev1 : ∀ (w : Nat), ta_qs T U o x = some w → x.1 ≠ 1 → σ.1 103 (6 * (5 * lv + o) + w) = tw_B (ty_scr U o w) := fun w e c => by
      unfold ta_qs at e
      rw [if_neg c] at e
      have lt := (ty_fi_lt _ _ _ e).2
      rw [ev, List.length_map] at lt
      have hv : U.2[o].2.1[w]? = some U.2[o].2.1[w] := List.getElem?_eq_getElem (by omega)
      have := (vr w _ hv).2
      unfold ty_scr
      rw [hK]
      show _ = tw_B (match U.2[o].2.1[w]? with | some x => x.2.2.2 | none => false)
      rw [hv]
      exact this
    -- behind it
    have fin : tw_ok (f_m_answers_110 (nI q) (nI (5 * lv + o)) (tw_en (-nI 1) (ta_qs T U o x)) σ) (fun σ' => tw_fr (ta_SA x) σ σ' ∧ tm_fd (ty_mn T n acc (ta_qe T U lv x)) σ' ∧ ta_qr T U x σ') := by
      have em := tw_en_m (m := -nI 1) (o := ta_qs T U o x) (Or.inl rfl) (fun w e => by have := bs w e; omega)
      have put2 : ∀ (σ1 : rx_St), x.1 = 2 → tw_fr ta_S5 σ σ1 → tm_fd (ty_mn T n acc (ta_qe T U lv x)) σ1 → tw_ok (f_m_answers_137 (nI q) (nI (5 * lv + o)) (tw_en (-nI 1) (ta_qs T U o x)) σ1) (fun σ' => tw_fr (ta_SA x) σ σ' ∧ tm_fd (ty_mn T n acc (ta_qe T U lv x)) σ' ∧ ta_qr T U x σ') := by
        intro σ1 c f1 a1
        refine tw_mono (ta_q137 (o := o) hq h3' ((f1.i (by unfold ta_S5; omega)).trans h3) ((f1.i (by unfold ta_S5; omega)).trans r124) (hw.2 c)) (fun σ' g => ?_)
        obtain ⟨g1, g2, g3⟩ := g
        refine ⟨(f1.mn (fun a j y => Or.inl y)).tr (g1.mn (fun a j y => Or.inr (Or.inl ⟨c, y⟩))), a1.fr (fun j y => g1.i (by omega)), fun o' w e e' => ⟨fun _ => ?_, fun z => absurd c z⟩⟩
        rw [ho] at e
        cases e
        rw [e'] at g3
        exact ⟨g2, g3⟩
      have put1 : ∀ (σ1 : rx_St), x.1 ≠ 2 → tw_fr ta_S5 σ σ1 → tm_fd (ty_mn T n acc (ta_qe T U lv x)) σ1 → tw_ok (f_m_answers_233 (nI q) (nI (5 * lv + o)) (tw_en (-nI 1) (ta_qs T U o x)) σ1) (fun σ' => tw_fr (ta_SA x) σ σ' ∧ tm_fd (ty_mn T n acc (ta_qe T U lv x)) σ' ∧ ta_qr T U x σ') := by
        intro σ1 c f1 a1
        refine tw_mono (ta_q233 (o := o) hq h3' ((f1.i (by unfold ta_S5; omega)).trans h3) ((f1.i (by unfold ta_S5; omega)).trans r124) (hw.1 c)) (fun σ' g => ?_)
        obtain ⟨g1, g2, g3⟩ := g
        refine ⟨(f1.mn (fun a j y => Or.inl y)).tr (g1.mn (fun a j y => Or.inr (Or.inr ⟨c, y⟩))), a1.fr (fun j y => g1.i (by omega)), fun o' w e e' => ⟨fun z => absurd z c, fun _ => ?_⟩⟩
        rw [ho] at e
        cases e
        rw [e'] at g3
        exact ⟨g2, g3⟩
      unfold f_m_answers_110
      refine tw_g (vp_in_nI (by omega) (by decide)) ?_
      rw [nI_clamp (by omega), r123, tw_ifE (show (nI x.1 = (2 : Int32)) = (x.1 = 2) from tw_eq (b := 2) (by omega) (by omega))]
      by_cases c2 : x.1 = 2
      · rw [if_pos c2, tw_ifE (show (tw_en (-nI 1) (ta_qs T U o x) = (-1 : Int32)) = (ta_qs T U o x = none) from em)]
        by_cases cn : ta_qs T U o x = none
        · rw [if_pos cn]
          refine tw_g (vp_in_nI (by omega) (by decide)) ?_
          rw [r126]
          refine tw_b (tm_wrong (m := (4 : Int32)) (k := 4) rfl hP h1 h2 hs (by omega) (by omega) (by omega) (by omega) ha) (fun σ1 g => ?_)
          refine put2 σ1 c2 g.1 ?_
          unfold ta_qe
          rw [ho]
          show tm_fd (ty_mn T n acc ((ta_qs T U o x).elim _ _)) σ1
          rw [cn, if_pos c2]
          exact g.2
        · rw [if_neg cn]
          refine put2 σ c2 tw_fr.rf ?_
          unfold ta_qe
          rw [ho]
          show tm_fd (ty_mn T n acc ((ta_qs T U o x).elim _ _)) σ
          obtain ⟨w, ew⟩ := Option.ne_none_iff_exists'.mp cn
          rw [ew]
          show tm_fd (ty_mn T n acc (if x.1 = 0 ∧ _ then _ else [])) σ
          rw [if_neg (fun y => by have := y.1; omega)]
          exact ha
      · rw [if_neg c2, tw_ifE (show (tw_en (-nI 1) (ta_qs T U o x) = (-1 : Int32)) = (ta_qs T U o x = none) from em)]
        by_cases cn : ta_qs T U o x = none
        · rw [if_pos cn]
          have c1 : x.1 ≠ 1 := fun c1 => by
            unfold ta_qs at cn
            rw [if_pos c1] at cn
            cases cn
          have ul := (tm_name (σ := σ) h1 (nmu c1)).2.2.2
          have u5' := (nmu c1).2
          refine tw_g (vp_in_nI (by omega) (by decide)) ?_
          rw [r127 c1]
          refine tw_b (tm_wrong (m := (4 : Int32)) (k := 4) rfl hP h1 h2 hs (by omega) (by omega) (by omega) (by omega) ha) (fun σ1 g => ?_)
          refine put1 σ1 c2 g.1 ?_
          unfold ta_qe
          rw [ho]
          show tm_fd (ty_mn T n acc ((ta_qs T U o x).elim _ _)) σ1
          rw [cn, if_neg c2]
          exact g.2
        · rw [if_neg cn]
          obtain ⟨w, ew⟩ := Option.ne_none_iff_exists'.mp cn
          have w6 := bs w ew
          have fe : ¬ (x.1 = 0 ∧ x.2.2.1 ≠ 5 * lv + o ∧ ty_scr U o w = true) → tm_fd (ty_mn T n acc (ta_qe T U lv x)) σ := fun y => by
            unfold ta_qe
            rw [ho]
            show tm_fd (ty_mn T n acc ((ta_qs T U o x).elim _ _)) σ
            rw [ew]
            show tm_fd (ty_mn T n acc (if x.1 = 0 ∧ _ then _ else [])) σ
            rw [if_neg y]
            exact ha
          refine tw_g (vp_in_nI (by omega) (by decide)) ?_
          rw [tw_ifE (show (nI x.1 = (0 : Int32)) = (x.1 = 0) from tw_eq (b := 0) (by omega) (by omega))]
          by_cases c0 : x.1 = 0
          · rw [if_pos c0]
            refine tw_g (vp_in_nI (by omega) (by decide)) ?_
            rw [r125, tw_ifE (show (nI (5 * lv + o) = nI x.2.2.1) = (5 * lv + o = x.2.2.1) from tw_eq (by omega) (by omega))]
            by_cases ck : 5 * lv + o = x.2.2.1
            · rw [if_pos ck]
              exact put1 σ c2 tw_fr.rf (fe (fun y => y.2.1 ck.symm))
            · rw [if_neg ck]
              have e6 : (6 : Int32) * nI (5 * lv + o) + tw_en (-nI 1) (ta_qs T U o x) = nI (6 * (5 * lv + o) + w) := by
                rw [ew, show (6 : Int32) = nI 6 from rfl, pk_mul]
                exact nI_add _ _
              rw [e6]
              refine tw_g (vp_in_nI (by omega) (by decide)) ?_
              rw [nI_clamp (by omega), ev1 w ew (by omega), tw_ifE (show (tw_B (ty_scr U o w) = (0 : Int32)) = (ty_scr U o w = false) from tw_B0 _)]
              by_cases cs : ty_scr U o w = false
              · rw [if_pos cs]
                exact put1 σ c2 tw_fr.rf (fe (fun y => by have := y.2.2; rw [cs] at this; cases this))
              · rw [if_neg cs]
                have ul := (tm_name (σ := σ) h1 (nmu (by omega))).2.2.2
                have u5' := (nmu (by omega)).2
                refine tw_g (vp_in_nI (by omega) (by decide)) ?_
                rw [r127 (by omega)]
                refine tw_b (tm_wrong (m := (6 : Int32)) (k := 6) rfl hP h1 h2 hs (by omega) (by omega) (by omega) (by omega) ha) (fun σ1 g => ?_)
                refine put1 σ1 c2 g.1 ?_
                unfold ta_qe
                rw [ho]
                show tm_fd (ty_mn T n acc ((ta_qs T U o x).elim _ _)) σ1
                rw [ew]
                show tm_fd (ty_mn T n acc (if x.1 = 0 ∧ _ then _ else [])) σ1
                rw [if_pos ⟨c0, fun y => ck y.symm, by cases e : ty_scr U o w with | true => rfl | false => exact absurd e cs⟩]
                exact g.2
          · rw [if_neg c0]
            exact put1 σ c2 tw_fr.rf (fe (fun y => c0 y.1))
    rw [tw_ifE (show (nI x.1 = (1 : Int32)) = (x.1 = 1) from tw_eq (b := 1) (by omega) (by omega))]
    by_cases c1 : x.1 = 1
    · rw [if_pos c1]
      have : ta_qs T U o x = some 0 := by unfold ta_qs; rw [if_pos c1]
      rw [this] at fin
      exact fin
    · rw [if_neg c1]
      have u5' := (nmu c1).2
      obtain ⟨m1', m2, m3, -⟩ := tm_name (σ := σ) h1 (nmu c1)
      refine tw_g (vp_in_nI (by omega) (by decide)) ?_
      rw [r127 c1]
      refine tw_g (vp_in_nI (by omega) (by decide)) ?_
      rw [nI_clamp (by omega), m1', ta_varOf (by omega) vn h1.2 m2 m3, Option.bind_some]
      have : ta_qs T U o x = ty_fi T (ty_Lt T x.2.2.2.2) (U.2[o].2.1.map (fun x => x.1)) 0 := by unfold ta_qs; rw [if_neg c1, ev]
      rw [← this]
      exact fin
end TBS
