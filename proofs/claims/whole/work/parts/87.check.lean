/-! THE CLASS'S CHECKER -/
theorem tw_en_i {o : Option Nat} {i : Nat} (ho : ∀ j, o = some j → j < 1000) (hi : i < 1000) : (tw_en (-nI 1) o = nI i) = (o = some i) := by
  cases o with
  | none =>
    refine propext ⟨fun e => ?_, fun e => by cases e⟩
    have e' : nI i = -nI 1 := e.symm
    rw [tw_m1 (by omega)] at e'
    exact e'.elim
  | some j =>
    have := ho j rfl
    show (nI j = nI i) = _
    rw [tw_eq (by omega) (by omega)]
    exact propext ⟨fun e => by rw [e], fun e => by cases e; rfl⟩
theorem tw_en_g {o : Option Nat} (ho : ∀ j, o = some j → j < 1000) : ((0 : Int32) ≤ tw_en (-nI 1) o) = ¬ (o = none) := by
  cases o with
  | none => exact propext ⟨fun e => absurd e (by decide), fun e => absurd rfl e⟩
  | some j =>
    have := ho j rfl
    refine propext ⟨fun _ => (fun z => by cases z), fun _ => ?_⟩
    show (0 : Int32) ≤ nI j
    rw [show (0 : Int32) = nI 0 from rfl, tw_le (by omega) (by omega)]
    omega
theorem ty_tok_nI {t : Nat} (h : t < 2147483648) : ty_tok (nI t) = t := nI_clamp h
section TZD
variable {v : Nat} {T : List tw_Tk} {n : Nat} {U : ty_Wo}
def tz_cd2 (v : Nat) (D : List tz_Cd) (σ : rx_St) : Prop := σ.1 (7 + 14 * v) 12 = nI D.length ∧ D.length ≤ 500 ∧ ∀ (p : Nat) (x : tz_Cd), D[p]? = some x → σ.1 (18 + 14 * v) p = nI x.1 ∧ σ.1 (19 + 14 * v) p = x.2.1 ∧ σ.1 (20 + 14 * v) p = x.2.2
def tz_cx (v : Nat) (T : List tw_Tk) (n : Nat) (U : ty_Wo) (acc : Option (Nat × Nat)) (D : List tz_Cd) (σ : rx_St) : Prop := tz_tk T n σ ∧ tz_wr v T U σ ∧ tz_cd2 v D σ ∧ tz_fd acc σ
theorem tz_wr.fr {σ σ' : rx_St} (h : tz_wr v T U σ) (f : ∀ q j, q = 7 + 14 * v ∧ (j = 0 ∨ j = 3) ∨ 8 + 14 * v ≤ q ∧ q ≤ 17 + 14 * v → σ'.1 q j = σ.1 q j) : tz_wr v T U σ' :=
  ⟨h.1.fr (fun q j a => f q j (by omega)), by rw [f _ _ (by omega)]; exact h.2.1, h.2.2.1, tz_Krs.fr U.2 0 0 (fun q j a b c => f q j (by omega)) h.2.2.2⟩
theorem tz_cd2.fr {D : List tz_Cd} {σ σ' : rx_St} (h : tz_cd2 v D σ) (f : ∀ q j, q = 7 + 14 * v ∧ j = 12 ∨ 18 + 14 * v ≤ q ∧ q ≤ 20 + 14 * v → σ'.1 q j = σ.1 q j) : tz_cd2 v D σ' := by
  obtain ⟨h1, h2, h4⟩ := h
  refine ⟨by rw [f _ _ (by omega)]; exact h1, h2, fun p x hx => ?_⟩
  obtain ⟨a, b, c⟩ := h4 p x hx
  exact ⟨by rw [f _ _ (by omega)]; exact a, by rw [f _ _ (by omega)]; exact b, by rw [f _ _ (by omega)]; exact c⟩
def tz_S37 (q j : Nat) : Prop := q = 37 ∧ (j = 2 ∨ j = 3)
/-- what check writes -/
def tz_SC (v q j : Nat) : Prop := tz_S37 q j ∨ 18 + 14 * v ≤ q ∧ q ≤ 20 + 14 * v
theorem tz_cx.find {acc : Option (Nat × Nat)} {D : List tz_Cd} {σ : rx_St} {k t : Nat} (hv : v ≤ 1) (hP : ∀ i, ty_Pl T n i ≤ 2000) (h : tz_cx v T n U acc D σ) (h5 : t ≤ 500) (hl : t < T.length) (hk : 1 ≤ k) (hk8 : k < 8) : tw_ok (f_chk_find (nI k) (nI t) σ) (fun σ' => tw_fr tz_S37 σ σ' ∧ tz_cx v T n U (ty_st T n acc (k, t)) D σ') := by
  obtain ⟨h1, h2, h3, h4⟩ := h
  refine tw_mono (tz_find h1 hP h5 hl hk hk8 h4) (fun σ' g => ?_)
  obtain ⟨g1, g2⟩ := g
  exact ⟨g1, h1.fr (fun q j a b => ⟨g1.i (by omega), g1.l (by omega)⟩), h2.fr (fun q j a => g1.i (by omega)), h3.fr (fun q j a => g1.i (by omega)), g2⟩
theorem tz_checkSettings {acc : Option (Nat × Nat)} {D : List tz_Cd} {σ0 : rx_St} (hv : v ≤ 1) (hP : ∀ i, ty_Pl T n i ≤ 2000) (hU : ty_vP T U) (h : tz_cx v T n U acc D σ0) : tw_ok (f_chk_checkSettings v σ0) (fun σ' => tw_fr tz_S37 σ0 σ' ∧ tz_cx v T n U (ty_mn T n acc (ty_dup T (ty_sn U) (ty_sn U) 0)) D σ') := by
  have ll : (ty_sn U).length = U.1.length := List.length_map _
  have u6 := hU.2.1
  have main : ∀ m i acc' σ, i ≤ U.1.length → U.1.length - i < m → tw_fr tz_S37 σ0 σ → tz_cx v T n U acc' D σ → tw_ok (f_chk_checkSettings_2 v m (nI i) σ) (fun σ' => tw_fr tz_S37 σ0 σ' ∧ tz_cx v T n U (ty_mn T n acc' (ty_dup T (ty_sn U) ((ty_sn U).drop i) i)) D σ') := by
    intro m
    induction m with
    | zero => intro i acc' σ _ h; exact absurd h (Nat.not_lt_zero _)
    | succ m ih =>
      intro i acc' σ hi hm f hc
      obtain ⟨c1, c2, -, -⟩ := id hc
      obtain ⟨r1, -, r3⟩ := c2.1
      unfold f_chk_checkSettings_2
      rw [r1]
      by_cases c : i = U.1.length
      · subst c
        rw [if_pos (tp_yl (by omega) (by omega) (Nat.le_refl _)), List.drop_eq_nil_of_le (by omega), tw_some]
        exact ⟨f, hc⟩
      · have hx : U.1[i]? = some U.1[i] := List.getElem?_eq_getElem (by omega)
        have vx := (hU.1 _ (List.getElem_mem (show i < U.1.length by omega))).1
        obtain ⟨e1, -⟩ := r3 i _ hx
        obtain ⟨n1, n2, n3, n4⟩ := tz_name c1 vx
        have hl : (ty_sn U)[i]? = some U.1[i].1 := by unfold ty_sn; rw [List.getElem?_map, hx]; rfl
        have fb : ∀ j, ty_fi T (ty_Lt T U.1[i].1) (ty_sn U) 0 = some j → j < 1000 := fun j hj => by have := (ty_fi_lt _ _ _ hj).2; omega
        rw [if_neg (tp_nl (by omega) (by omega) (by omega)), tw_gN (by omega) (by decide), nI_clamp (by omega), e1, n1, Option.bind_some, tz_setN c1 hU c2 n2 n3, Option.bind_some, tw_ifE (tw_en_i fb (by omega)), ty_drop hl, ty_dup]
        unfold f_chk_checkSettings_51
        rw [show nI i + (1 : Int32) = nI (i + 1) from nI_add i 1]
        by_cases d : ty_fi T (ty_Lt T U.1[i].1) (ty_sn U) 0 = some i
        · rw [if_pos d, if_pos d]
          exact ih (i + 1) acc' σ (by omega) (by omega) f hc
        · rw [if_neg d, if_neg d, tw_gN (by omega) (by decide)]
          refine tw_b (hc.find hv hP (k := 3) (t := U.1[i].1) (by have := vx.2; omega) n4 (by omega) (by omega)) (fun σ1 g => ?_)
          exact ih (i + 1) _ σ1 (by omega) (by omega) (f.tr g.1) g.2
  have := main rx_fu 0 acc σ0 (Nat.zero_le _) (by show _ < 100000; omega) tw_fr.rf h
  rw [List.drop_zero] at this
  exact this
theorem tz_checkKinds {acc : Option (Nat × Nat)} {D : List tz_Cd} {σ0 : rx_St} (hv : v ≤ 1) (hP : ∀ i, ty_Pl T n i ≤ 2000) (hU : ty_vP T U) (h : tz_cx v T n U acc D σ0) : tw_ok (f_chk_checkKinds v σ0) (fun σ' => tw_fr tz_S37 σ0 σ' ∧ tz_cx v T n U (ty_mn T n acc (ty_dupK T (ty_sn U) (ty_kn U) (ty_kn U) 0)) D σ') := by
  have ll : (ty_kn U).length = U.2.length := List.length_map _
  have ls : (ty_sn U).length = U.1.length := List.length_map _
  have u6 := hU.2.1
  have u5 := hU.2.2.2
  have main : ∀ m i acc' σ, i ≤ U.2.length → U.2.length - i < m → tw_fr tz_S37 σ0 σ → tz_cx v T n U acc' D σ → tw_ok (f_chk_checkKinds_2 v m (nI i) σ) (fun σ' => tw_fr tz_S37 σ0 σ' ∧ tz_cx v T n U (ty_mn T n acc' (ty_dupK T (ty_sn U) (ty_kn U) ((ty_kn U).drop i) i)) D σ') := by
    intro m
    induction m with
    | zero => intro i acc' σ _ h; exact absurd h (Nat.not_lt_zero _)
    | succ m ih =>
      intro i acc' σ hi hm f hc
      obtain ⟨c1, c2, -, -⟩ := id hc
      obtain ⟨-, r1, -, r3⟩ := id c2
      unfold f_chk_checkKinds_2
      rw [r1]
      by_cases c : i = U.2.length
      · subst c
        rw [if_pos (tp_yl (by omega) (by omega) (Nat.le_refl _)), List.drop_eq_nil_of_le (by omega), tw_some]
        exact ⟨f, hc⟩
      · have hx : U.2[i]? = some U.2[i] := List.getElem?_eq_getElem (by omega)
        have vx := (hU.2.2.1 _ (List.getElem_mem (show i < U.2.length by omega))).1
        obtain ⟨e1, -⟩ := tz_Krs_get U.2 0 0 i _ r3 hx
        rw [Nat.zero_add] at e1
        obtain ⟨n1, n2, n3, n4⟩ := tz_name c1 vx
        have hl : (ty_kn U)[i]? = some U.2[i].1 := by unfold ty_kn; rw [List.getElem?_map, hx]; rfl
        have fb : ∀ j, ty_fi T (ty_Lt T U.2[i].1) (ty_kn U) 0 = some j → j < 1000 := fun j hj => by have := (ty_fi_lt _ _ _ hj).2; omega
        have fs : ∀ j, ty_fi T (ty_Lt T U.2[i].1) (ty_sn U) 0 = some j → j < 1000 := fun j hj => by have := (ty_fi_lt _ _ _ hj).2; omega
        rw [if_neg (tp_nl (by omega) (by omega) (by omega)), tw_gN (by omega) (by decide), nI_clamp (by omega), e1, n1, Option.bind_some, tz_setN c1 hU c2 n2 n3, Option.bind_some, tw_ifE (tw_en_g fs), ty_drop hl, ty_dupK]
        have bad : ¬ (ty_fi T (ty_Lt T U.2[i].1) (ty_sn U) 0 = none ∧ ty_fi T (ty_Lt T U.2[i].1) (ty_kn U) 0 = some i) → tw_ok (f_chk_checkKinds_47 v (f_chk_checkKinds_2 v m) (nI i) σ) (fun σ' => tw_fr tz_S37 σ0 σ' ∧ tz_cx v T n U (ty_mn T n acc' ((if ty_fi T (ty_Lt T U.2[i].1) (ty_sn U) 0 = none ∧ ty_fi T (ty_Lt T U.2[i].1) (ty_kn U) 0 = some i then [] else [(3, U.2[i].1)]) ++ ty_dupK T (ty_sn U) (ty_kn U) ((ty_kn U).drop (i + 1)) (i + 1))) D σ') := by
          intro z
          rw [if_neg z]
          unfold f_chk_checkKinds_47 f_chk_checkKinds_61
          rw [tw_gN (by omega) (by decide), nI_clamp (by omega), e1, show nI i + (1 : Int32) = nI (i + 1) from nI_add i 1]
          refine tw_b (hc.find hv hP (k := 3) (t := U.2[i].1) (by have := vx.2; omega) n4 (by omega) (by omega)) (fun σ1 g => ?_)
          exact ih (i + 1) _ σ1 (by omega) (by omega) (f.tr g.1) g.2
        by_cases d1 : ty_fi T (ty_Lt T U.2[i].1) (ty_sn U) 0 = none
        · rw [if_neg (fun z => z d1), tz_kindN c1 hU c2 n2 n3, Option.bind_some, tw_ifE (tw_en_i fb (by omega))]
          by_cases d : ty_fi T (ty_Lt T U.2[i].1) (ty_kn U) 0 = some i
          · rw [if_pos d, if_pos ⟨d1, d⟩]
            unfold f_chk_checkKinds_61
            rw [show nI i + (1 : Int32) = nI (i + 1) from nI_add i 1]
            exact ih (i + 1) acc' σ (by omega) (by omega) f hc
          · rw [if_neg d]
            exact bad (fun z => d z.2)
        · rw [if_pos d1]
          exact bad (fun z => d1 z.1)
  have := main rx_fu 0 acc σ0 (Nat.zero_le _) (by show _ < 100000; omega) tw_fr.rf h
  rw [List.drop_zero] at this
  exact this
theorem tz_checkVars {acc : Option (Nat × Nat)} {D : List tz_Cd} {σ0 : rx_St} {k : Nat} (hv : v ≤ 1) (hP : ∀ i, ty_Pl T n i ≤ 2000) (hU : ty_vP T U) (hk : k < U.2.length) (h : tz_cx v T n U acc D σ0) : tw_ok (f_chk_checkVars v (nI k) σ0) (fun σ' => tw_fr tz_S37 σ0 σ' ∧ tz_cx v T n U (ty_mn T n acc (ty_dup T (ty_vn U k) (ty_vn U k) 0)) D σ') := by
  have u5 := hU.2.2.2
  have hK : U.2[k]? = some U.2[k] := List.getElem?_eq_getElem hk
  have vK := hU.2.2.1 _ (List.getElem_mem hk)
  have ev : ty_vn U k = U.2[k].2.1.map (fun x => x.1) := by unfold ty_vn; rw [hK]
  have ll : (ty_vn U k).length = U.2[k].2.1.length := by rw [ev]; exact List.length_map _
  have v6 := vK.2.2.2.1
  have main : ∀ m i acc' σ, i ≤ U.2[k].2.1.length → U.2[k].2.1.length - i < m → tw_fr tz_S37 σ0 σ → tz_cx v T n U acc' D σ → tw_ok (f_chk_checkVars_2 v m (nI k) (nI i) σ) (fun σ' => tw_fr tz_S37 σ0 σ' ∧ tz_cx v T n U (ty_mn T n acc' (ty_dup T (ty_vn U k) ((ty_vn U k).drop i) i)) D σ') := by
    intro m
    induction m with
    | zero => intro i acc' σ _ h; exact absurd h (Nat.not_lt_zero _)
    | succ m ih =>
      intro i acc' σ hi hm f hc
      obtain ⟨c1, c2, -, -⟩ := id hc
      obtain ⟨-, -, -, r3⟩ := id c2
      obtain ⟨-, ⟨q1, q2, q3⟩, -⟩ := tz_Krs_get U.2 0 0 k _ r3 hK
      rw [Nat.zero_add] at q1 q3
      unfold f_chk_checkVars_2
      rw [tw_gN (by omega) (by decide), nI_clamp (by omega), q1]
      by_cases c : i = U.2[k].2.1.length
      · subst c
        rw [if_pos (tp_yl (by omega) (by omega) (Nat.le_refl _)), List.drop_eq_nil_of_le (by omega), tw_some]
        exact ⟨f, hc⟩
      · have hx : U.2[k].2.1[i]? = some U.2[k].2.1[i] := List.getElem?_eq_getElem (by omega)
        have vx := (vK.2.1 _ (List.getElem_mem (show i < U.2[k].2.1.length by omega))).1
        obtain ⟨e1, -⟩ := q3 i _ hx
        obtain ⟨n1, n2, n3, n4⟩ := tz_name c1 vx
        have hl : (ty_vn U k)[i]? = some U.2[k].2.1[i].1 := by rw [ev, List.getElem?_map, hx]; rfl
        have fb : ∀ j, ty_fi T (ty_Lt T U.2[k].2.1[i].1) (ty_vn U k) 0 = some j → j < 1000 := fun j hj => by have := (ty_fi_lt _ _ _ hj).2; omega
        rw [if_neg (tp_nl (by omega) (by omega) (by omega)), show nI k * (6 : Int32) + nI i = nI (k * 6 + i) by rw [show (6 : Int32) = nI 6 from rfl, pk_mul, nI_add], tw_gN (by omega) (by decide), nI_clamp (by omega), e1, ty_drop hl, ty_dup]
        show tw_ok ((f_tap_valueOf (nI U.2[k].2.1[i].1) σ).bind fun y2 => (f_chk_varNamed v (nI k) y2 σ).bind fun y3 => if y3 = nI i then f_chk_checkVars_53 v (f_chk_checkVars_2 v m) (nI k) (nI i) σ else ((f_chk_find (3 : Int32) (nI U.2[k].2.1[i].1) σ).bind fun y4 => f_chk_checkVars_53 v (f_chk_checkVars_2 v m) (nI k) (nI i) y4)) _
        rw [n1, Option.bind_some, tz_varN c1 hU c2 hk n2 n3, Option.bind_some, tw_ifE (tw_en_i fb (by omega))]
        unfold f_chk_checkVars_53
        rw [show nI i + (1 : Int32) = nI (i + 1) from nI_add i 1]
        by_cases d : ty_fi T (ty_Lt T U.2[k].2.1[i].1) (ty_vn U k) 0 = some i
        · rw [if_pos d, if_pos d]
          exact ih (i + 1) acc' σ (by omega) (by omega) f hc
        · rw [if_neg d, if_neg d]
          refine tw_b (hc.find hv hP (k := 3) (t := U.2[k].2.1[i].1) (by have := vx.2; omega) n4 (by omega) (by omega)) (fun σ1 g => ?_)
          exact ih (i + 1) _ σ1 (by omega) (by omega) (f.tr g.1) g.2
  have := main rx_fu 0 acc σ0 (Nat.zero_le _) (by show _ < 100000; omega) tw_fr.rf h
  rw [List.drop_zero] at this
  exact this
/-! resolve -/
theorem tz_needKind {acc : Option (Nat × Nat)} {D : List tz_Cd} {σ : rx_St} {t : Nat} (hv : v ≤ 1) (hP : ∀ i, ty_Pl T n i ≤ 2000) (hU : ty_vP T U) (h : tz_cx v T n U acc D σ) (ht : ty_nm T t) : tw_ok (f_chk_needKind v (nI t) σ) (fun y => y.1 = tw_en (-nI 1) (ty_fi T (ty_Lt T t) (ty_kn U) 0) ∧ tw_fr tz_S37 σ y.2 ∧ tz_cx v T n U (ty_mn T n acc (if ty_fi T (ty_Lt T t) (ty_kn U) 0 = none then [(4, t)] else [])) D y.2) := by
  have u5 := hU.2.2.2
  have ll : (ty_kn U).length = U.2.length := List.length_map _
  obtain ⟨n1, n2, n3, n4⟩ := tz_name h.1 ht
  have fb : ∀ j, ty_fi T (ty_Lt T t) (ty_kn U) 0 = some j → j < 1000 := fun j hj => by have := (ty_fi_lt _ _ _ hj).2; omega
  unfold f_chk_needKind
  rw [n1, Option.bind_some, tz_kindN h.1 hU h.2.1 n2 n3, Option.bind_some, tw_ifE (tw_en_g fb)]
  by_cases c : ty_fi T (ty_Lt T t) (ty_kn U) 0 = none
  · rw [if_neg (fun z => z c), if_pos c]
    refine tw_b (h.find hv hP (k := 4) (t := t) (by have := ht.2; omega) n4 (by omega) (by omega)) (fun σ1 g => ?_)
    rw [tw_some]
    exact ⟨rfl, g.1, g.2⟩
  · rw [if_pos c, if_neg c, tw_some]
    exact ⟨rfl, tw_fr.rf, h⟩
theorem tz_needVar {acc : Option (Nat × Nat)} {D : List tz_Cd} {σ : rx_St} {k t : Nat} (hv : v ≤ 1) (hP : ∀ i, ty_Pl T n i ≤ 2000) (hU : ty_vP T U) (hk : k < U.2.length) (h : tz_cx v T n U acc D σ) (ht : ty_nm T t) : tw_ok (f_chk_needVar v (nI k) (nI t) σ) (fun y => y.1 = tw_en (-nI 1) (ty_fi T (ty_Lt T t) (ty_vn U k) 0) ∧ tw_fr tz_S37 σ y.2 ∧ tz_cx v T n U (ty_mn T n acc (if ty_fi T (ty_Lt T t) (ty_vn U k) 0 = none then [(4, t)] else [])) D y.2) := by
  have u5 := hU.2.2.2
  have hK : U.2[k]? = some U.2[k] := List.getElem?_eq_getElem hk
  have vK := hU.2.2.1 _ (List.getElem_mem hk)
  have ev : ty_vn U k = U.2[k].2.1.map (fun x => x.1) := by unfold ty_vn; rw [hK]
  have ll : (ty_vn U k).length = U.2[k].2.1.length := by rw [ev]; exact List.length_map _
  have v6 := vK.2.2.2.1
  obtain ⟨n1, n2, n3, n4⟩ := tz_name h.1 ht
  have fb : ∀ j, ty_fi T (ty_Lt T t) (ty_vn U k) 0 = some j → j < 1000 := fun j hj => by have := (ty_fi_lt _ _ _ hj).2; omega
  unfold f_chk_needVar
  rw [n1, Option.bind_some, tz_varN h.1 hU h.2.1 hk n2 n3, Option.bind_some, tw_ifE (tw_en_g fb)]
  by_cases c : ty_fi T (ty_Lt T t) (ty_vn U k) 0 = none
  · rw [if_neg (fun z => z c), if_pos c]
    refine tw_b (h.find hv hP (k := 4) (t := t) (by have := ht.2; omega) n4 (by omega) (by omega)) (fun σ1 g => ?_)
    rw [tw_some]
    exact ⟨rfl, g.1, g.2⟩
  · rw [if_pos c, if_neg c, tw_some]
    exact ⟨rfl, tw_fr.rf, h⟩
end TZD
