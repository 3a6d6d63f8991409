/-! meets, met, untold on both sides -/
theorem tw_tn_lt {z : Nat → Nat} {i : Nat} (h : 1 ≤ z i) : ∀ d p, tw_tn z i d p < z i
  | 0, p => by unfold tw_tn; exact Nat.mod_lt _ (by omega)
  | d + 1, p => by unfold tw_tn; exact tw_tn_lt h d _
section TN
variable {w : Nat} {W : tw_Wo} {lv : Nat} {N : tw_N} {pl : Nat → Nat} {bg : Nat → Int32} {dl : Bool} {st : Nat → Int32} {sp : List tw_Sp} {se : List tw_Se}
def tq_SQ (q j : Nat) : Prop := tq_S q j ∨ q = 86 ∨ q = 76 ∧ (j = 15 ∨ j = 16)
theorem tq_T.fq {σ σ' : rx_St} (h : tq_T w W lv N pl bg dl st σ) (f : tw_fr tq_SQ σ σ') : tq_T w W lv N pl bg dl st σ' := h.fg (fun q j a => f.i (by unfold tq_TP at a; unfold tq_SQ tq_S; omega))
theorem tq_G.fq {σ σ' : rx_St} (h : tq_G W sp se σ) (f : tw_fr tq_SQ σ σ') : tq_G W sp se σ' := ⟨h.1, h.2.1.fr (fun q j a => f.i (by unfold tq_SQ tq_S; omega)), h.2.2.fr (fun q j a => f.i (by unfold tq_SQ tq_S; omega))⟩
theorem tc_V.fr {n : Nat} {σ σ' : rx_St} (h : tc_V w W N dl st pl bg sp se n σ) (f : ∀ q j, q = 76 ∧ j = 15 ∨ q = 86 → σ'.1 q j = σ.1 q j) : tc_V w W N dl st pl bg sp se n σ' :=
  ⟨h.1, by rw [f _ _ (Or.inl ⟨rfl, rfl⟩)]; exact h.2.1, fun p hp => by rw [f _ _ (Or.inr rfl)]; exact h.2.2 p hp⟩
theorem tq_tried {σ : rx_St} {x s : Nat} (h : tq_T w W lv N pl bg dl st σ) (hG : tq_G W sp se σ) (hV : tq_try w W N dl st pl bg sp se x σ) (hs : s ≤ 3) : ∃ σ1 n, f_gri_trySeeds w (nI s) σ = some σ1 ∧ tw_fr tq_SQ σ σ1 ∧ s ≤ n ∧ tc_V w W N dl st pl bg sp se n σ1 ∧ σ1.1 76 16 = nI x ∧ σ1.1 38 8 = nI x ∧ x < 1000 ∧ tq_T w W lv N pl bg dl st σ1 ∧ tq_G W sp se σ1 := by
  obtain ⟨⟨h1, h2, h3⟩, ⟨h4, h5, h6⟩, hw⟩ := id h
  obtain ⟨y, n, v1, v2, v3, v4, v5⟩ := hV
  obtain ⟨σ1, e1, f1, g1, n', g2, g3⟩ := tc_trySeeds (st := st) (s := s) hw h1 h2 h3 hG.1 hG.2.1 hs v1 v2 ⟨v4, by omega⟩ v5
  have fq : tw_fr tq_SQ σ σ1 := f1.mn (fun q j h => by unfold tc_ST tc_SR at h; unfold tq_SQ tq_S; omega)
  exact ⟨σ1, n', e1, fq, g2, g3, g1, (f1.i (by unfold tc_ST tc_SR; omega)).trans v2, v4, h.fq fq, hG.fq fq⟩
/-- the model behind the class -/
theorem tq_behind {σ1 σ2 : rx_St} {x n : Nat} (hT : tq_T w W lv N pl bg dl st σ1) (hV : tc_V w W N dl st pl bg sp se n σ1) (e1 : σ1.1 76 16 = nI x) (e2 : σ1.1 38 8 = nI x) (hx : x < 1000) (f : tw_fr tm_SM (rx_si σ1 87 0 (nI 0)) σ2) : tw_fr tq_SQ σ1 σ2 ∧ tq_try w W N dl st pl bg sp se x σ2 := by
  have fT : tw_fr tq_SQ σ1 σ2 := (tw_fr.rf.si (Or.inl (by unfold tq_S; omega))).tr (f.mn (fun q j h => Or.inl (by unfold tm_SM tm_S8 at h; unfold tq_S; omega)))
  have g : ∀ q j, 76 = q ∨ 86 = q ∨ q = 38 → σ2.1 q j = σ1.1 q j := fun q j a => (f.i (by unfold tm_SM tm_S8; omega)).trans (tw_r1n _ _ (by omega))
  exact ⟨fT, x, n, by rw [g _ _ (by omega)]; exact e1, by rw [g _ _ (by omega)]; exact e2, Nat.le_refl _, hx, fun _ => hV.fr (fun q j a => g q j (by omega))⟩
theorem tq_K {σ1 : rx_St} (hT : tq_T w W lv N pl bg dl st σ1) (hG : tq_G W sp se σ1) : tm_K W lv N pl bg dl st sp se (rx_si σ1 87 0 (nI 0)) := by
  obtain ⟨-, ⟨a, b, c⟩, -⟩ := (tq_thr hT (nI 0)).1
  exact ⟨a, b, c, (hG.thr (nI 0)).2.2⟩
theorem tq_thrQ {σ : rx_St} : tw_fr tq_SQ σ (rx_si σ 87 0 (nI 0)) := tw_fr.rf.si (Or.inl (by unfold tq_S; omega))
theorem tq_meets {σ : rx_St} {x : Nat} (h : tq_T w W lv N pl bg dl st σ) (hG : tq_G W sp se σ) (hV : tq_try w W N dl st pl bg sp se x σ) (a0 : Int32) : ∃ o1 o2, f_c_meets w a0 σ = some o1 ∧ f_m_meets a0 o1.2 = some o2 ∧ o1.1 = o2.1 ∧ tw_fr tq_SQ σ o2.2 ∧ tq_try w W N dl st pl bg sp se x o2.2 := by
  rcases tq_seeds a0 with ⟨c1, c2⟩ | ⟨s, s1, s3, rfl, c1, c2⟩
  · refine ⟨((-1 : Int32), σ), ((-1 : Int32), rx_si σ 87 0 (nI 0)), ?_, ?_, rfl, tq_thrQ, hV.thr _⟩
    · unfold f_c_meets
      rw [c1]
      exact if_pos rfl
    · unfold f_m_meets
      rw [c2]
      rfl
  · obtain ⟨σ1, n, e1, f1, g1, g2, g3, g4, g5, hT1, hG1⟩ := tq_tried h hG hV s3
    obtain ⟨y, e2, f2, y2⟩ := tm_meets (st := st) (s := s) (σ0 := rx_si σ1 87 0 (nI 0)) hG1.1 s3 rx_fu 0 (rx_si σ1 87 0 (nI 0)) (Nat.zero_le _) (by have := hG1.1.1.2.2.1; show _ < 100000; omega) tw_fr.rf (tq_K hT1 hG1)
    obtain ⟨b1, b2⟩ := tq_behind hT1 g2 g3 g4 g5 f2
    refine ⟨(nI (tw_cn (tw_ms W N dl st pl bg sp se s) (tw_pts sp)), σ1), y, ?_, ?_, y2.symm, f1.tr b1, b2⟩
    · unfold f_c_meets
      rw [c1, if_neg (by decide), e1, Option.bind_some, tc_count hG1.1 hG1.2.1 g2 g1]
      rfl
    · unfold f_m_meets
      rw [c2]
      exact (if_neg (show ¬ nI 1 = (0 : Int32) by decide)).trans e2
/-! met -/
def tw_mp (P : Nat → Bool) (n : Nat) : Nat → Nat → Option Nat
  | 0, _ => none
  | d + 1, i => if P (n - (d + 1)) = true then (if i = 0 then some (n - (d + 1)) else tw_mp P n d (i - 1)) else tw_mp P n d i
theorem tw_mp_lt {P : Nat → Bool} {n : Nat} : ∀ d i q, tw_mp P n d i = some q → d ≤ n → q < n
  | 0, i, q, h, _ => by cases h
  | d + 1, i, q, h, hd => by
    unfold tw_mp at h
    by_cases c : P (n - (d + 1)) = true
    · rw [if_pos c] at h
      by_cases e : i = 0
      · rw [if_pos e] at h; cases h; omega
      · rw [if_neg e] at h; exact tw_mp_lt d _ q h (by omega)
    · rw [if_neg c] at h; exact tw_mp_lt d _ q h (by omega)
theorem tc_mp {σ : rx_St} {n s i : Nat} (hok : tw_gok W sp se) (hG : tc_G sp se σ) (hV : tc_V w W N dl st pl bg sp se n σ) (hs : s ≤ n) (hi : i < 2147483648) : f_gri_meetingPoint (nI s) (nI i) σ = some (tw_en (-nI 1) (tw_mp (tw_ms W N dl st pl bg sp se s) (tw_pts sp) (tw_pts sp) i)) := by
  have p2 := hok.1.2.2.1
  have v3 := hV.1
  have main : ∀ m p u, p ≤ tw_pts sp → tw_pts sp - p < m → u ≤ i → u ≤ p → f_gri_meetingPoint_5 m (nI s) (nI i) (nI u) (nI p) σ = some (tw_en (-nI 1) (tw_mp (tw_ms W N dl st pl bg sp se s) (tw_pts sp) (tw_pts sp - p) (i - u))) := by
    intro m
    induction m with
    | zero => intro p u _ h; exact absurd h (Nat.not_lt_zero _)
    | succ m ih =>
      intro p u hp hm hu hup
      unfold f_gri_meetingPoint_5
      rw [hG.1.2.1]
      by_cases c : p = tw_pts sp
      · subst c
        rw [if_pos (tp_yl (by omega) (by omega) (Nat.le_refl _)), Nat.sub_self]
        rfl
      · obtain ⟨d, hd⟩ : ∃ d, tw_pts sp - p = d + 1 := ⟨tw_pts sp - p - 1, by omega⟩
        have dp : tw_pts sp - (d + 1) = p := by omega
        have dp1 : tw_pts sp - (p + 1) = d := by omega
        rw [if_neg (tp_nl (by omega) (by omega) (by omega)), tw_gN (by omega) (by decide), nI_clamp (by omega), tw_ifE (tc_msV hV hs (show p < tw_pts sp by omega)), hd, tw_mp, dp]
        unfold f_gri_meetingPoint_36
        rw [show nI p + (1 : Int32) = nI (p + 1) from nI_add p 1]
        cases b : tw_ms W N dl st pl bg sp se s p with
        | false =>
          rw [if_pos rfl, if_neg (by decide)]
          have := ih (p + 1) u (by omega) (by omega) hu (by omega)
          rw [dp1] at this
          exact this
        | true =>
          rw [if_neg (by decide), if_pos rfl]
          by_cases e : u = i
          · rw [if_pos (by rw [e]), if_pos (by omega)]
            rfl
          · rw [if_neg (by rw [tw_eq (by omega) (by omega)]; exact e), if_neg (by omega), show nI u + (1 : Int32) = nI (u + 1) from nI_add u 1]
            have := ih (p + 1) (u + 1) (by omega) (by omega) (by omega) (by omega)
            rw [dp1] at this
            rw [show i - u - 1 = i - (u + 1) by omega]
            exact this
  have := main rx_fu 0 0 (Nat.zero_le _) (by show _ < 100000; omega) (Nat.zero_le _) (Nat.le_refl _)
  exact this
def tw_mpn (sp : List tw_Sp) (span : Nat) (o : Option Nat) : Int32 := match o with
  | none => (-1000000 : Int32)
  | some q => tw_num sp q span
theorem tm_mp {s span : Nat} (hok : tw_gok W sp se) (hs : s ≤ 3) (hsp : span < sp.length) {σ0 : rx_St} : ∀ m p i σ, p ≤ tw_pts sp → tw_pts sp - p < m → i < 2147483648 → tw_fr tm_SM σ0 σ → tm_K W lv N pl bg dl st sp se σ →
    tw_ok (f_m_met_38 m (nI s) (nI span) (nI i) (nI p) σ) (fun y => tw_fr tm_SM σ0 y.2 ∧ y.1 = tw_mpn sp span (tw_mp (tw_ms W N dl st pl bg sp se s) (tw_pts sp) (tw_pts sp - p) i)) := by
  have p2 := hok.1.2.2.1
  have s3 := hok.1.1
  intro m
  induction m with
  | zero => intro p i σ _ h; exact absurd h (Nat.not_lt_zero _)
  | succ m ih =>
    intro p i σ hp hm hi f hK
    unfold f_m_met_38
    rw [tm_points hok hK.2.2.2, Option.bind_some]
    by_cases c : p = tw_pts sp
    · subst c
      rw [if_pos (tp_yl (by omega) (by omega) (Nat.le_refl _)), tw_some, Nat.sub_self]
      exact ⟨f, rfl⟩
    · obtain ⟨d, hd⟩ : ∃ d, tw_pts sp - p = d + 1 := ⟨tw_pts sp - p - 1, by omega⟩
      have dp : tw_pts sp - (d + 1) = p := by omega
      have dp1 : tw_pts sp - (p + 1) = d := by omega
      rw [if_neg (tp_nl (by omega) (by omega) (by omega)), hd, tw_mp, dp]
      refine tw_b (tm_point hok hK (by omega) hs) (fun y h => ?_)
      obtain ⟨y1, y2, y3⟩ := h
      unfold f_m_met_90
      rw [y3, show nI p + (1 : Int32) = nI (p + 1) from nI_add p 1]
      cases b : tw_ms W N dl st pl bg sp se s p with
      | false =>
        rw [if_pos (by rfl), if_neg (by decide)]
        have := ih (p + 1) i y.2 (by omega) (by omega) hi (f.tr y1) y2
        rw [dp1] at this
        exact this
      | true =>
        rw [if_neg (by decide), if_pos rfl]
        by_cases e : i = 0
        · subst e
          obtain ⟨z, hz⟩ := tw_sps hsp
          obtain ⟨-, z1, z2, -⟩ := y2.2.2.2.1.2 span z hz
          rw [if_pos (show nI 0 = (0 : Int32) from rfl), if_pos rfl, tw_gN (by omega) (by decide), tm_turn hok y2.2.2.2 hsp (by omega), Option.bind_some, tw_gN (by omega) (by decide), nI_clamp (by omega), z1, z2, tw_some]
          refine ⟨f.tr y1, ?_⟩
          show _ = tw_num sp p span
          unfold tw_num
          rw [hz]
        · rw [if_neg (by rw [show (0 : Int32) = nI 0 from rfl, tw_eq hi (by omega)]; exact e), if_neg e, show nI i + (-1 : Int32) = nI (i - 1) from tw_dec (a := i) (by omega)]
          have := ih (p + 1) (i - 1) y.2 (by omega) (by omega) (by omega) (f.tr y1) y2
          rw [dp1] at this
          exact this
theorem tq_met {σ : rx_St} {x : Nat} (h : tq_T w W lv N pl bg dl st σ) (hG : tq_G W sp se σ) (hV : tq_try w W N dl st pl bg sp se x σ) (a0 a1 a2 : Int32) : ∃ o1 o2, f_c_met w a0 a1 a2 σ = some o1 ∧ f_m_met a0 a1 a2 o1.2 = some o2 ∧ o1.1 = o2.1 ∧ tw_fr tq_SQ σ o2.2 ∧ tq_try w W N dl st pl bg sp se x o2.2 := by
  have s3' := hG.1.1.1
  have bad : f_c_met w a0 a1 a2 σ = some ((-1000000 : Int32), σ) → f_m_met a0 a1 a2 σ = some ((-1000000 : Int32), rx_si σ 87 0 (nI 0)) → ∃ o1 o2, f_c_met w a0 a1 a2 σ = some o1 ∧ f_m_met a0 a1 a2 o1.2 = some o2 ∧ o1.1 = o2.1 ∧ tw_fr tq_SQ σ o2.2 ∧ tq_try w W N dl st pl bg sp se x o2.2 := fun q1 q2 => ⟨_, _, q1, q2, rfl, tq_thrQ, hV.thr _⟩
  rcases tq_seeds a0 with ⟨c1, c2⟩ | ⟨s, s1, s3, rfl, c1, c2⟩
  · refine bad ?_ ?_
    · unfold f_c_met
      rw [c1]
      exact if_pos rfl
    · unfold f_m_met
      rw [c2]
      exact if_pos rfl
  by_cases q1 : a1 < (0 : Int32)
  · refine bad ?_ ?_
    · unfold f_c_met
      rw [c1, if_neg (by decide)]
      exact if_pos q1
    · unfold f_m_met
      rw [c2]
      exact (if_neg (by decide)).trans (if_pos q1)
  by_cases q2 : a2 < (0 : Int32)
  · refine bad ?_ ?_
    · unfold f_c_met
      rw [c1, if_neg (by decide), if_neg q1]
      exact if_pos q2
    · unfold f_m_met
      rw [c2]
      exact (if_neg (by decide)).trans ((if_neg q1).trans (if_pos q2))
  have c96 : σ.1 76 8 = nI sp.length := hG.2.1.1.1
  by_cases q3 : a2 < nI sp.length
  · obtain ⟨i, rfl, hi⟩ := tq_nn q1
    obtain ⟨span, rfl, hspn⟩ := tq_nn q2
    have hsp : span < sp.length := by rw [tw_lt (by omega) (by omega)] at q3; exact q3
    obtain ⟨σ1, n, e1, f1, g1, g2, g3, g4, g5, hT1, hG1⟩ := tq_tried h hG hV s3
    have pts2 := hG1.1.1.2.2.1
    obtain ⟨y, e2, f2, y2⟩ := tm_mp (st := st) (s := s) (σ0 := rx_si σ1 87 0 (nI 0)) hG1.1 s3 hsp rx_fu 0 i (rx_si σ1 87 0 (nI 0)) (Nat.zero_le _) (by show _ < 100000; omega) hi tw_fr.rf (tq_K hT1 hG1)
    obtain ⟨b1, b2⟩ := tq_behind hT1 g2 g3 g4 g5 f2
    have em := tc_mp hG1.1 hG1.2.1 g2 g1 hi
    have r96 : (rx_si σ1 87 0 (0 : Int32)).1 87 96 = nI sp.length := (tw_r1n _ _ (by omega)).trans hG1.2.2.1.1
    have em2 : f_m_met (nI s) (nI i) (nI span) σ1 = some y := by
      unfold f_m_met
      rw [c2]
      refine (if_neg (show ¬ nI 1 = (0 : Int32) by decide)).trans ((if_neg q1).trans ((if_neg q2).trans ?_))
      rw [r96]
      exact (if_pos q3).trans e2
    refine ⟨(tw_mpn sp span (tw_mp (tw_ms W N dl st pl bg sp se s) (tw_pts sp) (tw_pts sp) i), σ1), y, ?_, em2, y2.symm, f1.tr b1, b2⟩
    unfold f_c_met
    rw [c1, if_neg (by decide), if_neg q1, if_neg q2, c96, if_pos q3, e1, Option.bind_some, em, Option.bind_some]
    cases b : tw_mp (tw_ms W N dl st pl bg sp se s) (tw_pts sp) (tw_pts sp) i with
    | none =>
      exact if_neg (by decide)
    | some q =>
      have ql := tw_mp_lt _ _ _ b (Nat.le_refl _)
      show (if (0 : Int32) ≤ nI q then _ else _) = _
      rw [if_pos (show (0 : Int32) ≤ nI q by rw [show (0 : Int32) = nI 0 from rfl, tw_le (by omega) (by omega)]; omega)]
      show ((f_gri_number (nI q) (nI span) σ1).bind _) = _
      rw [tc_number hG1.1 hG1.2.1 hsp (by omega)]
      rfl
  · refine bad ?_ ?_
    · unfold f_c_met
      rw [c1, if_neg (by decide), if_neg q1, if_neg q2, c96]
      exact if_neg q3
    · unfold f_m_met
      rw [c2]
      refine (if_neg (by decide)).trans ((if_neg q1).trans ((if_neg q2).trans ?_))
      rw [show (rx_si σ 87 0 (0 : Int32)).1 87 96 = nI sp.length from (tw_r1n _ _ (by omega)).trans hG.2.2.1.1]
      exact if_neg q3
/-! untold -/
def tw_ub (sp : List tw_Sp) (p i : Nat) : Int32 := if tw_turn sp p i = 0 then rx_ishl (1 : Int32) (nI i) else nI 0
def tw_uc (sp : List tw_Sp) (p i : Nat) : Int32 := if tw_turn sp p i + 1 = tw_z sp i then rx_ishl (1 : Int32) (nI i) else nI 0
def tw_un (sp : List tw_Sp) (p : Nat) : Nat → Int32 × Int32 → Int32 × Int32
  | 0, x => x
  | i + 1, x => ((tw_un sp p i x).1 ||| tw_ub sp p i, (tw_un sp p i x).2 ||| tw_uc sp p i)
def tw_ut (P : Nat → Bool) (sp : List tw_Sp) : Nat → Int32 × Int32
  | 0 => (nI 0, nI 0)
  | p + 1 => if P p = true then tw_un sp p sp.length (tw_ut P sp p) else tw_ut P sp p
theorem tw_turn_z {i p : Nat} (hok : tw_gok W sp se) (hi : i < sp.length) : tw_turn sp p i < tw_z sp i ∧ 1 ≤ tw_z sp i ∧ tw_z sp i ≤ 200 := by
  obtain ⟨z, hz⟩ := tw_sps hi
  obtain ⟨-, z1, z2⟩ := hok.1.2.2.2 i z hz
  have e := tw_zs hz
  exact ⟨tw_tn_lt (by omega) _ _, by omega, by omega⟩
theorem tc_u30 {σ : rx_St} {p : Nat} {v1 : Int32} {x : Int32 × Int32} {k7 : Int32 → Int32 → Int32 → Int32 → rx_St → Option (Int32)} (hok : tw_gok W sp se) (hG : tc_G sp se σ) (hp : p < 2147483648) : ∀ m i, i ≤ sp.length → sp.length - i < m → f_gri_untoldSpans_30 k7 m v1 (tw_un sp p i x).1 (tw_un sp p i x).2 (nI p) (nI i) σ = k7 v1 (tw_un sp p sp.length x).1 (tw_un sp p sp.length x).2 (nI (p + 1)) σ := by
  have s3 := hok.1.1
  intro m
  induction m with
  | zero => intro i _ h; exact absurd h (Nat.not_lt_zero _)
  | succ m ih =>
    intro i hi hm
    unfold f_gri_untoldSpans_30
    rw [hG.1.1]
    by_cases c : i = sp.length
    · subst c
      rw [if_pos (tp_yl (by omega) (by omega) (Nat.le_refl _))]
      unfold f_gri_untoldSpans_96
      rw [show nI p + (1 : Int32) = nI (p + 1) from nI_add p 1]
    · have hi' : i < sp.length := by omega
      obtain ⟨t1, t2, t3⟩ := tw_turn_z (W := W) (se := se) (p := p) hok hi'
      obtain ⟨z, hz⟩ := tw_sps hi'
      have ez := tw_zs hz
      have e85 : σ.1 85 i = nI (tw_z sp i) := by rw [ez]; exact (hG.1.2.2 i z hz).2.2.2
      have ih' := ih (i + 1) (by omega) (by omega)
      have e1 : nI (tw_z sp i) - (1 : Int32) = nI (tw_z sp i - 1) := tw_sub (a := tw_z sp i) (b := 1) (by omega)
      have s63 : ∀ s1, f_gri_untoldSpans_63 k7 (f_gri_untoldSpans_30 k7 m) v1 (tw_un sp p i x).2 (nI p) (nI i) (nI (tw_turn sp p i)) (tw_un sp p i x).1 s1 σ = f_gri_untoldSpans_30 k7 m v1 ((tw_un sp p i x).1 ||| s1) ((tw_un sp p i x).2 ||| tw_uc sp p i) (nI p) (nI (i + 1)) σ := by
        intro s1
        unfold f_gri_untoldSpans_63 f_gri_untoldSpans_88 tw_uc
        rw [tw_gN (by omega) (by decide), nI_clamp (by omega), e85, e1, tw_ifE (tw_eq (a := tw_turn sp p i) (b := tw_z sp i - 1) (by omega) (by omega)), show nI i + (1 : Int32) = nI (i + 1) from nI_add i 1]
        by_cases l : tw_turn sp p i + 1 = tw_z sp i
        · rw [if_pos (by omega), if_pos l]
        · rw [if_neg (by omega), if_neg l]
          rfl
      rw [if_neg (tp_nl (by omega) (by omega) (by omega)), tc_turn hok hG hi' hp, Option.bind_some, s63, s63, show (0 : Int32) = nI 0 from rfl, tw_ifE (tw_eq (a := tw_turn sp p i) (b := 0) (by omega) (by omega))]
      rw [tw_un] at ih'
      unfold tw_ub at ih'
      by_cases l : tw_turn sp p i = 0
      · rw [if_pos l] at ih' ⊢
        exact ih'
      · rw [if_neg l] at ih' ⊢
        exact ih'
theorem tm_u46 {σ : rx_St} {p : Nat} {v1 : Int32} {x : Int32 × Int32} {k21 : Int32 → Int32 → Int32 → Int32 → rx_St → Option (Int32 × rx_St)} (hok : tw_gok W sp se) (hG : tm_G sp se σ) (hp : p < 2147483648) : ∀ m i, i ≤ sp.length → sp.length - i < m → f_m_untold_46 k21 m v1 (tw_un sp p i x).1 (tw_un sp p i x).2 (nI p) (nI i) σ = k21 v1 (tw_un sp p sp.length x).1 (tw_un sp p sp.length x).2 (nI (p + 1)) σ := by
  have s3 := hok.1.1
  intro m
  induction m with
  | zero => intro i _ h; exact absurd h (Nat.not_lt_zero _)
  | succ m ih =>
    intro i hi hm
    unfold f_m_untold_46
    rw [hG.1.1]
    by_cases c : i = sp.length
    · subst c
      rw [if_pos (tp_yl (by omega) (by omega) (Nat.le_refl _))]
      unfold f_m_untold_106
      rw [show nI p + (1 : Int32) = nI (p + 1) from nI_add p 1]
    · have hi' : i < sp.length := by omega
      obtain ⟨t1, t2, t3⟩ := tw_turn_z (W := W) (se := se) (p := p) hok hi'
      obtain ⟨z, hz⟩ := tw_sps hi'
      have ez := tw_zs hz
      have e85 : σ.1 160 i = nI (tw_z sp i) := by rw [ez]; exact (hG.1.2 i z hz).2.2.2
      have ih' := ih (i + 1) (by omega) (by omega)
      have e1 : nI (tw_z sp i) - (1 : Int32) = nI (tw_z sp i - 1) := tw_sub (a := tw_z sp i) (b := 1) (by omega)
      have s63 : ∀ s1, f_m_untold_73 k21 (f_m_untold_46 k21 m) v1 s1 (tw_un sp p i x).2 (nI p) (nI i) σ = f_m_untold_46 k21 m v1 s1 ((tw_un sp p i x).2 ||| tw_uc sp p i) (nI p) (nI (i + 1)) σ := by
        intro s1
        unfold f_m_untold_73 f_m_untold_100 tw_uc
        rw [tm_turn hok hG hi' hp, Option.bind_some, tw_gN (by omega) (by decide), nI_clamp (by omega), e85, e1, tw_ifE (tw_eq (a := tw_turn sp p i) (b := tw_z sp i - 1) (by omega) (by omega)), show nI i + (1 : Int32) = nI (i + 1) from nI_add i 1]
        by_cases l : tw_turn sp p i + 1 = tw_z sp i
        · rw [if_pos (by omega), if_pos l]
        · rw [if_neg (by omega), if_neg l, show nI 0 = (0 : Int32) from rfl, Int32.or_zero]
      rw [if_neg (tp_nl (by omega) (by omega) (by omega)), tm_turn hok hG hi' hp, Option.bind_some, show (0 : Int32) = nI 0 from rfl, tw_ifE (tw_eq (a := tw_turn sp p i) (b := 0) (by omega) (by omega))]
      show (if tw_turn sp p i = 0 then f_m_untold_73 k21 (f_m_untold_46 k21 m) v1 ((tw_un sp p i x).1 ||| rx_ishl (1 : Int32) (nI i)) (tw_un sp p i x).2 (nI p) (nI i) σ else _) = _
      rw [s63, s63]
      rw [tw_un] at ih'
      unfold tw_ub at ih'
      by_cases l : tw_turn sp p i = 0
      · rw [if_pos l] at ih' ⊢
        exact ih'
      · rw [if_neg l] at ih' ⊢
        rw [show nI 0 = (0 : Int32) from rfl, Int32.or_zero] at ih'
        exact ih'
theorem tc_untold {σ : rx_St} {n s : Nat} (hok : tw_gok W sp se) (hG : tc_G sp se σ) (hV : tc_V w W N dl st pl bg sp se n σ) (hs : s ≤ n) : f_gri_untoldSpans (nI s) σ = some ((tw_ut (tw_ms W N dl st pl bg sp se s) sp (tw_pts sp)).1 &&& (tw_ut (tw_ms W N dl st pl bg sp se s) sp (tw_pts sp)).2) := by
  have p2 := hok.1.2.2.1
  have s3 := hok.1.1
  have v3 := hV.1
  have main : ∀ m p, p ≤ tw_pts sp → tw_pts sp - p < m → f_gri_untoldSpans_7 m (nI s) (tw_ut (tw_ms W N dl st pl bg sp se s) sp p).1 (tw_ut (tw_ms W N dl st pl bg sp se s) sp p).2 (nI p) σ = some ((tw_ut (tw_ms W N dl st pl bg sp se s) sp (tw_pts sp)).1 &&& (tw_ut (tw_ms W N dl st pl bg sp se s) sp (tw_pts sp)).2) := by
    intro m
    induction m with
    | zero => intro p _ h; exact absurd h (Nat.not_lt_zero _)
    | succ m ih =>
      intro p hp hm
      unfold f_gri_untoldSpans_7
      rw [hG.1.2.1]
      by_cases c : p = tw_pts sp
      · subst c
        exact if_pos (tp_yl (by omega) (by omega) (Nat.le_refl _))
      · have ih' := ih (p + 1) (by omega) (by omega)
        rw [tw_ut] at ih'
        rw [if_neg (tp_nl (by omega) (by omega) (by omega)), tw_gN (by omega) (by decide), nI_clamp (by omega), tw_ifE (tc_msV hV hs (show p < tw_pts sp by omega))]
        cases b : tw_ms W N dl st pl bg sp se s p with
        | false =>
          rw [if_pos rfl]
          unfold f_gri_untoldSpans_96
          rw [show nI p + (1 : Int32) = nI (p + 1) from nI_add p 1]
          rw [b, if_neg (by decide)] at ih'
          exact ih'
        | true =>
          rw [if_neg (by decide)]
          rw [b, if_pos rfl] at ih'
          exact (tc_u30 (v1 := nI s) (x := tw_ut (tw_ms W N dl st pl bg sp se s) sp p) (k7 := f_gri_untoldSpans_7 m) hok hG (by omega) rx_fu 0 (Nat.zero_le _) (by show _ < 100000; omega)).trans ih'
  exact main rx_fu 0 (Nat.zero_le _) (by show _ < 100000; omega)
theorem tm_untold {s : Nat} (hok : tw_gok W sp se) (hs : s ≤ 3) {σ0 : rx_St} : ∀ m p σ, p ≤ tw_pts sp → tw_pts sp - p < m → tw_fr tm_SM σ0 σ → tm_K W lv N pl bg dl st sp se σ →
    tw_ok (f_m_untold_21 m (nI s) (tw_ut (tw_ms W N dl st pl bg sp se s) sp p).1 (tw_ut (tw_ms W N dl st pl bg sp se s) sp p).2 (nI p) σ) (fun y => tw_fr tm_SM σ0 y.2 ∧ y.1 = (tw_ut (tw_ms W N dl st pl bg sp se s) sp (tw_pts sp)).1 &&& (tw_ut (tw_ms W N dl st pl bg sp se s) sp (tw_pts sp)).2) := by
  have p2 := hok.1.2.2.1
  have s3 := hok.1.1
  intro m
  induction m with
  | zero => intro p σ _ h; exact absurd h (Nat.not_lt_zero _)
  | succ m ih =>
    intro p σ hp hm f hK
    unfold f_m_untold_21
    rw [tm_points hok hK.2.2.2, Option.bind_some]
    by_cases c : p = tw_pts sp
    · subst c
      rw [if_pos (tp_yl (by omega) (by omega) (Nat.le_refl _)), tw_some]
      exact ⟨f, rfl⟩
    · rw [if_neg (tp_nl (by omega) (by omega) (by omega))]
      refine tw_b (tm_point hok hK (by omega) hs) (fun y h => ?_)
      obtain ⟨y1, y2, y3⟩ := h
      have ih' := ih (p + 1) y.2 (by omega) (by omega) (f.tr y1) y2
      rw [tw_ut] at ih'
      rw [y3]
      cases b : tw_ms W N dl st pl bg sp se s p with
      | false =>
        rw [if_pos (by rfl)]
        unfold f_m_untold_106
        rw [show nI p + (1 : Int32) = nI (p + 1) from nI_add p 1]
        rw [b, if_neg (by decide)] at ih'
        exact ih'
      | true =>
        rw [if_neg (by decide)]
        rw [b, if_pos rfl] at ih'
        have e := tm_u46 (v1 := nI s) (x := tw_ut (tw_ms W N dl st pl bg sp se s) sp p) (k21 := f_m_untold_21 m) hok y2.2.2.2 (show p < 2147483648 by omega) rx_fu 0 (Nat.zero_le _) (by show _ < 100000; omega)
        have e' : f_m_untold_46 (f_m_untold_21 m) rx_fu (nI s) (tw_ut (tw_ms W N dl st pl bg sp se s) sp p).1 (tw_ut (tw_ms W N dl st pl bg sp se s) sp p).2 (nI p) (0 : Int32) y.2 = _ := e
        rw [e']
        exact ih'
theorem tq_untold {σ : rx_St} {x : Nat} (h : tq_T w W lv N pl bg dl st σ) (hG : tq_G W sp se σ) (hV : tq_try w W N dl st pl bg sp se x σ) (a0 : Int32) : ∃ o1 o2, f_c_untold w a0 σ = some o1 ∧ f_m_untold a0 o1.2 = some o2 ∧ o1.1 = o2.1 ∧ tw_fr tq_SQ σ o2.2 ∧ tq_try w W N dl st pl bg sp se x o2.2 := by
  rcases tq_seeds a0 with ⟨c1, c2⟩ | ⟨s, s1, s3, rfl, c1, c2⟩
  · refine ⟨((-1 : Int32), σ), ((-1 : Int32), rx_si σ 87 0 (nI 0)), ?_, ?_, rfl, tq_thrQ, hV.thr _⟩
    · unfold f_c_untold
      rw [c1]
      exact if_pos rfl
    · unfold f_m_untold
      rw [c2]
      rfl
  · obtain ⟨σ1, n, e1, f1, g1, g2, g3, g4, g5, hT1, hG1⟩ := tq_tried h hG hV s3
    obtain ⟨y, e2, f2, y2⟩ := tm_untold (st := st) (s := s) (σ0 := rx_si σ1 87 0 (nI 0)) hG1.1 s3 rx_fu 0 (rx_si σ1 87 0 (nI 0)) (Nat.zero_le _) (by have := hG1.1.1.2.2.1; show _ < 100000; omega) tw_fr.rf (tq_K hT1 hG1)
    obtain ⟨b1, b2⟩ := tq_behind hT1 g2 g3 g4 g5 f2
    refine ⟨(_, σ1), y, ?_, ?_, y2.symm, f1.tr b1, b2⟩
    · unfold f_c_untold
      rw [c1, if_neg (by decide), e1, Option.bind_some, tc_untold hG1.1 hG1.2.1 g2 g1]
      rfl
    · unfold f_m_untold
      rw [c2]
      exact (if_neg (show ¬ nI 1 = (0 : Int32) by decide)).trans e2
end TN
