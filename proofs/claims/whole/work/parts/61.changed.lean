/-! changed and first on both sides -/
section TU3
variable {w : Nat} {W : tw_Wo} {lv : Nat} {N : tw_N} {pl : Nat → Nat} {bg : Nat → Int32} {dl : Bool} {st : Nat → Int32}
def tq_SU (q j : Nat) : Prop := tq_S q j ∨ q = 71 ∨ q = 147 ∨ q = 148
theorem tq_SUc : ∀ q j, tc_SU q j → tq_SU q j := fun q j h => by unfold tc_SU tc_SR at h; unfold tq_SU tq_S; omega
theorem tq_SUm : ∀ q j, tm_SU q j → tq_SU q j := fun q j h => by unfold tm_SU tm_S8 at h; unfold tq_SU tq_S; omega
theorem tq_T.fu {σ σ' : rx_St} (h : tq_T w W lv N pl bg dl st σ) (f : tw_fr tq_SU σ σ') : tq_T w W lv N pl bg dl st σ' := h.fg (fun q j a => f.i (by unfold tq_TP at a; unfold tq_SU tq_S; omega))
def tq_bad (a1 a2 a3 : Int32) (σ : rx_St) : Prop := f_m_isTicks a1 = (0 : Int32) ∨ f_m_isOne a2 σ = (0 : Int32) ∨ a3 < (0 : Int32) ∨ ¬ a3 < a1
theorem tq_can (a1 a2 a3 : Int32) {σ σ' : rx_St} {n : Nat} (h : σ.1 38 2 = nI n) (h' : σ'.1 87 60 = nI n) (hn : n ≤ 20) : f_c_canUndo a1 a2 a3 σ = (0 : Int32) ∧ tq_bad a1 a2 a3 σ' ∨ ∃ t o k, t ≤ 40 ∧ o < n ∧ k < t ∧ a1 = nI t ∧ a2 = nI o ∧ a3 = nI k ∧ f_c_canUndo a1 a2 a3 σ = (1 : Int32) ∧ ¬ tq_bad a1 a2 a3 σ' := by
  unfold f_c_canUndo
  rcases tq_time a1 with ⟨c1, c2⟩ | ⟨t, ht, rfl, c1, c2⟩
  · exact Or.inl ⟨if_pos c1, Or.inl c2⟩
  · rw [c1, if_neg (show ¬ nI 1 = (0 : Int32) by decide)]
    by_cases c3 : a3 < (0 : Int32)
    · exact Or.inl ⟨if_pos c3, Or.inr (Or.inr (Or.inl c3))⟩
    · rw [if_neg c3]
      obtain ⟨k, rfl, hk⟩ := tq_nn c3
      by_cases c4 : nI t ≤ nI k
      · exact Or.inl ⟨if_pos c4, Or.inr (Or.inr (Or.inr (Int32.not_lt.mpr c4)))⟩
      · rw [if_neg c4]
        rw [tw_le (by omega) (by omega)] at c4
        rcases tq_one a2 h h' hn with ⟨d1, d2⟩ | ⟨o, ho, rfl, d1, d2⟩
        · exact Or.inl ⟨if_pos d1, Or.inr (Or.inl d2)⟩
        · refine Or.inr ⟨t, o, k, ht, ho, by omega, rfl, rfl, rfl, ?_, fun b => ?_⟩
          · rw [d1]; exact if_neg (by decide)
          · rcases b with b | b | b | b
            · rw [c2] at b; exact absurd b (by decide)
            · rw [d2] at b; exact absurd b (by decide)
            · exact c3 b
            · exact b (by rw [tw_lt (by omega) (by omega)]; omega)
theorem tq_mchanged {a0 a1 a2 a3 : Int32} {σ : rx_St} (h : tq_bad a1 a2 a3 (rx_si σ 87 0 (nI 0))) : f_m_changed a0 a1 a2 a3 σ = some ((-1 : Int32), rx_si σ 87 0 (nI 0)) := by
  unfold f_m_changed f_m_changed_31
  by_cases c1 : f_m_isTicks a1 = (0 : Int32)
  · exact if_pos c1
  refine (if_neg c1).trans ?_
  by_cases c2 : f_m_isOne a2 (rx_si σ 87 0 (nI 0)) = (0 : Int32)
  · exact if_pos c2
  refine (if_neg c2).trans ?_
  by_cases c3 : a3 < (0 : Int32)
  · exact if_pos c3
  refine (if_neg c3).trans ?_
  exact if_neg (fun c4 => by
    rcases h with h | h | h | h
    · exact c1 h
    · exact c2 h
    · exact c3 h
    · exact h c4)
theorem tq_mchangedY {a0 a1 a2 a3 : Int32} {σ : rx_St} {y : Int32 × rx_St} (h : ¬ tq_bad a1 a2 a3 (rx_si σ 87 0 (nI 0))) (e : f_m_changes a0 a1 a2 a3 (rx_si σ 87 0 (nI 0)) = some y) : f_m_changed a0 a1 a2 a3 σ = some y := by
  unfold f_m_changed
  unfold tq_bad at h
  refine (if_neg (fun c => h (Or.inl c))).trans ?_
  refine (if_neg (fun c => h (Or.inr (Or.inl c)))).trans ?_
  refine (if_neg (fun c => h (Or.inr (Or.inr (Or.inl c))))).trans ?_
  refine (if_pos (Classical.not_not.mp (fun c => h (Or.inr (Or.inr (Or.inr c)))))).trans ?_
  have e' : f_m_changes a0 a1 a2 a3 (rx_si σ 87 0 (0 : Int32)) = some y := e
  rw [e']
  rfl
theorem tq_changed {σ : rx_St} (h : tq_T w W lv N pl bg dl st σ) (a0 a1 a2 a3 : Int32) : ∃ o1 o2, f_c_changed w a0 a1 a2 a3 σ = some o1 ∧ f_m_changed a0 a1 a2 a3 o1.2 = some o2 ∧ o1.1 = o2.1 ∧ tw_fr tq_SU σ o2.2 := by
  obtain ⟨⟨h1, h2, h3⟩, ⟨h4, h5, h6⟩, hw⟩ := id h
  have thr := tq_thr h (nI 0)
  rcases tq_can a1 a2 a3 (σ := σ) (σ' := rx_si σ 87 0 (nI 0)) h1.1.1 thr.1.2.1.1.1.1 h1.1.2 with ⟨c1, c2⟩ | ⟨t, o, k, ht, ho, hk, rfl, rfl, rfl, c1, c2⟩
  · refine ⟨((-1 : Int32), σ), _, ?_, tq_mchanged c2, rfl, thr.2.mn (fun q j h => Or.inl h)⟩
    unfold f_c_changed
    rw [c1]
    exact if_pos rfl
  · obtain ⟨σ1, e1, f1, g1⟩ := tc_undo (seed := a0) (T := t) (one := o) (tick := k) hw (by omega) (by omega) h1 h2 h3
    have fu1 := f1.mn tq_SUc
    have hT1 := h.fu fu1
    have thr1 := tq_thr hT1 (nI 0)
    obtain ⟨y, e2, y1, y2, y3⟩ := tm_changes (seed := a0) (T := t) (one := o) (tick := k) ht (by omega) thr1.1.2.1.1 thr1.1.2.1.2.1 thr1.1.2.1.2.2
    have n1 : σ1.1 38 2 = nI N.1 := hT1.1.1.1.1
    have e3 := tc_ch28 (w := w) n1 h1.1.2 g1 (fun q x hx => by have := tw_fc_lt t x hx; omega) rx_fu 0 (Nat.zero_le _) (by have := h1.1.2; show _ < 100000; omega)
    have nb : ¬ tq_bad (nI t) (nI o) (nI k) (rx_si σ1 87 0 (nI 0)) := by
      rcases tq_can (nI t) (nI o) (nI k) (σ := σ1) (σ' := rx_si σ1 87 0 (nI 0)) n1 thr1.1.2.1.1.1.1 h1.1.2 with ⟨z1, -⟩ | ⟨_, _, _, _, _, _, _, _, _, _, z⟩
      · unfold f_c_canUndo f_tow_hasOne at z1 c1
        rw [n1] at z1
        rw [h1.1.1, z1] at c1
        exact absurd c1 (by decide)
      · exact z
    refine ⟨(tw_bs (fun q => (tw_fc (tw_D W N dl st a0 pl bg o k) q t).isSome) N.1, σ1), y, ?_, tq_mchangedY nb e2, y1.symm, (fu1.tr (thr1.2.mn (fun q j h => Or.inl h))).tr (y2.mn tq_SUm)⟩
    · unfold f_c_changed
      rw [c1, if_neg (by decide), e1, Option.bind_some]
      exact e3
theorem tq_mfirst {a0 a1 a2 a3 a4 : Int32} {σ : rx_St} (h : tq_bad a1 a2 a3 (rx_si σ 87 0 (nI 0)) ∨ f_m_isOne a4 (rx_si σ 87 0 (nI 0)) = (0 : Int32)) : f_m_first a0 a1 a2 a3 a4 σ = some ((-1 : Int32), rx_si σ 87 0 (nI 0)) := by
  unfold f_m_first
  by_cases c1 : f_m_isTicks a1 = (0 : Int32)
  · exact if_pos c1
  refine (if_neg c1).trans ?_
  by_cases c2 : f_m_isOne a2 (rx_si σ 87 0 (nI 0)) = (0 : Int32)
  · exact if_pos c2
  refine (if_neg c2).trans ?_
  by_cases c5 : f_m_isOne a4 (rx_si σ 87 0 (nI 0)) = (0 : Int32)
  · exact if_pos c5
  refine (if_neg c5).trans ?_
  by_cases c3 : a3 < (0 : Int32)
  · exact if_pos c3
  refine (if_neg c3).trans ?_
  exact if_neg (fun c4 => by
    rcases h with (h | h | h | h) | h
    · exact c1 h
    · exact c2 h
    · exact c3 h
    · exact h c4
    · exact c5 h)
theorem tq_first {σ : rx_St} (h : tq_T w W lv N pl bg dl st σ) (a0 a1 a2 a3 a4 : Int32) : ∃ o1 o2, f_c_first w a0 a1 a2 a3 a4 σ = some o1 ∧ f_m_first a0 a1 a2 a3 a4 o1.2 = some o2 ∧ o1.1 = o2.1 ∧ tw_fr tq_SU σ o2.2 := by
  obtain ⟨⟨h1, h2, h3⟩, ⟨h4, h5, h6⟩, hw⟩ := id h
  have thr := tq_thr h (nI 0)
  rcases tq_can a1 a2 a3 (σ := σ) (σ' := rx_si σ 87 0 (nI 0)) h1.1.1 thr.1.2.1.1.1.1 h1.1.2 with ⟨c1, c2⟩ | ⟨t, o, k, ht, ho, hk, rfl, rfl, rfl, c1, c2⟩
  · refine ⟨((-1 : Int32), σ), _, ?_, tq_mfirst (Or.inl c2), rfl, thr.2.mn (fun q j h => Or.inl h)⟩
    unfold f_c_first
    rw [c1]
    exact if_pos rfl
  rcases tq_one a4 (σ := σ) (σ' := rx_si σ 87 0 (nI 0)) h1.1.1 thr.1.2.1.1.1.1 h1.1.2 with ⟨d1, d2⟩ | ⟨p, hp, rfl, d1, d2⟩
  · refine ⟨((-1 : Int32), σ), _, ?_, tq_mfirst (Or.inr d2), rfl, thr.2.mn (fun q j h => Or.inl h)⟩
    unfold f_c_first
    rw [c1, if_neg (by decide), d1]
    exact if_pos rfl
  · obtain ⟨σ1, e1, f1, g1⟩ := tc_undo (seed := a0) (T := t) (one := o) (tick := k) hw (by omega) (by omega) h1 h2 h3
    have h20 := h1.1.2
    have fu1 := f1.mn tq_SUc
    have hT1 := h.fu fu1
    have thr1 := tq_thr hT1 (nI 0)
    obtain ⟨y, e2, y1, y2, y3⟩ := tm_changes (seed := a0) (T := t) (one := o) (tick := k) ht (by omega) thr1.1.2.1.1 thr1.1.2.1.2.1 thr1.1.2.1.2.2
    have n1 : σ1.1 38 2 = nI N.1 := hT1.1.1.1.1
    have nb : ¬ tq_bad (nI t) (nI o) (nI k) (rx_si σ1 87 0 (nI 0)) := by
      rcases tq_can (nI t) (nI o) (nI k) (σ := σ1) (σ' := rx_si σ1 87 0 (nI 0)) n1 thr1.1.2.1.1.1.1 h1.1.2 with ⟨z1, -⟩ | ⟨_, _, _, _, _, _, _, _, _, _, z⟩
      · unfold f_c_canUndo f_tow_hasOne at z1 c1
        rw [n1] at z1
        rw [h1.1.1, z1] at c1
        exact absurd c1 (by decide)
      · exact z
    have np : ¬ f_m_isOne (nI p) (rx_si σ1 87 0 (nI 0)) = (0 : Int32) := by
      rcases tq_one (nI p) (σ := σ1) (σ' := rx_si σ1 87 0 (nI 0)) n1 thr1.1.2.1.1.1.1 h1.1.2 with ⟨z1, -⟩ | ⟨_, _, _, _, z⟩
      · unfold f_tow_hasOne at z1 d1
        rw [n1] at z1
        rw [h1.1.1, z1] at d1
        exact absurd d1 (by decide)
      · rw [z]; decide
    refine ⟨(tw_en (-nI 2) (tw_fc (tw_D W N dl st a0 pl bg o k) p t), σ1), (tw_en (-nI 2) (tw_fc (tw_D W N dl st a0 pl bg o k) p t), y.2), ?_, ?_, rfl, (fu1.tr (thr1.2.mn (fun q j h => Or.inl h))).tr (y2.mn tq_SUm)⟩
    · unfold f_c_first
      rw [c1, if_neg (by decide), d1, if_neg (by decide), e1, Option.bind_some, tw_gN (by omega) (by decide), nI_clamp (by omega), g1 p hp]
    · unfold f_m_first
      unfold tq_bad at nb
      refine (if_neg (fun c => nb (Or.inl c))).trans ?_
      refine (if_neg (fun c => nb (Or.inr (Or.inl c)))).trans ?_
      refine (if_neg np).trans ?_
      refine (if_neg (fun c => nb (Or.inr (Or.inr (Or.inl c))))).trans ?_
      refine (if_pos (Classical.not_not.mp (fun c => nb (Or.inr (Or.inr (Or.inr c)))))).trans ?_
      have e2' : f_m_changes a0 (nI t) (nI o) (nI k) (rx_si (tw_en (-nI 2) (tw_fc (tw_D W N dl st a0 pl bg o k) p t), σ1).2 87 0 (0 : Int32)) = some y := e2
      rw [e2', Option.bind_some, y1, tw_bt (show p < 20 by omega) N.1 h20]
      cases c : tw_fc (tw_D W N dl st a0 pl bg o k) p t with
      | none =>
        rw [show (if p < N.1 ∧ (none : Option Nat).isSome = true then nI 1 else nI 0) = nI 0 from if_neg (fun z => by cases z.2), if_pos (show nI 0 = (0 : Int32) from rfl)]
        rfl
      | some x =>
        rw [show (if p < N.1 ∧ (some x).isSome = true then nI 1 else nI 0) = nI 1 from if_pos ⟨hp, rfl⟩, if_neg (show ¬ nI 1 = (0 : Int32) by decide), tw_gN (by omega) (by decide), nI_clamp (by omega), y3 p hp, c]
        rfl
end TU3
