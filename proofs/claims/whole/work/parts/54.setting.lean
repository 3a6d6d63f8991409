/-! setting, place on both sides -/
section TQ5
variable {w : Nat} {W : tw_Wo} {lv : Nat} {N : tw_N} {pl : Nat → Nat} {bg : Nat → Int32} {dl : Bool} {st : Nat → Int32}
theorem tq_setting {σ : rx_St} (h : tq_T w W lv N pl bg dl st σ) (a : Int32) : (0 ≤ a ∧ a < σ.1 (7 + 14 * w) 0 → vp_in a 6) ∧ ∃ o2, f_m_setting a (rv_o (7 + 14 * w) a σ) = some o2 ∧ f_m_thrown o2.2 = rv_v (7 + 14 * w) a σ ∧ (rv_v (7 + 14 * w) a σ = 0 → o2.2.2 161 0 = o2.1.toInt64) ∧ tw_fr (fun q j => q = 87 ∧ j = 0 ∨ q = 161) σ o2.2 := by
  obtain ⟨⟨h1, ⟨_, _, _, _, e1⟩, h3⟩, ⟨h4, ⟨m1, m2, m3, -⟩, h7⟩, hw⟩ := id h
  have h6 := h4.2.2.2.1
  unfold rv_o rv_v
  rw [e1]
  by_cases hc : 0 ≤ a ∧ a < nI W.1.length
  · obtain ⟨s, rfl, hs⟩ := tq_nn (x := a) (Int32.not_lt.mpr hc.1)
    have hs2 : s < W.1.length := (nI_ltI (by omega) (by omega)).mp hc.2
    refine ⟨fun _ => vp_in_nI (by omega) (by omega), ?_⟩
    rw [if_pos hc, if_pos hc, nI_clamp hs]
    refine ⟨(st s, rx_si (rx_sl σ 161 0 (σ.1 39 s).toInt64) 87 0 (nI 0)), ?_, ?_, fun _ => ?_, (tw_fr.rf.sl (by omega)).si (by omega)⟩
    · have e7 := h7 s hs2
      unfold f_m_setting f_m_isSetting
      simp (disch := omega) only [tw_L, tw_gN, tw_cl, tw_le, tw_lt, tw_eq, nI_add, pk_mul, tw_sub, tw_B0, tw_B1, tw_nb0, tw_nb1, tw_r1s, tw_r1n, if_true, if_false, Nat.le_refl, Nat.reduceEqDiff, Nat.reduceLeDiff, Nat.reduceLT, reduceIte, tw_r21, m2, m3, e7]
      rw [if_neg (by omega), if_neg (by omega), Option.bind_some, if_neg (by decide)]
    · unfold f_m_thrown
      rw [tw_r1s]
      rfl
    · rw [tw_r12, tw_r2, if_pos ⟨rfl, rfl⟩, h3 s hs2]
  · refine ⟨fun z => absurd z hc, ?_⟩
    rw [if_neg hc, if_neg hc]
    have e0 : f_m_isSetting a (rx_si σ 87 0 (nI 0)) = some (nI 0) := by
      rcases tq_hasS a h (tq_thr h (nI 0)).1 with ⟨-, z⟩ | ⟨s, hs, rfl, -, -⟩
      · exact z
      · exact absurd ⟨(nI_leI (a := 0) (by decide) (by omega)).mpr (Nat.zero_le _), (nI_ltI (by omega) (by omega)).mpr hs⟩ hc
    refine ⟨((0 : Int32), rx_si (rx_si σ 87 0 (nI 0)) 87 0 (1 : Int32)), ?_, ?_, fun z => absurd z (by decide), (tw_fr.rf.si (by omega)).si (by omega)⟩
    · unfold f_m_setting
      show ((f_m_isSetting a (rx_si σ 87 0 (nI 0))).bind _) = _
      rw [e0]
      rfl
    · unfold f_m_thrown
      rw [tw_r1s]
theorem tq_place {σ : rx_St} (h : σ.1 0 5 = σ.1 87 17) : ∃ o2, f_m_place σ = some o2 ∧ f_c_place σ = o2.1 ∧ o2.2 = rx_si σ 87 0 (nI 0) := by
  refine ⟨(σ.1 87 17, rx_si σ 87 0 (nI 0)), ?_, h, rfl⟩
  unfold f_m_place
  simp (disch := omega) only [tw_L, tw_gN, tw_cl, tw_le, tw_lt, tw_eq, nI_add, pk_mul, tw_sub, tw_B0, tw_B1, tw_nb0, tw_nb1, tw_r1s, tw_r1n, if_true, if_false, Nat.le_refl, Nat.reduceEqDiff, Nat.reduceLeDiff, Nat.reduceLT, reduceIte]
end TQ5
