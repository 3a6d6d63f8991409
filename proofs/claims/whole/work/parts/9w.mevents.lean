/-! WHAT IS AMISS: RULES, KINDS, all -/
section TBW
variable {T : List tw_Tk} {U : ty_Wo} {lv k : Nat} {K : ty_Ki}
theorem ta_sameWs (hK : U.2[k]? = some K) (r : Nat) : ∀ (ws : List ty_Wi) (p i : Nat), (∀ w ∈ ws, ty_vW T w) → ta_same ((tz_wcs ws).flatMap (tz_ev T U k)) (ws.flatMap (ta_we T (ta_X1 lv (ty_sn U) k K))) ((ta_wqs (ta_X1 lv (ty_sn U) k K) r p i ws).flatMap (ta_qe T U lv))
  | [], _, _, _ => ta_same.nil
  | w :: ws, p, i, h => by
    have g := (ta_sameW (lv := lv) hK p (6 * r + i) (h w (List.mem_cons_self ..))).app (ta_sameWs hK r ws (p + w.2.2.2.length) (i + 1) (fun y hy => h y (List.mem_cons_of_mem _ hy)))
    rw [← List.flatMap_append, ← List.flatMap_append] at g
    rw [List.flatMap_cons]
    exact g
theorem ta_sameR (hK : U.2[k]? = some K) {r : ty_Ru} (q p i : Nat) (h : ty_vR T r) : ta_same ((tz_rc q r).flatMap (tz_ev T U k)) (ta_re T (ta_X1 lv (ty_sn U) k K) r) ((ta_oqs (ta_X1 lv (ty_sn U) k K) p (ta_lop r.1) ++ ta_wqs (ta_X1 lv (ty_sn U) k K) (8 * (5 * lv + k) + i) (p + (ta_lop r.1).length) 0 r.2).flatMap (ta_qe T U lv)) := by
  have g := (ta_sameLs (lv := lv) hK (b := q + ty_sz r.1) (en := q + ty_sz r.1 + (tz_wcs r.2).length) r.1 q p h.1).app (ta_sameWs (lv := lv) hK (8 * (5 * lv + k) + i) r.2 (p + (ta_lop r.1).length) 0 h.2.1)
  rw [← List.flatMap_append, ← List.flatMap_append] at g
  exact g
theorem ta_sameRs (hK : U.2[k]? = some K) : ∀ (rs : List ty_Ru) (q p i : Nat), (∀ r ∈ rs, ty_vR T r) → ta_same ((tz_rcs q rs).flatMap (tz_ev T U k)) (rs.flatMap (ta_re T (ta_X1 lv (ty_sn U) k K))) ((ta_rqs (ta_X1 lv (ty_sn U) k K) p i rs).flatMap (ta_qe T U lv))
  | [], _, _, _, _ => ta_same.nil
  | r :: rs, q, p, i, h => by
    have g := (ta_sameR (lv := lv) hK q p i (h r (List.mem_cons_self ..))).app (ta_sameRs hK rs (q + (tz_rc q r).length) (p + (ta_rop r).length) (i + 1) (fun y hy => h y (List.mem_cons_of_mem _ hy)))
    rw [← List.flatMap_append, ← List.flatMap_append] at g
    rw [List.flatMap_cons]
    exact g
theorem ta_shuf {A V R E Q1 Q2 D Z S : Prop} (hS : S ↔ R ∨ Q1) (ih : E ∨ Q2 ↔ D ∨ Z) : (((A ∨ (V ∨ R)) ∨ E) ∨ (Q1 ∨ Q2)) ↔ ((A ∨ D) ∨ (V ∨ (S ∨ Z))) := by
  constructor
  · rintro (((h | (h | h)) | h) | (h | h))
    · exact Or.inl (Or.inl h)
    · exact Or.inr (Or.inl h)
    · exact Or.inr (Or.inr (Or.inl (hS.mpr (Or.inl h))))
    · rcases ih.mp (Or.inl h) with y | y
      · exact Or.inl (Or.inr y)
      · exact Or.inr (Or.inr (Or.inr y))
    · exact Or.inr (Or.inr (Or.inl (hS.mpr (Or.inr h))))
    · rcases ih.mp (Or.inr h) with y | y
      · exact Or.inl (Or.inr y)
      · exact Or.inr (Or.inr (Or.inr y))
  · rintro ((h | h) | (h | (h | h)))
    · exact Or.inl (Or.inl (Or.inl h))
    · rcases ih.mpr (Or.inl h) with y | y
      · exact Or.inl (Or.inr y)
      · exact Or.inr (Or.inr y)
    · exact Or.inl (Or.inl (Or.inr (Or.inl h)))
    · rcases hS.mp h with y | y
      · exact Or.inl (Or.inl (Or.inr (Or.inr y)))
      · exact Or.inr (Or.inl y)
    · rcases ih.mpr (Or.inr h) with y | y
      · exact Or.inl (Or.inr y)
      · exact Or.inr (Or.inr y)
theorem ta_sameK : ∀ (Ks Pre : List ty_Ki) (q p : Nat), U.2 = Pre ++ Ks → (∀ K ∈ Ks, ty_vK T K) → ∀ e, (e ∈ ta_kE T lv (ty_sn U) (Pre.map (fun x => x.1)) Ks ∨ e ∈ (ta_kQ lv (ty_sn U) Pre.length p Ks).flatMap (ta_qe T U lv)) ↔ (e ∈ ty_dupK T (ty_sn U) (ty_kn U) (Ks.map (fun x => x.1)) Pre.length ∨ e ∈ tz_kE T U Pre.length q Ks)
  | [], Pre, q, p, _, _, e => ⟨fun z => z.elim (fun y => (by cases y)) (fun y => (by cases y)), fun z => z.elim (fun y => (by cases y)) (fun y => (by cases y))⟩
  | K :: Ks, Pre, q, p, hU, hv, e => by
    have hK : U.2[Pre.length]? = some K := by
      rw [hU, List.getElem?_append_right (Nat.le_refl _), Nat.sub_self]
      rfl
    have vK := hv K (List.mem_cons_self ..)
    have ih := ta_sameK Ks (Pre ++ [K]) (q + (tz_rcs q K.2.2).length) (p + (ta_rops K.2.2).length) (by rw [hU, List.append_assoc]; rfl) (fun y hy => hv y (List.mem_cons_of_mem _ hy)) e
    rw [List.map_append, List.length_append] at ih
    have ih : (e ∈ ta_kE T lv (ty_sn U) (Pre.map (fun x => x.1) ++ [K.1]) Ks ∨ e ∈ (ta_kQ lv (ty_sn U) (Pre.length + 1) (p + (ta_rops K.2.2).length) Ks).flatMap (ta_qe T U lv)) ↔ (e ∈ ty_dupK T (ty_sn U) (ty_kn U) (Ks.map (fun x => x.1)) (Pre.length + 1) ∨ e ∈ tz_kE T U (Pre.length + 1) (q + (tz_rcs q K.2.2).length) Ks) := ih
    have gs := ta_sameRs (T := T) (lv := lv) hK K.2.2 q p 0 vK.2.2.1 e
    have ev : ty_vn U Pre.length = K.2.1.map (fun x => x.1) := by unfold ty_vn; rw [hK]
    have ed : ty_dup T (ty_vn U Pre.length) (ty_vn U Pre.length) 0 = ta_ve T [] K.2.1 := by
      rw [ev]
      exact ta_ve_dup (T := T) K.2.1 []
    have en : (if ty_fi T (ty_Lt T K.1) (ty_sn U) 0 = none ∧ ty_fi T (ty_Lt T K.1) (ty_kn U) 0 = some Pre.length then [] else [(3, K.1)]) = ta_ne T (ty_sn U) (Pre.map (fun x => x.1)) K.1 := by
      have kk := ty_fi_pre (T := T) (ts := Ks.map (fun x => x.1)) (rfl : ty_Lt T K.1 = _) (Pre.map (fun x => x.1)) 0
      have ekn : ty_kn U = Pre.map (fun x => x.1) ++ K.1 :: Ks.map (fun x => x.1) := by
        unfold ty_kn
        rw [hU, List.map_append]
        rfl
      rw [Nat.zero_add, List.length_map, ← ekn] at kk
      unfold ta_ne
      by_cases c : ty_fi T (ty_Lt T K.1) (ty_sn U) 0 = none ∧ ty_fi T (ty_Lt T K.1) (Pre.map (fun x => x.1)) 0 = none
      · rw [if_pos c, if_pos ⟨c.1, kk.mpr c.2⟩]
      · rw [if_neg c, if_neg (fun z => c ⟨z.1, kk.mp z.2⟩)]
    rw [List.map_cons, ty_dupK, tz_kE, ta_kE, ta_kQ, en, ed, List.flatMap_append, List.length_map, List.mem_append, List.mem_append, List.mem_append, List.mem_append, List.mem_append, List.mem_append, List.mem_append]
    exact ta_shuf gs ih
/-- both sides find the same -/
theorem ta_Ro_eq {n : Nat} (hT : ∀ (i : Nat) (x : tw_Tk), T[i]? = some x → tw_tkok x) : ta_Ro T n lv = ty_R T n := by
  unfold ta_Ro ty_R
  by_cases z : (ty_P T).1.1 = 0
  · rw [if_pos z, if_pos z]
    have hv := ty_P_v hT z
    generalize (ty_P T).2 = U at hv ⊢
    refine ty_mn_same (fun e => ?_)
    have g := ta_sameK (T := T) (U := U) (lv := lv) U.2 [] 0 0 rfl hv.2.2.1 e
    have g : (e ∈ ta_kE T lv (ty_sn U) [] U.2 ∨ e ∈ (ta_kQ lv (ty_sn U) 0 0 U.2).flatMap (ta_qe T U lv)) ↔ (e ∈ ty_dupK T (ty_sn U) (ty_kn U) (ty_kn U) 0 ∨ e ∈ tz_kE T U 0 0 U.2) := g
    have s : ty_dup T (ty_sn U) (ty_sn U) 0 = ta_se T [] U.1 := ta_se_dup (T := T) U.1 []
    unfold ta_me tz_E
    rw [s, List.mem_append, List.mem_append, List.mem_append, List.mem_append, g]
  · rw [if_neg z, if_neg z]
end TBW
