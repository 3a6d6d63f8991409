/-! THE WORLD in the model's rows: LITS, WISHES, RULES, KINDS -/
section TBYE
variable {T : List tw_Tk} {U : ty_Wo} {lv k : Nat} {K : ty_Ki} {σ : rx_St}
theorem ta_Mlits (h : ta_mr lv T U σ) (hl : lv ≤ 1) (hK : U.2[k]? = some K) : ∀ (ls : List ty_Lf) (b : Bool) (p a : Nat), (∀ l ∈ ls, ty_vL T l.2) → (∀ l ∈ ls, ∀ x, x ∈ l.2.2.2.1 ∨ x ∈ l.2.2.2.2 → tz_ev T U k (tz_uc x) = []) → ta_at (ta_al lv (ty_sn U) 0 U.2) p ((ta_lop ls).map (fun x => (ta_X1 lv (ty_sn U) k K, x))) → ta_at (ta_kL 0 U.2) a (ta_lrs p b ls) → p + (ta_lop ls).length ≤ 500 → tm_lits σ (250 * lv + a) (ta_Wls T U k b ls)
  | [], _, _, _, _, _, _, _, _ => trivial
  | l :: ls, b, p, a, hv, hc, ho, hL, hp => by
    obtain ⟨v1, v2, v3⟩ := hv l (List.mem_cons_self ..)
    have c1 := hc l (List.mem_cons_self ..)
    have e : ta_lop (l :: ls) = (l.2.2.2.1 ++ l.2.2.2.2) ++ ta_lop ls := rfl
    rw [e, List.map_append, List.map_append] at ho
    rw [e, List.length_append, List.length_append] at hp
    have o1 := ho.l.l
    have o2 := ho.l.r
    have o3 := ho.r
    rw [List.length_map] at o2
    rw [List.length_append, List.length_map, List.length_map, ← Nat.add_assoc] at o3
    rw [ta_lrs] at hL
    obtain ⟨r1, r2, r3, r4, r5, r6⟩ := h.2.2.2.2.1 a _ hL.hd
    have m1 := ta_Mcode h hK l.2.2.2.1 p v2 (fun x hx => c1 x (Or.inl hx)) o1
    have m2 := ta_Mcode h hK l.2.2.2.2 _ v3 (fun x hx => c1 x (Or.inr hx)) o2
    rw [← Nat.add_assoc] at m2
    have n1 : (l.2.2.2.1.map (ta_Wp T U k)).length = l.2.2.2.1.length := List.length_map _
    have n2 : (l.2.2.2.2.map (ta_Wp T U k)).length = l.2.2.2.2.length := List.length_map _
    rw [ta_Wls]
    refine ⟨⟨⟨r1, r2, r3⟩, 700 * lv + p, r4, ?_, ?_, m1, ?_, ?_⟩, ?_⟩
    · show _ = nI (700 * lv + p + (l.2.2.2.1.map (ta_Wp T U k)).length)
      rw [n1, Nat.add_assoc]
      exact r5
    · show _ = nI (700 * lv + p + (l.2.2.2.1.map (ta_Wp T U k)).length + (l.2.2.2.2.map (ta_Wp T U k)).length)
      rw [n1, n2, Nat.add_assoc, Nat.add_assoc, ← Nat.add_assoc p]
      exact r6
    · show tm_code σ (700 * lv + p + (l.2.2.2.1.map (ta_Wp T U k)).length) (l.2.2.2.2.map (ta_Wp T U k))
      rw [n1]
      exact m2
    · show 700 * lv + p + (l.2.2.2.1.map (ta_Wp T U k)).length + (l.2.2.2.2.map (ta_Wp T U k)).length ≤ 1400
      rw [n1, n2]
      omega
    · have := ta_Mlits h hl hK ls false (p + l.2.2.2.1.length + l.2.2.2.2.length) (a + 1) (fun y hy => hv y (List.mem_cons_of_mem _ hy)) (fun y hy => hc y (List.mem_cons_of_mem _ hy)) o3 hL.tl (by omega)
      rw [← Nat.add_assoc] at this
      exact this
theorem ta_Mwis (h : ta_mr lv T U σ) (hl : lv ≤ 1) (hK : U.2[k]? = some K) {r : Nat} : ∀ (ws : List ty_Wi) (p j : Nat), (∀ w ∈ ws, ty_vW T w) → (∀ w ∈ ws, ty_dW w) → (∀ w ∈ ws, (∀ y ∈ w.2.2.2, tz_ev T U k (tz_uc y) = []) ∧ tz_ev T U k (tc_wop w.1, nI w.2.1, nI w.2.2.1) = []) → ta_at (ta_al lv (ty_sn U) 0 U.2) p ((ta_wop ws).map (fun x => (ta_X1 lv (ty_sn U) k K, x))) → p + (ta_wop ws).length ≤ 500 → (∀ (i : Nat) (x : ta_Wr), (ta_wrs T (ta_X1 lv (ty_sn U) k K) p ws)[i]? = some x → σ.1 108 (6 * r + (j + i)) = nI x.1 ∧ σ.1 109 (6 * r + (j + i)) = nI x.2.1 ∧ σ.1 112 (6 * r + (j + i)) = nI (700 * lv + x.2.2.1) ∧ σ.1 113 (6 * r + (j + i)) = nI (700 * lv + x.2.2.2)) → (∀ y ∈ ta_wqs (ta_X1 lv (ty_sn U) k K) r p j ws, ta_qr T U y σ) → tm_wishes σ (6 * r + j) (ws.map (ta_Ww T U k))
  | [], _, _, _, _, _, _, _, _, _ => trivial
  | w :: ws, p, j, hv, hd, hc, ho, hp, hr, hq => by
    have v1 := hv w (List.mem_cons_self ..)
    have d1 := hd w (List.mem_cons_self ..)
    obtain ⟨g1, g2⟩ := hc w (List.mem_cons_self ..)
    obtain ⟨fo1, fo2⟩ := ta_foundW v1 g2
    have ev : ty_vn U k = K.2.1.map (fun x => x.1) := by unfold ty_vn; rw [hK]
    have e : ta_wop (w :: ws) = w.2.2.2 ++ ta_wop ws := rfl
    rw [e, List.map_append] at ho
    rw [e, List.length_append] at hp
    have o2 := ho.r
    rw [List.length_map] at o2
    rw [ta_wrs] at hr
    obtain ⟨r1, r2, r3, r4⟩ := hr 0 _ rfl
    rw [Nat.add_zero] at r1 r2 r3 r4
    have m1 := ta_Mcode h hK w.2.2.2 p v1.2.1 g1 ho.l
    have n1 : (w.2.2.2.map (ta_Wp T U k)).length = w.2.2.2.length := List.length_map _
    rw [List.map_cons]
    refine ⟨⟨r1, fun z => ?_, fun z => ?_, fun z => ⟨700 * lv + p, r3, ?_, m1, ?_⟩⟩, ?_⟩
    · rw [r2]
      have e2 : ta_wv T (ta_X1 lv (ty_sn U) k K) w = (ty_fi T (ty_Lt T w.2.1) (K.2.1.map (fun x => x.1)) 0).getD 0 := if_pos z
      rw [e2, ← ev]
      rfl
    · have z : w.1 = 2 ∨ w.1 = 3 := z
      obtain ⟨o, u, h1, h2⟩ := fo2 z
      have my : ((2, 6 * r + j, 5 * lv + k, w.2.2.1, w.2.1) : ta_Qu) ∈ ta_wqs (ta_X1 lv (ty_sn U) k K) r p j (w :: ws) := by
        rw [ta_wqs]
        refine List.mem_append_left _ ?_
        unfold ta_wq
        refine List.mem_append_right _ ?_
        rw [if_pos z]
        exact List.mem_cons_self ..
      have g := (hq _ my o u h1 h2).1 rfl
      show _ = nI ((ty_fi T (ty_Lt T w.2.2.1) (ty_kn U) 0).getD 0) ∧ _ = nI ((ty_fi T (ty_Lt T w.2.1) (ty_vn U ((ty_fi T (ty_Lt T w.2.2.1) (ty_kn U) 0).getD 0)) 0).getD 0)
      rw [h1]
      show _ ∧ _ = nI ((ty_fi T (ty_Lt T w.2.1) (ty_vn U o) 0).getD 0)
      rw [h2]
      exact g
    · show _ = nI (700 * lv + p + (w.2.2.2.map (ta_Wp T U k)).length)
      rw [n1, Nat.add_assoc]
      exact r4
    · show 700 * lv + p + (w.2.2.2.map (ta_Wp T U k)).length ≤ 1400
      rw [n1]
      omega
    · have := ta_Mwis h hl hK (r := r) ws (p + w.2.2.2.length) (j + 1) (fun y hy => hv y (List.mem_cons_of_mem _ hy)) (fun y hy => hd y (List.mem_cons_of_mem _ hy)) (fun y hy => hc y (List.mem_cons_of_mem _ hy)) o2 (by omega) (fun i x hx => by
        have := hr (i + 1) x hx
        rw [show j + 1 + i = j + (i + 1) by omega]
        exact this) (fun y hy => hq y (by
        rw [ta_wqs]
        exact List.mem_append_right _ hy))
      rw [← Nat.add_assoc] at this
      exact this
theorem ta_Mrs (h : ta_mr lv T U σ) (hl : lv ≤ 1) (hK : U.2[k]? = some K) : ∀ (rs : List ty_Ru) (i p a : Nat), (∀ r ∈ rs, ty_vR T r ∧ ty_dR r ∧ ta_cR T U k r) → ta_at (ta_al lv (ty_sn U) 0 U.2) p ((ta_rops rs).map (fun x => (ta_X1 lv (ty_sn U) k K, x))) → ta_at (ta_kL 0 U.2) a (ta_rls p rs) → p + (ta_rops rs).length ≤ 500 → a + (ta_rls p rs).length ≤ 250 → ta_rrs T (ta_X1 lv (ty_sn U) k K) σ i p a rs → (∀ y ∈ ta_rqs (ta_X1 lv (ty_sn U) k K) p i rs, ta_qr T U y σ) → tm_rules σ (8 * (5 * lv + k) + i) (rs.map (ta_Wu T U k))
  | [], _, _, _, _, _, _, _, _, _, _ => trivial
  | r :: rs, i, p, a, hv, ho, hL, hp, hA, hr, hq => by
    obtain ⟨v1, v2, v3⟩ := hv r (List.mem_cons_self ..)
    have e : ta_rops (r :: rs) = (ta_lop r.1 ++ ta_wop r.2) ++ ta_rops rs := rfl
    have er : ta_rop r = ta_lop r.1 ++ ta_wop r.2 := rfl
    rw [e, List.map_append, List.map_append] at ho
    rw [e, List.length_append, List.length_append] at hp
    have o2 := ho.l.r
    have o3 := ho.r
    rw [List.length_map] at o2
    rw [List.length_append, List.length_map, List.length_map] at o3
    rw [ta_rls] at hL hA
    rw [List.length_append, ta_lrs_len] at hA
    have L2 := hL.r
    rw [ta_lrs_len] at L2
    obtain ⟨⟨q1, q2, q3, q4⟩, q5⟩ := hr
    have q1 : σ.1 105 (8 * (5 * lv + k) + i) = nI (250 * lv + a) := q1
    have q2 : σ.1 106 (8 * (5 * lv + k) + i) = nI (250 * lv + (a + r.1.length)) := q2
    have q3 : σ.1 107 (8 * (5 * lv + k) + i) = nI (ta_wrs T (ta_X1 lv (ty_sn U) k K) (p + (ta_lop r.1).length) r.2).length := q3
    rw [ta_rqs] at hq
    have wl : (ta_Wls T U k true r.1).length = r.1.length := ta_Wls_len T U k r.1 true
    rw [List.map_cons]
    refine ⟨⟨⟨250 * lv + a, q1, ?_, ?_, ?_⟩, ?_, ?_⟩, ?_⟩
    · show _ = nI (250 * lv + a + (ta_Wls T U k true r.1).length)
      rw [wl, Nat.add_assoc]
      exact q2
    · show 250 * lv + a + (ta_Wls T U k true r.1).length ≤ 500
      rw [wl]
      omega
    · exact ta_Mlits h hl hK r.1 true p a v1.1 v3.1 ho.l.l hL.l (by omega)
    · show _ = nI (r.2.map (ta_Ww T U k)).length
      rw [q3, ta_wrs_len, List.length_map]
    · have := ta_Mwis h hl hK (r := 8 * (5 * lv + k) + i) r.2 (p + (ta_lop r.1).length) 0 v1.2.1 v2.2 v3.2 o2 (by omega) (fun j x hx => by
        rw [Nat.zero_add]
        exact q4 j x hx) (fun y hy => hq y (List.mem_append_left _ (List.mem_append_right _ hy)))
      exact this
    · have := ta_Mrs h hl hK rs (i + 1) (p + (ta_rop r).length) (a + r.1.length) (fun y hy => hv y (List.mem_cons_of_mem _ hy)) (by rw [er, List.length_append]; exact o3) L2 (by rw [er, List.length_append]; omega) (by omega) q5 (fun y hy => hq y (List.mem_append_right _ hy))
      rw [← Nat.add_assoc] at this
      exact this
theorem ta_Mks (h : ta_mr lv T U σ) (hl : lv ≤ 1) : ∀ (Ks : List ty_Ki) (k0 p a : Nat), (∀ i K, Ks[i]? = some K → U.2[k0 + i]? = some K) → (∀ (i : Nat) (K : ty_Ki), Ks[i]? = some K → ∀ r ∈ K.2.2, ty_vR T r ∧ ty_dR r ∧ ta_cR T U (k0 + i) r) → ta_at (ta_al lv (ty_sn U) 0 U.2) p (ta_al lv (ty_sn U) k0 Ks) → ta_at (ta_kL 0 U.2) a (ta_kL p Ks) → p + ta_kz Ks ≤ 500 → a + (ta_kL p Ks).length ≤ 250 → ta_kr lv T (ty_sn U) σ k0 p a Ks → (∀ y ∈ ta_kQ lv (ty_sn U) k0 p Ks, ta_qr T U y σ) → ∀ (i : Nat) (K : ty_Ki), Ks[i]? = some K → tm_kindM σ (5 * lv + (k0 + i)) (ta_Wk T U (k0 + i) K)
  | [], _, _, _, _, _, _, _, _, _, _, _, i, K, h => by cases h
  | K0 :: Ks, k0, p, a, hU, hv, ho, hL, hp, hA, hr, hq, i, K, hK => by
    rw [ta_al] at ho
    rw [ta_kL] at hL hA
    rw [List.length_append] at hA
    rw [ta_kz] at hp
    rw [ta_kQ] at hq
    obtain ⟨⟨k1, k2, k3, -, -, k6⟩, k7⟩ := hr
    cases i with
    | zero =>
      cases hK
      have hU0 := hU 0 K0 rfl
      rw [Nat.add_zero] at hU0
      have hv0 := hv 0 K0 rfl
      rw [Nat.add_zero] at hv0 ⊢
      refine ⟨?_, fun v hvl => ?_, ?_, ?_⟩
      · show _ = nI (K0.2.1.map (tz_val T)).length
        rw [k1.1, List.length_map, List.length_map]
      · have hvl : v < (K0.2.1.map (tz_val T)).length := hvl
        rw [List.length_map] at hvl
        have hx : K0.2.1[v]? = some K0.2.1[v] := List.getElem?_eq_getElem hvl
        show _ = (K0.2.1.map (tz_val T)).getD v 0
        rw [(k2 v _ hx).1, List.getD_eq_getElem?_getD, List.getElem?_map, hx]
        rfl
      · show _ = nI (K0.2.2.map (ta_Wu T U k0)).length
        rw [k3, List.length_map]
      · exact ta_Mrs h hl hU0 K0.2.2 0 p a hv0 ho.l hL.l (by omega) (by omega) k6 (fun y hy => hq y (List.mem_append_left _ hy))
    | succ i =>
      have o2 := ho.r
      rw [List.length_map] at o2
      have := ta_Mks h hl Ks (k0 + 1) (p + (ta_rops K0.2.2).length) (a + (ta_rls p K0.2.2).length) (fun i K hK => by
        have := hU (i + 1) K hK
        rw [show k0 + 1 + i = k0 + (i + 1) by omega]
        exact this) (fun i K hK => by
        have := hv (i + 1) K hK
        rw [show k0 + 1 + i = k0 + (i + 1) by omega]
        exact this) o2 hL.r (by omega) (by omega) k7 (fun y hy => hq y (List.mem_append_right _ hy)) i K hK
      rw [show k0 + (i + 1) = k0 + 1 + i by omega]
      exact this
/-- THE WORLD, as the model has it -/
theorem ta_MW (hl : lv ≤ 1) (h18 : σ.1 87 18 = nI lv) (hU : ty_vP T U) (hd : ∀ K ∈ U.2, ty_dK K) (hE : tz_E T U = []) (h : ta_mr lv T U σ) : tm_MW (ta_Wo T U) lv σ := by
  obtain ⟨s1, s2, s3, s4, s5, s6, s7, s8, s9⟩ := id h
  refine ⟨hl, h18, ?_, fun i hi => ?_, ?_, fun k hk => ?_⟩
  · show _ = nI (U.1.map _).length
    rw [s1.1]
    unfold ty_sn
    rw [List.length_map, List.length_map]
  · have hi : i < (U.1.map (fun x => nI (ty_V T x.2))).length := hi
    rw [List.length_map] at hi
    have hx : U.1[i]? = some U.1[i] := List.getElem?_eq_getElem hi
    show _ = (U.1.map (fun x => nI (ty_V T x.2))).getD i 0
    rw [s2 i _ hx, List.getD_eq_getElem?_getD, List.getElem?_map, hx]
    rfl
  · rw [s3.1, ta_Wo_len]
    unfold ty_kn
    rw [List.length_map]
  · rw [ta_Wo_len] at hk
    have hK : U.2[k]? = some U.2[k] := List.getElem?_eq_getElem hk
    have g := ta_Mks h hl U.2 0 0 0 (fun i K hK => by rw [Nat.zero_add]; exact hK) (fun i K hK r hr => by
      have hm := List.mem_of_getElem? hK
      rw [Nat.zero_add]
      exact ⟨(hU.2.2.1 K hm).2.2.1 r hr, hd K hm r hr, ta_clean hE hK r hr⟩) (ta_at.rf _) (ta_at.rf _) (by omega) (by omega) s4 s7 k _ hK
    rw [Nat.zero_add] at g
    rw [ta_Wo_kind hK]
    exact g
end TBYE
