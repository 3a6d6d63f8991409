/-! the law's own setting: what it answers and leaves -/
def rv_v (C : Nat) (i : Int32) (σ : rx_St) : Int32 := if 0 ≤ i ∧ i < σ.1 C 0 then 0 else 1
def rv_o (C : Nat) (i : Int32) (σ : rx_St) : rx_St := if 0 ≤ i ∧ i < σ.1 C 0 then rx_sl σ 161 0 (σ.1 39 i.toNatClampNeg).toInt64 else σ
def rv_rm : Room := { frames := rx_fr 130 + 1, cells := 1, slots := 6, locals := 8 + (2 + 11) + rx_lo 130 }
def rv_ws : List Cond := Cond.codeWith method_3 method_3_code 4 (some .int) [(0, 9, 12, 13)] :: rx_TS
set_option maxRecDepth 100000 in
theorem rv_cw : Cond.codeWith method_3 method_3_code 4 (some .int) [(0, 9, 12, 13)] ∈ rx_TS := rx_w_in (i := 1299) (by decide +kernel)
theorem rv_wsg : GoodIn rx_TS rv_ws := by
  intro w hw
  have hm : w ∈ rx_TS := by
    rcases List.mem_cons.mp hw with rfl | hw
    · exact rv_cw
    · exact hw
  exact ⟨hm, rx_TS_good hm⟩
set_option maxRecDepth 100000 in
set_option maxHeartbeats 8000000 in
theorem rv_law_0 {l : Launch} {D : va_G} {tc : Nat → ClassId} {ad : Nat → Nat} {sz : Nat} {P : List Nat} {σ : rx_St} {i : Int32} {q : Nat} (hP0 : P[0]? = some 7) (hi6 : 0 ≤ i ∧ i < σ.1 7 0 → vp_in i 6) :
    Met l method_3 rv_ws rv_rm (va_Pc ([.ref (ad 0), .int i, .ref (ad 161)]) (fun U => rv_B D tc ad sz (rx_D P σ) U ∧ rv_E l q (va_A (rx_W tc ad (rx_D P σ)) sz) U U.heap))
      (fun _ st oc t => oc = .returned (some (.int (rv_v 7 i σ))) ∧ (∃ ad', rx_ag 162 ad ad' ∧ va_P D rx_cl (rx_W tc ad' (rx_D P (rv_o 7 i σ))) t.heap ∧ va_D (va_A (rx_W tc ad (rx_D P σ)) sz) (rx_W tc ad' (rx_D P (rv_o 7 i σ)))) ∧ va_F (va_A (rx_W tc ad (rx_D P σ)) sz) st t) 1 6 (va_A (rx_W tc ad (rx_D P σ)) sz) := by
  refine va_MetW (cc := method_3_code) (maxL := 4) (ret := some .int) (hh := [(0, 9, 12, 13)]) (by decide +kernel) rfl ?_
  intro p e s m args' below meth c s₁ B hml hv
  obtain ⟨rfl, ⟨hsz, hP, hK, hD0, hnw, hstr⟩, hE⟩ := hv
  subst hsz
  have hts : ∀ w ∈ rx_TS, w.before ([.ref (ad 0), .int i, .ref (ad 161)] : List Value).toArray s = true := fun w hw => atoms_spec (ws := rv_ws) B.pre w (List.mem_cons_of_mem _ hw)
  have hown : s.vm.findClass "MadeTownLaw" = some m.cls := findClass_of_methodNamed B.named
  have hlocks := B.notSynchronized
  have hx := B.exec
  have hb := B.bytes
  have hD := hD0.self (sz := s.heap.size)
  have hl := lv_entry ([.ref (ad 0), .int i, .ref (ad 161)] : List Value) (n := 4) (Nat.le_of_ble_eq_true rfl)
  rw [lg_entry_eq]
  have hr := B.returns
  have htab := vx_table (x := method_3) B (hts _ rv_cw)
  have hS : va_S (va_A (rx_W tc ad (rx_D P σ)) s.heap.size) s.heap s.heap [] := va_S.rf
  generalize ((lg_sl ([.ref (ad 0), .int i, .ref (ad 161)] : List Value) ++ List.replicate (4 - (lg_sl ([.ref (ad 0), .int i, .ref (ad 161)] : List Value)).length) Slot.unset).toArray) = ls at hl ⊢
  refine lv_aload_n hx hb (by decide +kernel : decode method_3_code 0 = .ok (.aload_n 2, 1)) rfl (lv_at hl 2 rfl) ?_
  refine lv_iconst (v := 0) hx hb (by decide +kernel : decode method_3_code 1 = .ok (.iconst 0, 1)) (by decide) ?_
  refine lv_aload_n hx hb (by decide +kernel : decode method_3_code 2 = .ok (.aload_n 0, 1)) rfl (lv_at hl 0 rfl) ?_
  refine lv_iload_n hx hb (by decide +kernel : decode method_3_code 3 = .ok (.iload_n 1, 1)) rfl (lv_at hl 1 rfl) ?_
  obtain ⟨M1, M2, M3, M4, M5⟩ := rx_M (a := 130) (by decide)
  have k4 : rx_sta 130 = false := by decide +kernel
  obtain ⟨z2, fs2, hcell⟩ := rx_isobj_spec (tc := tc) (ad := ad) (X := rx_D P σ) (k := 0) (b := 11) rfl
  have hrecv := va_recv (q0 := 0) hK hP (rx_cl_get (a := 11) (by decide)) (by rw [rx_W_get tc ad (rx_D P σ) z2, hcell])
  refine vx_calli (vx_runV (Ts := rx_TS) (As := [.int i]) (rest := [.int 0, .ref (ad 161)]) ⟨hx, hb, hml, hown, hts⟩ (rv_setting_0 (l := l) (D := D) (tc := tc) (ad := ad) (sz := s.heap.size) (q := q) hP0 hi6) (cwV (C := (rx_y 130).cls) 1 hts (by
      unfold wsV
      refine rx_good_app (by decide) (fun w hw => ?_)
      simp only [List.mem_cons, List.not_mem_nil, or_false] at hw
      rcases hw with rfl | rfl | rfl | rfl
      · exact rx_w_in (i := 1301) (by decide +kernel)
      · exact (M5 k4).1
      · exact (M5 k4).2 (by decide +kernel)
      · exact M3) rfl rfl rfl ⟨rfl, M2⟩ ⟨Nat.le_refl _, Nat.le_refl _⟩)
    ⟨fun a U g mk qq => ?_, hrecv, fun U hU hW => ⟨rfl, ⟨by rw [hU], by rw [hU]; exact hP, va_K.moved hW.alike hK, hD.weaken (fun _ _ _ _ => trivial), fun z hz => va_Nw.warmM hW (hnw z hz), by rw [hU]; exact hstr.warm hW⟩, by rw [hU]; exact hE.warm hW⟩⟩ rfl rfl hl.1 rfl (lv_room (Nat.le_of_ble_eq_true rfl)) (by decide +kernel : decode method_3_code 4 = .ok (.invokevirtual 7, 3)) ⟨Nat.le_refl _, Nat.le_refl _⟩) hS (fun _ _ h => h) (fun _ h => h) (fun _ _ h => h)
    (fun E ce q9 ad' t H1 locs1 hth hal hpx hbx hsz1 hq1 hS1 hcell1 hcv hcl => ?_) (fun r ad' t H1 locs1 hth hal hpo hbo hsz1 hq1 hS1 => ?_)
  · obtain ⟨q0, ⟨q1, qP, qK, qD, qN, qS⟩, qE⟩ := qq
    exact ⟨q0, ⟨q1, qP, va_K.moved (u := U) (U := U.calling g mk a) (Vm.Alike.refl U.vm) qK, qD, fun z hz => va_Nw.same rfl rfl (qN z hz), qS.same rfl⟩, qE.same rfl⟩
  · obtain ⟨hn, hag⟩ := hpx
    obtain ⟨hEq, hP1, hD1⟩ := hbx
    subst hEq
    rw [hth] at hP1
    have e1 : rv_v 7 i σ = 1 := if_neg hn
    have e2 : rv_o 7 i σ = σ := if_neg hn
    rw [e1, e2]
    refine vx_catch (name := rv_nse) hown [] _ [] (htab.trans rfl) (fun z hz => nomatch hz) (by rfl) (by decide) (hts _ (rx_w_in (i := 1300) (by decide +kernel))) (va_Nw.use rfl hE.1.2.1) hcell1 hcv hcl ?_
    refine lv_astore_n hx hb (by decide +kernel : decode method_3_code 12 = .ok (.astore_n 3, 1)) rfl hl (by decide) rfl (fun ls2 hl2 => ?_)
    refine lv_iconst (v := 1) hx hb (by decide +kernel : decode method_3_code 13 = .ok (.iconst 1, 1)) (by decide) ?_
    exact W.iret hx hb (hr.trans rfl) (fun t ht _ => ⟨rfl, ⟨ad', hag, by rw [ht]; exact hP1, hD1⟩, hS1.F ht⟩) hS1.2.2 (by decide +kernel : decode method_3_code 14 = .ok (.ireturn, 1))
  · obtain ⟨⟨hin, hrv⟩, hag⟩ := hpo
    obtain ⟨hP1, hD1⟩ := hbo
    rw [hth] at hP1
    have e1 : rv_v 7 i σ = 0 := if_pos hin
    have e2 : rv_o 7 i σ = rx_sl σ 161 0 (σ.1 39 i.toNatClampNeg).toInt64 := if_pos hin
    rw [e1, e2]
    refine lv_i2l hx hb (by decide +kernel : decode method_3_code 7 = .ok (.i2l, 1)) rfl ?_
    obtain ⟨y3, e7, -, sl, z3⟩ := rx_arr_spec (tc := tc) (ad := ad') (X := rx_D P σ) (k := 161) (n := 1) (t := 2) rfl
    refine va_last hx hb hK hP1 hD1 hS1 161 1 (by rw [rx_W_get tc ad' _ y3, e7, hag 161 (Or.inl (by decide))]; rfl) rfl (show ¬ ((0 : Int32) < 0 ∨ 1 ≤ (0 : Int32).toNatClampNeg) by decide) (by decide +kernel : decode method_3_code 8 = .ok (.lastore, 1)) (fun H2 locs2 hP2 hD2 hS2 => ?_)
    have hset : (rx_W tc ad' (rx_D P σ)).set 161 (ad 161, .inl (tc 2, 1, .inr (.inl (vp_updL (σ.2 161) (0 : Int32).toNatClampNeg r.toInt64)))) = rx_W tc ad' (rx_asetl (rx_D P σ) 161 (0 : Int32) r.toInt64) := by
      rw [← hag 161 (Or.inl (by decide))]
      exact rx_W_set rfl y3 (by unfold rx_cell; rw [z3]; show Sum.inl (tc 2, 1, Sum.inr (Sum.inl ((rx_sl σ 161 (0 : Int32).toNatClampNeg r.toInt64).2 161))) = _; rw [rx_sl_2]) (fun j _ hj => rx_cell_congr rx_sl_1 (rx_sl_n hj) (fun _ _ _ _ _ _ => rfl))
    have hP2' : va_P D rx_cl (rx_W tc ad' (rx_asetl (rx_D P σ) 161 (0 : Int32) r.toInt64)) H2 := by rw [← hset]; exact hP2
    have hD2' : va_D (va_A (rx_W tc ad (rx_D P σ)) s.heap.size) (rx_W tc ad' (rx_asetl (rx_D P σ) 161 (0 : Int32) r.toInt64)) := by rw [← hset]; exact hD2
    subst hrv
    refine lv_goto (tgt := 15) hx hb (by decide +kernel : decode method_3_code 9 = .ok (.goto 6, 3)) (by decide) ?_
    refine lv_iconst (v := 0) hx hb (by decide +kernel : decode method_3_code 15 = .ok (.iconst 0, 1)) (by decide) ?_
    exact W.iret hx hb (hr.trans rfl) (fun t ht _ => ⟨rfl, ⟨ad', hag, by rw [ht]; exact hP2', hD2'⟩, hS2.F ht⟩) hS2.2.2 (by decide +kernel : decode method_3_code 16 = .ok (.ireturn, 1))
set_option maxRecDepth 100000 in
set_option maxHeartbeats 8000000 in
theorem rv_law_1 {l : Launch} {D : va_G} {tc : Nat → ClassId} {ad : Nat → Nat} {sz : Nat} {P : List Nat} {σ : rx_St} {i : Int32} {q : Nat} (hP0 : P[0]? = some 21) (hi6 : 0 ≤ i ∧ i < σ.1 21 0 → vp_in i 6) :
    Met l method_3 rv_ws rv_rm (va_Pc ([.ref (ad 0), .int i, .ref (ad 161)]) (fun U => rv_B D tc ad sz (rx_D P σ) U ∧ rv_E l q (va_A (rx_W tc ad (rx_D P σ)) sz) U U.heap))
      (fun _ st oc t => oc = .returned (some (.int (rv_v 21 i σ))) ∧ (∃ ad', rx_ag 162 ad ad' ∧ va_P D rx_cl (rx_W tc ad' (rx_D P (rv_o 21 i σ))) t.heap ∧ va_D (va_A (rx_W tc ad (rx_D P σ)) sz) (rx_W tc ad' (rx_D P (rv_o 21 i σ)))) ∧ va_F (va_A (rx_W tc ad (rx_D P σ)) sz) st t) 1 6 (va_A (rx_W tc ad (rx_D P σ)) sz) := by
  refine va_MetW (cc := method_3_code) (maxL := 4) (ret := some .int) (hh := [(0, 9, 12, 13)]) (by decide +kernel) rfl ?_
  intro p e s m args' below meth c s₁ B hml hv
  obtain ⟨rfl, ⟨hsz, hP, hK, hD0, hnw, hstr⟩, hE⟩ := hv
  subst hsz
  have hts : ∀ w ∈ rx_TS, w.before ([.ref (ad 0), .int i, .ref (ad 161)] : List Value).toArray s = true := fun w hw => atoms_spec (ws := rv_ws) B.pre w (List.mem_cons_of_mem _ hw)
  have hown : s.vm.findClass "MadeTownLaw" = some m.cls := findClass_of_methodNamed B.named
  have hlocks := B.notSynchronized
  have hx := B.exec
  have hb := B.bytes
  have hD := hD0.self (sz := s.heap.size)
  have hl := lv_entry ([.ref (ad 0), .int i, .ref (ad 161)] : List Value) (n := 4) (Nat.le_of_ble_eq_true rfl)
  rw [lg_entry_eq]
  have hr := B.returns
  have htab := vx_table (x := method_3) B (hts _ rv_cw)
  have hS : va_S (va_A (rx_W tc ad (rx_D P σ)) s.heap.size) s.heap s.heap [] := va_S.rf
  generalize ((lg_sl ([.ref (ad 0), .int i, .ref (ad 161)] : List Value) ++ List.replicate (4 - (lg_sl ([.ref (ad 0), .int i, .ref (ad 161)] : List Value)).length) Slot.unset).toArray) = ls at hl ⊢
  refine lv_aload_n hx hb (by decide +kernel : decode method_3_code 0 = .ok (.aload_n 2, 1)) rfl (lv_at hl 2 rfl) ?_
  refine lv_iconst (v := 0) hx hb (by decide +kernel : decode method_3_code 1 = .ok (.iconst 0, 1)) (by decide) ?_
  refine lv_aload_n hx hb (by decide +kernel : decode method_3_code 2 = .ok (.aload_n 0, 1)) rfl (lv_at hl 0 rfl) ?_
  refine lv_iload_n hx hb (by decide +kernel : decode method_3_code 3 = .ok (.iload_n 1, 1)) rfl (lv_at hl 1 rfl) ?_
  obtain ⟨M1, M2, M3, M4, M5⟩ := rx_M (a := 130) (by decide)
  have k4 : rx_sta 130 = false := by decide +kernel
  obtain ⟨z2, fs2, hcell⟩ := rx_isobj_spec (tc := tc) (ad := ad) (X := rx_D P σ) (k := 0) (b := 11) rfl
  have hrecv := va_recv (q0 := 0) hK hP (rx_cl_get (a := 11) (by decide)) (by rw [rx_W_get tc ad (rx_D P σ) z2, hcell])
  refine vx_calli (vx_runV (Ts := rx_TS) (As := [.int i]) (rest := [.int 0, .ref (ad 161)]) ⟨hx, hb, hml, hown, hts⟩ (rv_setting_1 (l := l) (D := D) (tc := tc) (ad := ad) (sz := s.heap.size) (q := q) hP0 hi6) (cwV (C := (rx_y 130).cls) 1 hts (by
      unfold wsV
      refine rx_good_app (by decide) (fun w hw => ?_)
      simp only [List.mem_cons, List.not_mem_nil, or_false] at hw
      rcases hw with rfl | rfl | rfl | rfl
      · exact rx_w_in (i := 1301) (by decide +kernel)
      · exact (M5 k4).1
      · exact (M5 k4).2 (by decide +kernel)
      · exact M3) rfl rfl rfl ⟨rfl, M2⟩ ⟨Nat.le_refl _, Nat.le_refl _⟩)
    ⟨fun a U g mk qq => ?_, hrecv, fun U hU hW => ⟨rfl, ⟨by rw [hU], by rw [hU]; exact hP, va_K.moved hW.alike hK, hD.weaken (fun _ _ _ _ => trivial), fun z hz => va_Nw.warmM hW (hnw z hz), by rw [hU]; exact hstr.warm hW⟩, by rw [hU]; exact hE.warm hW⟩⟩ rfl rfl hl.1 rfl (lv_room (Nat.le_of_ble_eq_true rfl)) (by decide +kernel : decode method_3_code 4 = .ok (.invokevirtual 7, 3)) ⟨Nat.le_refl _, Nat.le_refl _⟩) hS (fun _ _ h => h) (fun _ h => h) (fun _ _ h => h)
    (fun E ce q9 ad' t H1 locs1 hth hal hpx hbx hsz1 hq1 hS1 hcell1 hcv hcl => ?_) (fun r ad' t H1 locs1 hth hal hpo hbo hsz1 hq1 hS1 => ?_)
  · obtain ⟨q0, ⟨q1, qP, qK, qD, qN, qS⟩, qE⟩ := qq
    exact ⟨q0, ⟨q1, qP, va_K.moved (u := U) (U := U.calling g mk a) (Vm.Alike.refl U.vm) qK, qD, fun z hz => va_Nw.same rfl rfl (qN z hz), qS.same rfl⟩, qE.same rfl⟩
  · obtain ⟨hn, hag⟩ := hpx
    obtain ⟨hEq, hP1, hD1⟩ := hbx
    subst hEq
    rw [hth] at hP1
    have e1 : rv_v 21 i σ = 1 := if_neg hn
    have e2 : rv_o 21 i σ = σ := if_neg hn
    rw [e1, e2]
    refine vx_catch (name := rv_nse) hown [] _ [] (htab.trans rfl) (fun z hz => nomatch hz) (by rfl) (by decide) (hts _ (rx_w_in (i := 1300) (by decide +kernel))) (va_Nw.use rfl hE.1.2.1) hcell1 hcv hcl ?_
    refine lv_astore_n hx hb (by decide +kernel : decode method_3_code 12 = .ok (.astore_n 3, 1)) rfl hl (by decide) rfl (fun ls2 hl2 => ?_)
    refine lv_iconst (v := 1) hx hb (by decide +kernel : decode method_3_code 13 = .ok (.iconst 1, 1)) (by decide) ?_
    exact W.iret hx hb (hr.trans rfl) (fun t ht _ => ⟨rfl, ⟨ad', hag, by rw [ht]; exact hP1, hD1⟩, hS1.F ht⟩) hS1.2.2 (by decide +kernel : decode method_3_code 14 = .ok (.ireturn, 1))
  · obtain ⟨⟨hin, hrv⟩, hag⟩ := hpo
    obtain ⟨hP1, hD1⟩ := hbo
    rw [hth] at hP1
    have e1 : rv_v 21 i σ = 0 := if_pos hin
    have e2 : rv_o 21 i σ = rx_sl σ 161 0 (σ.1 39 i.toNatClampNeg).toInt64 := if_pos hin
    rw [e1, e2]
    refine lv_i2l hx hb (by decide +kernel : decode method_3_code 7 = .ok (.i2l, 1)) rfl ?_
    obtain ⟨y3, e7, -, sl, z3⟩ := rx_arr_spec (tc := tc) (ad := ad') (X := rx_D P σ) (k := 161) (n := 1) (t := 2) rfl
    refine va_last hx hb hK hP1 hD1 hS1 161 1 (by rw [rx_W_get tc ad' _ y3, e7, hag 161 (Or.inl (by decide))]; rfl) rfl (show ¬ ((0 : Int32) < 0 ∨ 1 ≤ (0 : Int32).toNatClampNeg) by decide) (by decide +kernel : decode method_3_code 8 = .ok (.lastore, 1)) (fun H2 locs2 hP2 hD2 hS2 => ?_)
    have hset : (rx_W tc ad' (rx_D P σ)).set 161 (ad 161, .inl (tc 2, 1, .inr (.inl (vp_updL (σ.2 161) (0 : Int32).toNatClampNeg r.toInt64)))) = rx_W tc ad' (rx_asetl (rx_D P σ) 161 (0 : Int32) r.toInt64) := by
      rw [← hag 161 (Or.inl (by decide))]
      exact rx_W_set rfl y3 (by unfold rx_cell; rw [z3]; show Sum.inl (tc 2, 1, Sum.inr (Sum.inl ((rx_sl σ 161 (0 : Int32).toNatClampNeg r.toInt64).2 161))) = _; rw [rx_sl_2]) (fun j _ hj => rx_cell_congr rx_sl_1 (rx_sl_n hj) (fun _ _ _ _ _ _ => rfl))
    have hP2' : va_P D rx_cl (rx_W tc ad' (rx_asetl (rx_D P σ) 161 (0 : Int32) r.toInt64)) H2 := by rw [← hset]; exact hP2
    have hD2' : va_D (va_A (rx_W tc ad (rx_D P σ)) s.heap.size) (rx_W tc ad' (rx_asetl (rx_D P σ) 161 (0 : Int32) r.toInt64)) := by rw [← hset]; exact hD2
    subst hrv
    refine lv_goto (tgt := 15) hx hb (by decide +kernel : decode method_3_code 9 = .ok (.goto 6, 3)) (by decide) ?_
    refine lv_iconst (v := 0) hx hb (by decide +kernel : decode method_3_code 15 = .ok (.iconst 0, 1)) (by decide) ?_
    exact W.iret hx hb (hr.trans rfl) (fun t ht _ => ⟨rfl, ⟨ad', hag, by rw [ht]; exact hP2', hD2'⟩, hS2.F ht⟩) hS2.2.2 (by decide +kernel : decode method_3_code 16 = .ok (.ireturn, 1))
/-! the law's step at its own setting -/
def rv_S (L : Nat) (xs : Nat → Int32) : rx_S := some (L, xs, fun l _ s A H0 => ∃ q, rv_E l q A s H0)
set_option maxRecDepth 100000 in
theorem rv_mem {i : rx_I} (h : i ∈ rx_code 263) (hs : rx_spec i = true) : i = (337, .invokestatic 42, 3, 9003, 0, 0, 0, [], 1297) := by
  have h2 : i ∈ (rx_code 263).filter rx_spec := List.mem_filter.mpr ⟨h, hs⟩
  rw [show (rx_code 263).filter rx_spec = [(337, .invokestatic 42, 3, 9003, 0, 0, 0, [], 1297)] from rfl] at h2
  simp only [List.mem_cons, List.not_mem_nil, or_false] at h2
  exact h2
theorem rv_step {K : rx_KT} {out : rx_O} {is : List rx_I} {L : rx_L} {st : List Value} {X : rx_X} (h : rx_stepX K out is L st X 9003) : ∃ (i : Int32) (st' : List Value) (c s : Nat) (P : List Nat) (σ : rx_St) (C : Nat), st = .ref 161 :: .int i :: .ref 0 :: st' ∧ X = (162, c, s, [], P, σ) ∧ (rx_cat st' = true ∧ rx_olds 162 L st' = true) ∧ (c + 1 ≤ out.2.2.1 ∧ s + 6 ≤ out.2.2.2.1) ∧ P[0]? = some C ∧ (C = 7 ∨ C = 21) ∧ (0 ≤ i ∧ i < σ.1 C 0 → vp_in i 6) ∧ K is L (.int (rv_v C i σ) :: st') (162, c + 1, s + 6, [], P, rv_o C i σ) := by
  unfold rx_stepX at h
  split at h
  · rename_i e1; cases e1
  · rename_i e1; cases e1
  · rename_i e1; cases e1
  · rename_i i st' c s P σ e1
    obtain ⟨h1, ⟨h2, h3⟩, h4, h5⟩ := rx_cond_t h
    rw [Bool.and_eq_true] at h1
    have hP : P[0]? = some (P.getD 0 0) := by
      cases P with
      | nil => rcases h3 with h | h <;> cases h
      | cons x P => rfl
    refine ⟨i, st', c, s, P, σ, P.getD 0 0, rfl, rfl, h1, h2, hP, h3, fun z => (h4 z).1, ?_⟩
    unfold rv_v rv_o
    by_cases hc : 0 ≤ i ∧ i < σ.1 (P.getD 0 0) 0
    · rw [if_pos hc, if_pos hc]; exact (h4 hc).2
    · rw [if_neg hc, if_neg hc]; exact h5 hc
  · exact h.elim
set_option maxRecDepth 100000 in
set_option maxHeartbeats 8000000 in
theorem rx_e263 (L0 : Nat) (xs : Nat → Int32) : rx_Ext (rv_S L0 xs) 263 := by
  intro K out hK hK0 i is L st X hpre hsp h
  obtain ⟨pre, hpre⟩ := hpre
  have hmem : i ∈ rx_code 263 := by rw [hpre]; exact List.mem_append_right _ List.mem_cons_self
  have hn : is = [] ∨ rx_pc is = i.1 + i.2.2.1 := rx_chain_next (i := i) (rx_chain_app (a := pre) (by rw [← hpre]; exact (rx_okI (by decide)).1))
  have hs2 : ∃ pre, rx_code 263 = pre ++ is := ⟨pre ++ [i], by rw [hpre, List.append_assoc]; rfl⟩
  have h4 := rv_mem hmem hsp
  have hi := (rx_okI (mi := 263) (by decide)).2 _ hmem
  clear hmem hpre hsp
  subst h4
  intro p l e R s m args below meth c D tc ad H0 A Q H locs ls cx hc hP hD hS hl hr
  obtain ⟨hx, hb, hml, ho, hts, hnw, hk, hfl, hA, hin, hstr, hsc⟩ := id cx
  have hd9 : decode (rx_b 263) 337 = .ok (.invokestatic 42, 3) := of_decide_eq_true (Bool.and_eq_true_iff.mp hi).1
  obtain ⟨iv, st', c0, s0, P, σ, C, rfl, rfl, ⟨hcat, hol⟩, hc0, hP0, hC, hi6, hk'⟩ := rv_step h
  obtain ⟨q, hE0⟩ : ∃ q, rv_E l q A s H0 := hsc.2
  have hFree : ∀ z, va_A (rx_W tc ad (162, 0, 0, [], P, σ)) H.size z → A z := by
    intro z hz
    rcases hz with ⟨k, e1, h1⟩ | h1
    · exact hD.2 k (z, e1) h1
    · exact hA z (Nat.le_trans hS.1 h1)
  have hM : Met l method_3 rv_ws rv_rm (va_Pc ([.ref (ad 0), .int iv, .ref (ad 161)]) (fun U => rv_B D tc ad H.size (rx_D P σ) U ∧ rv_E l q (va_A (rx_W tc ad (rx_D P σ)) H.size) U U.heap))
      (fun _ st oc t => oc = .returned (some (.int (rv_v C iv σ))) ∧ (∃ ad', rx_ag 162 ad ad' ∧ va_P D rx_cl (rx_W tc ad' (rx_D P (rv_o C iv σ))) t.heap ∧ va_D (va_A (rx_W tc ad (rx_D P σ)) H.size) (rx_W tc ad' (rx_D P (rv_o C iv σ)))) ∧ va_F (va_A (rx_W tc ad (rx_D P σ)) H.size) st t) 1 6 (va_A (rx_W tc ad (rx_D P σ)) H.size) := by
    rcases hC with rfl | rfl
    · exact rv_law_0 hP0 hi6
    · exact rv_law_1 hP0 hi6
  refine rx_run_go (vx_runSW (Ts := rx_TS) (As := [.ref (ad 0), .int iv, .ref (ad 161)]) (rest := st'.map (rx_conc ad)) (hh := [(0, 9, 12, 13)]) ⟨hx, hb, hml, ho, hts⟩ hM (vx_cwSW 3 hts (by
      unfold va_wsS
      intro w hw
      rcases List.mem_append.mp hw with hw | hw
      · have hm : w ∈ rx_TS := by
          simp only [List.mem_cons, List.not_mem_nil, or_false] at hw
          rcases hw with rfl | rfl | rfl
          · exact rx_w_in (i := 1297) (by decide +kernel)
          · exact rx_w_in (i := 1298) (by decide +kernel)
          · exact rx_w_in (i := 109) (by decide +kernel)
        exact ⟨hm, rx_TS_good hm⟩
      · exact rv_wsg w hw) rfl rfl rfl (by decide +kernel) ⟨Nat.le_trans (by decide +kernel) hfl.1, Nat.le_trans (by decide +kernel) hfl.2⟩)
    ⟨fun a U g mk qq => ?_, fun U hU hW => ⟨rfl, ⟨by rw [hU], by rw [hU]; exact hP, va_K.moved hW.alike hk, hD.weaken (fun _ _ _ _ => trivial), fun z hz => va_Nw.warmM hW (hnw z hz), by rw [hU]; exact ((hstr.kept hS.2.1).narrow hFree).warm hW⟩, by rw [hU]; exact ((hE0.kept hS.2.1).narrow hFree).warm hW⟩⟩ rfl rfl hl.1 rfl (lv_room (by rw [rx_cat_map]; exact Nat.le_of_ble_eq_true hcat)) hd9 ⟨Nat.le_trans hc0.1 hc.1, Nat.le_trans hc0.2 hc.2⟩) (fun v st₀ t H' Ls h0 ht hLs hq => ?_)
  · obtain ⟨q0, ⟨q1, qP, qK, qD, qN, qS⟩, qE⟩ := qq
    exact ⟨q0, ⟨q1, qP, va_K.moved (u := U) (U := U.calling g mk a) (Vm.Alike.refl U.vm) qK, qD, fun z hz => va_Nw.same rfl rfl (qN z hz), qS.same rfl⟩, qE.same rfl⟩
  · obtain ⟨hv, ⟨ad', hag, hP', hD'⟩, hF⟩ := hq
    cases hv
    rw [ht] at hP'
    have hHF : st₀.heap.size ≤ t.heap.size ∧ ∀ q : Nat, q < st₀.heap.size → ¬ va_A (rx_W tc ad (rx_D P σ)) H.size q → t.heap[q]? = st₀.heap[q]? := hF
    rw [h0, ht] at hHF
    have hS' : va_S A H0 H' (locs ++ Ls) := by
      refine ⟨Nat.le_trans hS.1 hHF.1, fun q h1 h2 => ?_, fun q hq => ?_⟩
      · rw [hHF.2 q (Nat.lt_of_lt_of_le h1 hS.1) (fun z => h2 (hFree q z))]
        exact hS.2.1 q h1 h2
      · rcases List.mem_append.mp hq with h | h
        · exact hS.2.2 q h
        · exact hFree _ (hLs q h)
    obtain ⟨o1, o2⟩ := rx_olds_ag hag hol
    have := hK is L (.int (rv_v C iv σ) :: st') _ hk' hs2 p l e R s m args below meth c D tc ad' H0 A Q H' (locs ++ Ls) ls (rx_Cx_ag hag cx) hc hP' (hD'.weaken (fun _ q _ h => hFree q.1 h)) hS' (by rw [o1]; exact hl) (fun H2 locs2 ad2 ls2 pc2 g1 g2 g3 g4 g5 g6 => hr H2 locs2 ad2 ls2 pc2 (fun q hq => (g1 q hq).trans (hag q hq)) g2 g3 g4 g5 g6)
    rw [(hn.resolve_left (fun e => hK0 _ _ _ (e ▸ hk'))), List.map_cons, o2] at this
    exact this
