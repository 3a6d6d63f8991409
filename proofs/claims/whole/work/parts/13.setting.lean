/-! MadeTown.setting, which may throw; and the law's own setting, which catches that -/
def rv_nse : String := "java/util/NoSuchElementException"
/-- the words of the throw that a change of the machine's own notes doesn't keep by itself -/
def rv_nb : List Cond := [Cond.castable rv_nse rv_nse, Cond.declares (Bundle.initS "java/lang/RuntimeException"), Cond.declares (Bundle.initS "java/lang/Exception"), Cond.declares (Bundle.initS Bundle.tN)]
def rv_N (U : State) : Prop := va_Nw (Cond.castable rv_nse rv_nse) U ∧ va_Nw (Cond.declares (Bundle.initS "java/lang/RuntimeException")) U ∧ va_Nw (Cond.declares (Bundle.initS "java/lang/Exception")) U ∧ va_Nw (Cond.declares (Bundle.initS Bundle.tN)) U
theorem rv_N.warm {s U : State} (hW : s.WarmedH U.vm) (h : rv_N s) : rv_N U := ⟨va_Nw.warmC hW h.1, va_Nw.warmD hW h.2.1, va_Nw.warmD hW h.2.2.1, va_Nw.warmD hW h.2.2.2⟩
theorem rv_N.same {u U : State} (hv : U.vm = u.vm) (h : rv_N u) : rv_N U := ⟨va_Nw.same rfl hv.symm h.1, va_Nw.same rfl hv.symm h.2.1, va_Nw.same rfl hv.symm h.2.2.1, va_Nw.same rfl hv.symm h.2.2.2⟩
theorem rv_N.use {A : Array Value} {U : State} (h : rv_N U) : ∀ w ∈ rv_nb, w.before A U = true := by
  intro w hw
  unfold rv_nb at hw
  simp only [List.mem_cons, List.not_mem_nil, or_false] at hw
  rcases hw with rfl | rfl | rfl | rfl
  · exact va_Nw.use rfl h.1
  · exact va_Nw.use rfl h.2.1
  · exact va_Nw.use rfl h.2.2.1
  · exact va_Nw.use rfl h.2.2.2
def rv_E (l : Launch) (q : Nat) (A : Nat → Prop) (U : State) (H : Heap) : Prop := (l.stackTraces = false ∧ rv_N U) ∧ vk_R "MadeTown" 139 "no such SETTING" q U ∧ vx_Zq Bundle.tN "UNASSIGNED_STACK" Bundle.steD A U H ∧ vx_Zq Bundle.tN "SUPPRESSED_SENTINEL" Bundle.listD A U H
theorem rv_E.kept {l : Launch} {q : Nat} {A : Nat → Prop} {U : State} {H H1 : Heap} (h : rv_E l q A U H) (hq : ∀ a : Nat, a < H.size → ¬ A a → H1[a]? = H[a]?) : rv_E l q A U H1 := ⟨h.1, h.2.1, h.2.2.1.kept hq, h.2.2.2.kept hq⟩
theorem rv_E.narrow {l : Launch} {q : Nat} {A B : Nat → Prop} {U : State} {H : Heap} (h : rv_E l q A U H) (hAB : ∀ q, B q → A q) : rv_E l q B U H := ⟨h.1, h.2.1, h.2.2.1.narrow hAB, h.2.2.2.narrow hAB⟩
theorem rv_E.warm {l : Launch} {q : Nat} {A : Nat → Prop} {s U : State} {H : Heap} (hW : s.WarmedH U.vm) (h : rv_E l q A s H) : rv_E l q A U H := ⟨⟨h.1.1, h.1.2.warm hW⟩, vk_R.warm hW h.2.1, h.2.2.1.moved hW.alike, h.2.2.2.moved hW.alike⟩
theorem rv_E.same {l : Launch} {q : Nat} {A : Nat → Prop} {u U : State} {H : Heap} (hv : U.vm = u.vm) (h : rv_E l q A u H) : rv_E l q A U H := by
  have hal : u.vm.Alike U.vm := by rw [hv]; exact Vm.Alike.refl _
  exact ⟨⟨h.1.1, h.1.2.same hv⟩, vk_R.same hv h.2.1, h.2.2.1.moved hal, h.2.2.2.moved hal⟩
def rv_B (D : va_G) (tc : Nat → ClassId) (ad : Nat → Nat) (sz : Nat) (X : rx_X) (U : State) : Prop := U.heap.size = sz ∧ va_P D rx_cl (rx_W tc ad X) U.heap ∧ va_K D rx_cl (rx_tys tc) U ∧ va_D (fun _ => True) (rx_W tc ad X) ∧ rx_NW U ∧ rx_Str ad (va_A (rx_W tc ad X) sz) U U.heap
set_option maxRecDepth 100000 in
set_option maxHeartbeats 8000000 in
theorem rv_at : ∀ w ∈ rv_atS "MadeTown" 141 rv_nse "java/lang/RuntimeException" ["java/lang/Exception"], w ∈ lw_tbl := by decide +kernel
set_option maxRecDepth 100000 in
theorem rv_ot : ∀ w ∈ Cond.classLink "MadeTown" 137 rv_nse :: Cond.initialized rv_nse :: rv_atS "MadeTown" 141 rv_nse "java/lang/RuntimeException" ["java/lang/Exception"], vx_ot w = true := by decide +kernel
theorem rv_gw : ∀ w ∈ (rv_atS "MadeTown" 141 rv_nse "java/lang/RuntimeException" ["java/lang/Exception"]).filter (fun w => !goodWord w), w ∈ rv_nb := by decide +kernel
theorem rv_ts {args : Array Value} {s : State} (hts : ∀ w ∈ rx_TS, w.before args s = true) (hN : rv_N s) : ∀ w ∈ rv_atS "MadeTown" 141 rv_nse "java/lang/RuntimeException" ["java/lang/Exception"], w.before args s = true :=
  vx_hat (fun w hw => hts w (List.mem_filter.mpr ⟨rv_at w (List.mem_filter.mp hw).1, (List.mem_filter.mp hw).2⟩)) rv_gw hN.use
theorem rv_P {P : List Nat} {w : Nat} {σ : rx_St} (h : P[0]? = some w) : rx_slot (rx_D P σ) 0 11 3 = some (.ref w) := by
  show (match P[0]? with | some q => some (Value.ref q) | none => none) = _
  rw [h]
set_option maxRecDepth 100000 in
set_option maxHeartbeats 8000000 in
theorem rv_setting_0 {l : Launch} {D : va_G} {tc : Nat → ClassId} {ad : Nat → Nat} {sz : Nat} {P : List Nat} {σ : rx_St} {i : Int32} {q : Nat} (hP0 : P[0]? = some 7) (hi6 : 0 ≤ i ∧ i < σ.1 7 0 → vp_in i 6) :
    vx_Met l (rx_y 130) (rx_ws 130) (rx_rm 130 1 6) (va_Pc ([.ref (ad 0), .int i]) (fun U => rv_B D tc ad sz (rx_D P σ) U ∧ rv_E l q (va_A (rx_W tc ad (rx_D P σ)) sz) U U.heap))
      (va_Qi (fun r ad' => ((0 ≤ i ∧ i < σ.1 7 0) ∧ r = σ.1 39 i.toNatClampNeg) ∧ rx_ag 162 ad ad') (fun ad' t => va_P D rx_cl (rx_W tc ad' (rx_D P σ)) t.heap ∧ va_D (va_A (rx_W tc ad (rx_D P σ)) sz) (rx_W tc ad' (rx_D P σ))) (va_A (rx_W tc ad (rx_D P σ)) sz))
      (vx_X (fun ad' => ¬ (0 ≤ i ∧ i < σ.1 7 0) ∧ rx_ag 162 ad ad') (fun E ad' t => E = rv_nse ∧ va_P D rx_cl (rx_W tc ad' (rx_D P σ)) t.heap ∧ va_D (va_A (rx_W tc ad (rx_D P σ)) sz) (rx_W tc ad' (rx_D P σ))) (va_A (rx_W tc ad (rx_D P σ)) sz)) 1 6 (va_A (rx_W tc ad (rx_D P σ)) sz) := by
  refine vx_ofW (cc := rx_b 130) (maxL := 2) (ret := some .int) (by decide +kernel) rfl ?_
  intro p e s m args' below meth c s₁ B hml htab hv
  obtain ⟨rfl, ⟨hsz, hP, hK, hD0, hnw, hstr⟩, hE⟩ := hv
  subst hsz
  have hts : ∀ w ∈ rx_TS, w.before ([.ref (ad 0), .int i] : List Value).toArray s = true := fun w hw => atoms_spec (ws := rx_ws 130) B.pre w (List.mem_cons_of_mem _ hw)
  have hown : s.vm.findClass (rx_own 130) = some m.cls := findClass_of_methodNamed B.named
  have hlocks := B.notSynchronized
  have hx := B.exec
  have hb := B.bytes
  have hD := hD0.self (sz := s.heap.size)
  have hl := lv_entry ([.ref (ad 0), .int i] : List Value) (n := 2) (Nat.le_of_ble_eq_true rfl)
  rw [lg_entry_eq]
  have hr := B.returns
  have hS : va_S (va_A (rx_W tc ad (rx_D P σ)) s.heap.size) s.heap s.heap [] := va_S.rf
  generalize ((lg_sl ([.ref (ad 0), .int i] : List Value) ++ List.replicate (2 - (lg_sl ([.ref (ad 0), .int i] : List Value)).length) Slot.unset).toArray) = ls at hl ⊢
  refine lv_aload_n hx hb (by decide +kernel : decode (rx_b 130) 0 = .ok (.aload_n 0, 1)) rfl (lv_at hl 0 rfl) ?_
  obtain ⟨z1, fs, e1, e2⟩ := rx_slot_spec (tc := tc) (ad := ad) (rv_P (σ := σ) hP0)
  refine va_get (fs := fs) hx hb hts (rx_C (a := 11) (by decide)).1 hown hK hP 0 (by rw [rx_W_get tc ad _ z1, e1]) (rx_cl_get (a := 11) (by decide)) 3 (by decide +kernel) (hts _ (rx_w_in (i := 632) (by decide +kernel))) (fun _ h9 => h9) e2 (by decide +kernel : decode (rx_b 130) 1 = .ok (.getfield 19, 3)) ?_
  refine lv_iload_n hx hb (by decide +kernel : decode (rx_b 130) 4 = .ok (.iload_n 1, 1)) rfl (lv_at hl 1 rfl) ?_
  have hM := f_wor_hasSetting_ok_w0 (P := P) (a0 := i) (σ := σ) _ rfl l D tc ad s.heap.size
  obtain ⟨M1, M2, M3, M4, M5⟩ := rx_M (a := 114) (by decide)
  have k4 : rx_sta 114 = false := by decide +kernel
  obtain ⟨z2, fs2, hcell⟩ := rx_isobj_spec (tc := tc) (ad := ad) (X := rx_D P σ) (k := 7) (b := 10) rfl
  have hrecv := va_recv (q0 := 7) hK hP (rx_cl_get (a := 10) (by decide)) (by rw [rx_W_get tc ad (rx_D P σ) z2, hcell])
  refine rx_run_go (va_runV (Ts := rx_TS) (As := [.int i]) (rest := []) ⟨hx, hb, hml, hown, hts⟩ hM (cwV (C := (rx_y 114).cls) 1 hts (by
      unfold wsV
      refine rx_good_app (by decide) (fun w hw => ?_)
      simp only [List.mem_cons, List.not_mem_nil, or_false] at hw
      rcases hw with rfl | rfl | rfl | rfl
      · exact rx_w_in (i := 1246) (by decide +kernel)
      · exact (M5 k4).1
      · exact (M5 k4).2 (by decide +kernel)
      · exact M3) rfl rfl rfl ⟨rfl, M2⟩ (rx_room_inv (mi := 130) (by decide +kernel) ⟨Nat.le_refl _, Nat.le_refl _⟩))
    ⟨fun a U g mk qq => ?_, hrecv, fun U hU hW => ⟨rfl, by rw [hU], by rw [hU]; exact hP, va_K.moved hW.alike hK, hD.weaken (fun _ _ _ _ => trivial), fun z hz => va_Nw.warmM hW (hnw z hz), by rw [hU]; exact hstr.warm hW⟩⟩ rfl rfl hl.1 rfl (lv_room (Nat.le_of_ble_eq_true rfl)) (by decide +kernel : decode (rx_b 130) 5 = .ok (.invokevirtual 133, 3)) ⟨Nat.zero_le _, Nat.zero_le _⟩) (fun v st₀ t H' Ls h0 ht hLs hq => ?_)
  · obtain ⟨q0, q1, qP, qK, qD, qN, qS⟩ := qq
    exact ⟨q0, q1, qP, va_K.moved (u := U) (U := U.calling g mk a) (Vm.Alike.refl U.vm) qK, qD, fun z hz => va_Nw.same rfl rfl (qN z hz), qS.same rfl⟩
  obtain ⟨hv, ⟨ad', hag, hP', hD'⟩, hF⟩ := hq
  cases hv
  rw [ht] at hP'
  have hHF : st₀.heap.size ≤ t.heap.size ∧ ∀ q : Nat, q < st₀.heap.size → ¬ va_A (rx_W tc ad (rx_D P σ)) s.heap.size q → t.heap[q]? = st₀.heap[q]? := hF
  rw [h0, ht] at hHF
  have hS' : va_S (va_A (rx_W tc ad (rx_D P σ)) s.heap.size) s.heap H' ([] ++ Ls) := by
    refine ⟨hHF.1, hHF.2, fun q hq => ?_⟩
    rw [List.nil_append] at hq
    exact hLs q hq
  have hc0 : (0 ≤ i ∧ i < σ.1 7 0) ↔ ¬ f_wor_hasSetting 0 i σ = 0 := by
    unfold f_wor_hasSetting
    by_cases g1 : i < 0
    · rw [if_pos g1]
      exact ⟨fun h => absurd g1 (Int32.not_lt.mpr h.1), fun h => absurd rfl h⟩
    · rw [if_neg g1]
      by_cases g2 : σ.1 (7 + 14 * 0) 0 ≤ i
      · rw [if_pos g2]
        exact ⟨fun h => absurd h.2 (Int32.not_lt.mpr g2), fun h => absurd rfl h⟩
      · rw [if_neg g2]
        exact ⟨fun _ => by decide, fun _ => ⟨Int32.not_lt.mp g1, Int32.not_le.mp g2⟩⟩
  refine lv_if_ne (tgt := 21) hx hb (by decide +kernel : decode (rx_b 130) 8 = .ok (.ifCond .ne 13, 3)) (by decide) (fun h => ?_) (fun h => ?_)
  · have hin := hc0.mpr h
    refine vx_ret ?_
    refine lv_aload_n hx hb (by decide +kernel : decode (rx_b 130) 21 = .ok (.aload_n 0, 1)) rfl (lv_at hl 0 rfl) ?_
    obtain ⟨y1, fs3, e3, e4⟩ := rx_slot_spec (tc := tc) (ad := ad') (X := rx_D P σ) (k := 0) (a := 11) (b := 6) (v := .ref 38) rfl
    refine va_get (fs := fs3) hx hb hts (rx_C (a := 11) (by decide)).1 hown hK hP' 0 (by rw [rx_W_get tc ad' _ y1, e3, hag 0 (Or.inl (by decide))]) (rx_cl_get (a := 11) (by decide)) 6 (by decide +kernel) (hts _ (rx_w_in (i := 635) (by decide +kernel))) (fun _ h9 => h9) e4 (by decide +kernel : decode (rx_b 130) 22 = .ok (.getfield 51, 3)) ?_
    obtain ⟨y2, fs4, e5, e6⟩ := rx_slot_spec (tc := tc) (ad := ad') (X := rx_D P σ) (k := 38) (a := 8) (b := 1) (v := .ref 39) rfl
    refine va_get (fs := fs4) hx hb hts (rx_C (a := 8) (by decide)).1 hown hK hP' 38 (by rw [rx_W_get tc ad' _ y2, e5]) (rx_cl_get (a := 8) (by decide)) 1 (by decide +kernel) (hts _ (rx_w_in (i := 381) (by decide +kernel))) (fun _ h9 => h9) e6 (by decide +kernel : decode (rx_b 130) 25 = .ok (.getfield 144, 3)) ?_
    refine lv_iload_n hx hb (by decide +kernel : decode (rx_b 130) 28 = .ok (.iload_n 1, 1)) rfl (lv_at hl 1 rfl) ?_
    obtain ⟨y3, e7, -, -⟩ := rx_arr_spec (tc := tc) (ad := ad') (X := rx_D P σ) (k := 39) (n := 6) (t := 1) rfl
    refine va_iald hx hb hK hP' 39 0 (by rw [rx_W_get tc ad' _ y3, e7]; rfl) rfl (hi6 hin) (by decide +kernel : decode (rx_b 130) 29 = .ok (.iaload, 1)) ?_
    exact W.widen (Nat.zero_le _) (Nat.zero_le _) (W.iret hx hb (hr.trans rfl) (fun t ht _ => ⟨⟨_, ad', rfl, ⟨⟨hin, rfl⟩, hag⟩, (by rw [ht]; exact hP' : va_P D rx_cl (rx_W tc ad' (rx_D P σ)) t.heap), hD'⟩, hS'.F ht⟩) hS'.2.2 (by decide +kernel : decode (rx_b 130) 30 = .ok (.ireturn, 1)))
  · have hnin : ¬ (0 ≤ i ∧ i < σ.1 7 0) := fun z => hc0.mp z h
    refine rv_makeS (text := "no such SETTING") (sup := "java/lang/RuntimeException") (names := ["java/lang/Exception"]) (cls := rv_nse) (ik := 137) (is := 139) (ic := 141) hx hb hE.1.1 hown (by decide +kernel) (by decide +kernel) (by decide +kernel) (hts _ (rx_w_in (i := 1305) (by decide +kernel))) (hts _ (rx_w_in (i := 130) (by decide +kernel))) hE.2.1 (rv_ts hts hE.1.2) rv_ot hE.2.2.1 hE.2.2.2 hS' (hl.1.trans hml.symm)
      (by decide +kernel) (by decide +kernel) (by decide +kernel) (by decide +kernel) (by decide +kernel) (by decide +kernel) (Nat.le_refl _) (Nat.le_refl _) (fun q hq => Or.inr hq) (fun q9 ce H1 hcell1 hcv hcl1 hsz2 hk2 hS2 => ?_)
    refine vx_athrow hx hb (by decide +kernel : decode (rx_b 130) 20 = .ok (.athrow, 1)) ?_
    refine vx_out (fun z hz => (htab z hz).elim) hlocks hcell1 hcv hcl1 ?_ hS2.2.2 (Nat.le_refl _) (Nat.le_refl _)
    intro t ht9 hal
    exact ⟨ad', ⟨hnin, hag⟩, ⟨rfl, by rw [ht9]; exact hP'.kept (fun k q hk => hk2 q.1 (hP' k q hk).lt), hD'⟩, hS2.F ht9⟩
set_option maxRecDepth 100000 in
set_option maxHeartbeats 8000000 in
theorem rv_setting_1 {l : Launch} {D : va_G} {tc : Nat → ClassId} {ad : Nat → Nat} {sz : Nat} {P : List Nat} {σ : rx_St} {i : Int32} {q : Nat} (hP0 : P[0]? = some 21) (hi6 : 0 ≤ i ∧ i < σ.1 21 0 → vp_in i 6) :
    vx_Met l (rx_y 130) (rx_ws 130) (rx_rm 130 1 6) (va_Pc ([.ref (ad 0), .int i]) (fun U => rv_B D tc ad sz (rx_D P σ) U ∧ rv_E l q (va_A (rx_W tc ad (rx_D P σ)) sz) U U.heap))
      (va_Qi (fun r ad' => ((0 ≤ i ∧ i < σ.1 21 0) ∧ r = σ.1 39 i.toNatClampNeg) ∧ rx_ag 162 ad ad') (fun ad' t => va_P D rx_cl (rx_W tc ad' (rx_D P σ)) t.heap ∧ va_D (va_A (rx_W tc ad (rx_D P σ)) sz) (rx_W tc ad' (rx_D P σ))) (va_A (rx_W tc ad (rx_D P σ)) sz))
      (vx_X (fun ad' => ¬ (0 ≤ i ∧ i < σ.1 21 0) ∧ rx_ag 162 ad ad') (fun E ad' t => E = rv_nse ∧ va_P D rx_cl (rx_W tc ad' (rx_D P σ)) t.heap ∧ va_D (va_A (rx_W tc ad (rx_D P σ)) sz) (rx_W tc ad' (rx_D P σ))) (va_A (rx_W tc ad (rx_D P σ)) sz)) 1 6 (va_A (rx_W tc ad (rx_D P σ)) sz) := by
  refine vx_ofW (cc := rx_b 130) (maxL := 2) (ret := some .int) (by decide +kernel) rfl ?_
  intro p e s m args' below meth c s₁ B hml htab hv
  obtain ⟨rfl, ⟨hsz, hP, hK, hD0, hnw, hstr⟩, hE⟩ := hv
  subst hsz
  have hts : ∀ w ∈ rx_TS, w.before ([.ref (ad 0), .int i] : List Value).toArray s = true := fun w hw => atoms_spec (ws := rx_ws 130) B.pre w (List.mem_cons_of_mem _ hw)
  have hown : s.vm.findClass (rx_own 130) = some m.cls := findClass_of_methodNamed B.named
  have hlocks := B.notSynchronized
  have hx := B.exec
  have hb := B.bytes
  have hD := hD0.self (sz := s.heap.size)
  have hl := lv_entry ([.ref (ad 0), .int i] : List Value) (n := 2) (Nat.le_of_ble_eq_true rfl)
  rw [lg_entry_eq]
  have hr := B.returns
  have hS : va_S (va_A (rx_W tc ad (rx_D P σ)) s.heap.size) s.heap s.heap [] := va_S.rf
  generalize ((lg_sl ([.ref (ad 0), .int i] : List Value) ++ List.replicate (2 - (lg_sl ([.ref (ad 0), .int i] : List Value)).length) Slot.unset).toArray) = ls at hl ⊢
  refine lv_aload_n hx hb (by decide +kernel : decode (rx_b 130) 0 = .ok (.aload_n 0, 1)) rfl (lv_at hl 0 rfl) ?_
  obtain ⟨z1, fs, e1, e2⟩ := rx_slot_spec (tc := tc) (ad := ad) (rv_P (σ := σ) hP0)
  refine va_get (fs := fs) hx hb hts (rx_C (a := 11) (by decide)).1 hown hK hP 0 (by rw [rx_W_get tc ad _ z1, e1]) (rx_cl_get (a := 11) (by decide)) 3 (by decide +kernel) (hts _ (rx_w_in (i := 632) (by decide +kernel))) (fun _ h9 => h9) e2 (by decide +kernel : decode (rx_b 130) 1 = .ok (.getfield 19, 3)) ?_
  refine lv_iload_n hx hb (by decide +kernel : decode (rx_b 130) 4 = .ok (.iload_n 1, 1)) rfl (lv_at hl 1 rfl) ?_
  have hM := f_wor_hasSetting_ok_w1 (P := P) (a0 := i) (σ := σ) _ rfl l D tc ad s.heap.size
  obtain ⟨M1, M2, M3, M4, M5⟩ := rx_M (a := 114) (by decide)
  have k4 : rx_sta 114 = false := by decide +kernel
  obtain ⟨z2, fs2, hcell⟩ := rx_isobj_spec (tc := tc) (ad := ad) (X := rx_D P σ) (k := 21) (b := 10) rfl
  have hrecv := va_recv (q0 := 21) hK hP (rx_cl_get (a := 10) (by decide)) (by rw [rx_W_get tc ad (rx_D P σ) z2, hcell])
  refine rx_run_go (va_runV (Ts := rx_TS) (As := [.int i]) (rest := []) ⟨hx, hb, hml, hown, hts⟩ hM (cwV (C := (rx_y 114).cls) 1 hts (by
      unfold wsV
      refine rx_good_app (by decide) (fun w hw => ?_)
      simp only [List.mem_cons, List.not_mem_nil, or_false] at hw
      rcases hw with rfl | rfl | rfl | rfl
      · exact rx_w_in (i := 1246) (by decide +kernel)
      · exact (M5 k4).1
      · exact (M5 k4).2 (by decide +kernel)
      · exact M3) rfl rfl rfl ⟨rfl, M2⟩ (rx_room_inv (mi := 130) (by decide +kernel) ⟨Nat.le_refl _, Nat.le_refl _⟩))
    ⟨fun a U g mk qq => ?_, hrecv, fun U hU hW => ⟨rfl, by rw [hU], by rw [hU]; exact hP, va_K.moved hW.alike hK, hD.weaken (fun _ _ _ _ => trivial), fun z hz => va_Nw.warmM hW (hnw z hz), by rw [hU]; exact hstr.warm hW⟩⟩ rfl rfl hl.1 rfl (lv_room (Nat.le_of_ble_eq_true rfl)) (by decide +kernel : decode (rx_b 130) 5 = .ok (.invokevirtual 133, 3)) ⟨Nat.zero_le _, Nat.zero_le _⟩) (fun v st₀ t H' Ls h0 ht hLs hq => ?_)
  · obtain ⟨q0, q1, qP, qK, qD, qN, qS⟩ := qq
    exact ⟨q0, q1, qP, va_K.moved (u := U) (U := U.calling g mk a) (Vm.Alike.refl U.vm) qK, qD, fun z hz => va_Nw.same rfl rfl (qN z hz), qS.same rfl⟩
  obtain ⟨hv, ⟨ad', hag, hP', hD'⟩, hF⟩ := hq
  cases hv
  rw [ht] at hP'
  have hHF : st₀.heap.size ≤ t.heap.size ∧ ∀ q : Nat, q < st₀.heap.size → ¬ va_A (rx_W tc ad (rx_D P σ)) s.heap.size q → t.heap[q]? = st₀.heap[q]? := hF
  rw [h0, ht] at hHF
  have hS' : va_S (va_A (rx_W tc ad (rx_D P σ)) s.heap.size) s.heap H' ([] ++ Ls) := by
    refine ⟨hHF.1, hHF.2, fun q hq => ?_⟩
    rw [List.nil_append] at hq
    exact hLs q hq
  have hc0 : (0 ≤ i ∧ i < σ.1 21 0) ↔ ¬ f_wor_hasSetting 1 i σ = 0 := by
    unfold f_wor_hasSetting
    by_cases g1 : i < 0
    · rw [if_pos g1]
      exact ⟨fun h => absurd g1 (Int32.not_lt.mpr h.1), fun h => absurd rfl h⟩
    · rw [if_neg g1]
      by_cases g2 : σ.1 (7 + 14 * 1) 0 ≤ i
      · rw [if_pos g2]
        exact ⟨fun h => absurd h.2 (Int32.not_lt.mpr g2), fun h => absurd rfl h⟩
      · rw [if_neg g2]
        exact ⟨fun _ => by decide, fun _ => ⟨Int32.not_lt.mp g1, Int32.not_le.mp g2⟩⟩
  refine lv_if_ne (tgt := 21) hx hb (by decide +kernel : decode (rx_b 130) 8 = .ok (.ifCond .ne 13, 3)) (by decide) (fun h => ?_) (fun h => ?_)
  · have hin := hc0.mpr h
    refine vx_ret ?_
    refine lv_aload_n hx hb (by decide +kernel : decode (rx_b 130) 21 = .ok (.aload_n 0, 1)) rfl (lv_at hl 0 rfl) ?_
    obtain ⟨y1, fs3, e3, e4⟩ := rx_slot_spec (tc := tc) (ad := ad') (X := rx_D P σ) (k := 0) (a := 11) (b := 6) (v := .ref 38) rfl
    refine va_get (fs := fs3) hx hb hts (rx_C (a := 11) (by decide)).1 hown hK hP' 0 (by rw [rx_W_get tc ad' _ y1, e3, hag 0 (Or.inl (by decide))]) (rx_cl_get (a := 11) (by decide)) 6 (by decide +kernel) (hts _ (rx_w_in (i := 635) (by decide +kernel))) (fun _ h9 => h9) e4 (by decide +kernel : decode (rx_b 130) 22 = .ok (.getfield 51, 3)) ?_
    obtain ⟨y2, fs4, e5, e6⟩ := rx_slot_spec (tc := tc) (ad := ad') (X := rx_D P σ) (k := 38) (a := 8) (b := 1) (v := .ref 39) rfl
    refine va_get (fs := fs4) hx hb hts (rx_C (a := 8) (by decide)).1 hown hK hP' 38 (by rw [rx_W_get tc ad' _ y2, e5]) (rx_cl_get (a := 8) (by decide)) 1 (by decide +kernel) (hts _ (rx_w_in (i := 381) (by decide +kernel))) (fun _ h9 => h9) e6 (by decide +kernel : decode (rx_b 130) 25 = .ok (.getfield 144, 3)) ?_
    refine lv_iload_n hx hb (by decide +kernel : decode (rx_b 130) 28 = .ok (.iload_n 1, 1)) rfl (lv_at hl 1 rfl) ?_
    obtain ⟨y3, e7, -, -⟩ := rx_arr_spec (tc := tc) (ad := ad') (X := rx_D P σ) (k := 39) (n := 6) (t := 1) rfl
    refine va_iald hx hb hK hP' 39 0 (by rw [rx_W_get tc ad' _ y3, e7]; rfl) rfl (hi6 hin) (by decide +kernel : decode (rx_b 130) 29 = .ok (.iaload, 1)) ?_
    exact W.widen (Nat.zero_le _) (Nat.zero_le _) (W.iret hx hb (hr.trans rfl) (fun t ht _ => ⟨⟨_, ad', rfl, ⟨⟨hin, rfl⟩, hag⟩, (by rw [ht]; exact hP' : va_P D rx_cl (rx_W tc ad' (rx_D P σ)) t.heap), hD'⟩, hS'.F ht⟩) hS'.2.2 (by decide +kernel : decode (rx_b 130) 30 = .ok (.ireturn, 1)))
  · have hnin : ¬ (0 ≤ i ∧ i < σ.1 21 0) := fun z => hc0.mp z h
    refine rv_makeS (text := "no such SETTING") (sup := "java/lang/RuntimeException") (names := ["java/lang/Exception"]) (cls := rv_nse) (ik := 137) (is := 139) (ic := 141) hx hb hE.1.1 hown (by decide +kernel) (by decide +kernel) (by decide +kernel) (hts _ (rx_w_in (i := 1305) (by decide +kernel))) (hts _ (rx_w_in (i := 130) (by decide +kernel))) hE.2.1 (rv_ts hts hE.1.2) rv_ot hE.2.2.1 hE.2.2.2 hS' (hl.1.trans hml.symm)
      (by decide +kernel) (by decide +kernel) (by decide +kernel) (by decide +kernel) (by decide +kernel) (by decide +kernel) (Nat.le_refl _) (Nat.le_refl _) (fun q hq => Or.inr hq) (fun q9 ce H1 hcell1 hcv hcl1 hsz2 hk2 hS2 => ?_)
    refine vx_athrow hx hb (by decide +kernel : decode (rx_b 130) 20 = .ok (.athrow, 1)) ?_
    refine vx_out (fun z hz => (htab z hz).elim) hlocks hcell1 hcv hcl1 ?_ hS2.2.2 (Nat.le_refl _) (Nat.le_refl _)
    intro t ht9 hal
    exact ⟨ad', ⟨hnin, hag⟩, ⟨rfl, by rw [ht9]; exact hP'.kept (fun k q hk => hk2 q.1 (hP' k q hk).lt), hD'⟩, hS2.F ht9⟩
