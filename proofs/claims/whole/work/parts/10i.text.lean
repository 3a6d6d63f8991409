/-! THE TEXT CONSTANT: String.length and String.charAt over the one text that Tape() reads -/
def rs_F (q v : Nat) (A : Nat → Prop) (U : State) (H : Heap) : Prop := va_O "java/lang/String" q A U H ∧ va_OF "java/lang/String" "coder" "B" (.int 0) q A U H ∧ va_OF "java/lang/String" "value" "[B" (.ref v) q A U H ∧ va_T .byte v rx_txt.length (fun j => .int ((rx_txt.map Int32.ofNat).getD j 0)) A U H ∧ va_Z "java/lang/String" "COMPACT_STRINGS" "Z" (.int 1) A U H ∧ va_Zq "jdk/internal/util/Preconditions" "SIOOBE_FORMATTER" "Ljava/util/function/BiFunction;" A U H
theorem rs_F.kept {q v : Nat} {A : Nat → Prop} {U : State} {H H1 : Heap} (h : rs_F q v A U H) (hq : ∀ a : Nat, a < H.size → ¬ A a → H1[a]? = H[a]?) : rs_F q v A U H1 := by
  obtain ⟨h1, h2, h3, h4, h5, h6⟩ := h
  exact ⟨h1.kept hq, h2.kept hq, h3.kept hq, h4.kept hq, h5.kept hq, h6.kept hq⟩
theorem rs_F.narrow {q v : Nat} {A B : Nat → Prop} {U : State} {H : Heap} (h : rs_F q v A U H) (hAB : ∀ q, B q → A q) : rs_F q v B U H := by
  obtain ⟨h1, h2, h3, h4, h5, h6⟩ := h
  exact ⟨h1.narrow hAB, h2.narrow hAB, h3.narrow hAB, h4.narrow hAB, h5.narrow hAB, h6.narrow hAB⟩
theorem rs_F.moved {q v : Nat} {A : Nat → Prop} {u U : State} {H : Heap} (hvm : u.vm.Alike U.vm) (h : rs_F q v A u H) : rs_F q v A U H := by
  obtain ⟨h1, h2, h3, h4, h5, h6⟩ := h
  exact ⟨va_O.moved hvm h1, va_OF.moved hvm h2, va_OF.moved hvm h3, va_T.moved hvm h4, va_Z.moved hvm h5, va_Zq.moved hvm h6⟩
theorem rs_of {ad : Nat → Nat} {A : Nat → Prop} {U : State} {H : Heap} (h : rx_Str ad A U H) : ∃ v, rs_F (ad 9998) v A U H := by
  obtain ⟨⟨adV, h1, h2⟩, h3, h4⟩ := h
  obtain ⟨g1, g2, g3, g4⟩ := h2.1 0 (by decide)
  exact ⟨adV 0, g1, g2, g3, g4, h3, h4⟩
def rs_rm (fr lo : Nat) : Room := { frames := fr, cells := 0, slots := 0, locals := lo }
/-- a contract over the text: nothing old is written -/
def rs_Met (l : Launch) (y : MethodName) (b : ByteArray) (ml : Nat) (rt : Option FieldType) (fr lo : Nat) (args : List Value) (q v : Nat) (r : Option Value) : Prop :=
  ∀ sz : Nat, Met l y (Cond.code y b ml rt :: rx_TS) (rs_rm fr lo) (va_Pc args (fun U => U.heap.size = sz ∧ rs_F q v (fun z => sz ≤ z) U U.heap)) (fun _ st oc t => oc = .returned r ∧ va_F (fun z => sz ≤ z) st t) 0 0 (fun z => sz ≤ z)
/-- what a body of such a contract may use -/
def rs_Cx (y : MethodName) (b : ByteArray) (ml : Nat) (rt : Option FieldType) (fr lo : Nat) (p : Program) (l : Launch) (R : Room) (s : State) (m : MethodId) (args : Array Value) (meth : Method) (c : Code) (q v : Nat) : Prop :=
  p.tables.exec = Jvm.exec ∧ c.code = b ∧ c.maxLocals = ml ∧ s.vm.findClass y.cls = some m.cls ∧ (∀ w ∈ rx_TS, w.before args s = true) ∧ meth.sig.returnType = rt ∧ meth.locks = false ∧ rs_F q v (fun z => s.heap.size ≤ z) s s.heap ∧ R = rs_rm fr lo
theorem rs_body {l : Launch} {y : MethodName} {b : ByteArray} {ml : Nat} {rt : Option FieldType} {fr lo : Nat} {args : List Value} {q v : Nat} {r : Option Value} (hy : plainFor y = true) (hlen : (lg_sl args).length ≤ ml)
    (body : ∀ p e R s m below meth c ls, rs_Cx y b ml rt fr lo p l R s m args.toArray meth c q v → lv_has ls ml (lv_args 0 args) →
      W p l e R s m args.toArray below meth c s.heap [] 0 0 (MQ below (fun _ st oc t => oc = .returned r ∧ va_F (fun z => s.heap.size ≤ z) st t) args.toArray s 0 0 (fun z => s.heap.size ≤ z)) (F0 m 0 ls [])) : rs_Met l y b ml rt fr lo args q v r := by
  intro sz
  refine va_MetF (cc := b) (maxL := ml) (ret := rt) hy rfl ?_
  intro p e s m args' below meth c s₁ B hml hv
  obtain ⟨rfl, hsz, hF⟩ := hv
  subst hsz
  have hts : ∀ w ∈ rx_TS, w.before args.toArray s = true := fun w hw => atoms_spec (ws := Cond.code y b ml rt :: rx_TS) B.pre w (List.mem_cons_of_mem _ hw)
  have hl := lv_entry args (n := ml) hlen
  rw [lg_entry_eq]
  exact body p e _ s m below meth c _ ⟨B.exec, B.bytes, hml, findClass_of_methodNamed B.named, hts, B.returns, B.notSynchronized, hF, rfl⟩ hl
/-- the end of a body that wrote nothing -/
theorem rs_F0 {s t : State} {H : Heap} {locs : List Loc} (hS : va_S (fun z => s.heap.size ≤ z) s.heap H locs) (ht : t.heap = H) : va_F (fun z => s.heap.size ≤ z) s t := hS.F ht
section RSG
variable {p : Program} {l : Launch} {e : Env} {R : Room} {s : State} {m : MethodId} {args : Array Value} {below : List Frame} {meth : Method} {c : Code} {H : Heap} {locs : List Loc} {Q : State → Prop}
theorem rs_call {pc : Nat} {ls : Array Slot} {rest st0 : List Value} {y : MethodName} {b : ByteArray} {ml : Nat} {rt : Option FieldType} {fr lo : Nat} {as : List Value} {q v : Nat} {r : Option Value}
    (hM : rs_Met l y b ml rt fr lo as q v r) (hF : rs_F q v (fun z => s.heap.size ≤ z) s s.heap) (hS : va_S (fun z => s.heap.size ≤ z) s.heap H locs)
    (run : ∀ (Pc : Array Value → State → Prop) (Qc : Array Value → State → Outcome → State → Prop) (free : Addr → Prop), Met l y (Cond.code y b ml rt :: rx_TS) (rs_rm fr lo) Pc Qc 0 0 free → PreS s H Pc as → va_Run p l e R s m args below meth c H locs 0 0 0 0 (F0 m pc ls st0) rest (Qc as.toArray) free)
    (kk : ∀ (H1 : Heap) (locs1 : List Loc), va_S (fun z => s.heap.size ≤ z) s.heap H1 locs1 → W p l e R s m args below meth c H1 locs1 0 0 Q (F0 m (pc + 3) ls (r.toList ++ rest))) : W p l e R s m args below meth c H locs 0 0 Q (F0 m pc ls st0) := by
  refine rx_run_go (run _ _ _ (hM H.size) ⟨fun a U g mk q => ?_, fun U hU hW => ⟨rfl, by rw [hU], ?_⟩⟩) (fun r' st₀ t H' Ls h0 ht hLs hq => ?_)
  · obtain ⟨q0, q1, q2⟩ := q
    exact ⟨q0, q1, rs_F.moved (u := U) (U := U.calling g mk a) (Vm.Alike.refl U.vm) q2⟩
  · rw [hU]
    exact rs_F.moved hW.alike ((hF.kept hS.2.1).narrow (fun z hz => Nat.le_trans hS.1 hz))
  · obtain ⟨hv, hF2⟩ := hq
    cases hv
    have hHF : st₀.heap.size ≤ t.heap.size ∧ ∀ q : Nat, q < st₀.heap.size → ¬ H.size ≤ q → t.heap[q]? = st₀.heap[q]? := hF2
    rw [h0, ht] at hHF
    exact kk H' (locs ++ Ls) ⟨Nat.le_trans hS.1 hHF.1, fun q h1 h2 => by
      rw [hHF.2 q (Nat.lt_of_lt_of_le h1 hS.1) (Nat.not_le.mpr (Nat.lt_of_lt_of_le h1 hS.1))]
      exact hS.2.1 q h1 h2, fun q hq => by
      rcases List.mem_append.mp hq with h | h
      · exact hS.2.2 q h
      · exact Nat.le_trans hS.1 (hLs q h)⟩
end RSG
set_option maxRecDepth 100000 in
theorem rs_coder (l : Launch) (q v : Nat) : rs_Met l ⟨"java/lang/String", "coder", "()B"⟩ prog_22_method_152_code 1 (some .byte) 0 0 [.ref q] q v (some (.int 0)) := by
  refine rs_body (by decide +kernel) (Nat.le_of_ble_eq_true rfl) ?_
  intro p e R s m below meth c ls ⟨hx, hb, hml, hown, hts, hr, hlocks, hF, hR⟩ hl
  obtain ⟨f1, f2, f3, f4, f5, f6⟩ := id hF
  have hS : va_S (fun z => s.heap.size ≤ z) s.heap s.heap [] := va_S.rf
  subst hR
  refine va_gets hx hb f5 hS hown (hts _ (rx_w_in (i := 156) (by decide +kernel))) (fun _ h => h) (by decide +kernel : decode prog_22_method_152_code 0 = .ok (.getstatic 38, 3)) ?_
  refine lv_if_eq (tgt := 13) hx hb (by decide +kernel : decode prog_22_method_152_code 3 = .ok (.ifCond .eq 10, 3)) (by decide) (fun h => absurd h (by decide)) (fun _ => ?_)
  refine lv_aload_n hx hb (by decide +kernel : decode prog_22_method_152_code 6 = .ok (.aload_n 0, 1)) rfl (lv_at hl 0 rfl) ?_
  refine vk_getf hx hb f2 hS hown (hts _ (rx_w_in (i := 2076) (by decide +kernel))) (fun _ h => h) (by decide +kernel : decode prog_22_method_152_code 7 = .ok (.getfield 15, 3)) ?_
  refine lv_goto (tgt := 14) hx hb (by decide +kernel : decode prog_22_method_152_code 10 = .ok (.goto 4, 3)) (by decide) ?_
  exact W.zret hx hb hr rfl (fun t ht _ => ⟨rfl, hS.F ht⟩) hS.2.2 (by decide +kernel : decode prog_22_method_152_code 14 = .ok (.ireturn, 1))
set_option maxRecDepth 100000 in
theorem rs_isLatin1 (l : Launch) (q v : Nat) : rs_Met l ⟨"java/lang/String", "isLatin1", "()Z"⟩ prog_22_method_154_code 1 (some .boolean) 0 0 [.ref q] q v (some (.int 1)) := by
  refine rs_body (by decide +kernel) (Nat.le_of_ble_eq_true rfl) ?_
  intro p e R s m below meth c ls ⟨hx, hb, hml, hown, hts, hr, hlocks, hF, hR⟩ hl
  obtain ⟨f1, f2, f3, f4, f5, f6⟩ := id hF
  have hS : va_S (fun z => s.heap.size ≤ z) s.heap s.heap [] := va_S.rf
  subst hR
  refine va_gets hx hb f5 hS hown (hts _ (rx_w_in (i := 156) (by decide +kernel))) (fun _ h => h) (by decide +kernel : decode prog_22_method_154_code 0 = .ok (.getstatic 38, 3)) ?_
  refine lv_if_eq (tgt := 17) hx hb (by decide +kernel : decode prog_22_method_154_code 3 = .ok (.ifCond .eq 14, 3)) (by decide) (fun h => absurd h (by decide)) (fun _ => ?_)
  refine lv_aload_n hx hb (by decide +kernel : decode prog_22_method_154_code 6 = .ok (.aload_n 0, 1)) rfl (lv_at hl 0 rfl) ?_
  refine vk_getf hx hb f2 hS hown (hts _ (rx_w_in (i := 2076) (by decide +kernel))) (fun _ h => h) (by decide +kernel : decode prog_22_method_154_code 7 = .ok (.getfield 15, 3)) ?_
  refine lv_if_ne (tgt := 17) hx hb (by decide +kernel : decode prog_22_method_154_code 10 = .ok (.ifCond .ne 7, 3)) (by decide) (fun h => absurd rfl h) (fun _ => ?_)
  refine lv_iconst (v := 1) hx hb (by decide +kernel : decode prog_22_method_154_code 13 = .ok (.iconst 1, 1)) (by decide) ?_
  refine lv_goto (tgt := 18) hx hb (by decide +kernel : decode prog_22_method_154_code 14 = .ok (.goto 4, 3)) (by decide) ?_
  exact W.zret hx hb hr rfl (fun t ht _ => ⟨rfl, hS.F ht⟩) hS.2.2 (by decide +kernel : decode prog_22_method_154_code 18 = .ok (.ireturn, 1))
set_option maxRecDepth 100000 in
theorem rs_preIndex (l : Launch) (q v : Nat) (i n : Int32) (z : Value) (hz : z = .null ∨ ∃ a, z = .ref a) (hi : ¬ i < 0) (hn : i < n) : rs_Met l ⟨"jdk/internal/util/Preconditions", "checkIndex", "(IILjava/util/function/BiFunction;)I"⟩ prog_29_method_11_code 3 (some .int) 0 0 [.int i, .int n, z] q v (some (.int i)) := by
  refine rs_body (by decide +kernel) (by rcases hz with rfl | ⟨a, rfl⟩ <;> exact Nat.le_of_ble_eq_true rfl) ?_
  intro p e R s m below meth c ls ⟨hx, hb, hml, hown, hts, hr, hlocks, hF, hR⟩ hl
  have hS : va_S (fun z => s.heap.size ≤ z) s.heap s.heap [] := va_S.rf
  refine lv_iload_n hx hb (by decide +kernel : decode prog_29_method_11_code 0 = .ok (.iload_n 0, 1)) rfl (lv_at hl 0 rfl) ?_
  refine lv_if_lt (tgt := 9) hx hb (by decide +kernel : decode prog_29_method_11_code 1 = .ok (.ifCond .lt 8, 3)) (by decide) (fun h => absurd h hi) (fun _ => ?_)
  refine lv_iload_n hx hb (by decide +kernel : decode prog_29_method_11_code 4 = .ok (.iload_n 0, 1)) rfl (lv_at hl 0 rfl) ?_
  refine lv_iload_n hx hb (by decide +kernel : decode prog_29_method_11_code 5 = .ok (.iload_n 1, 1)) rfl (lv_at hl 1 rfl) ?_
  refine lv_icmp_lt (tgt := 16) hx hb (by decide +kernel : decode prog_29_method_11_code 6 = .ok (.if_icmp .lt 10, 3)) (by decide) (fun _ => ?_) (fun h => absurd hn h)
  refine lv_iload_n hx hb (by decide +kernel : decode prog_29_method_11_code 16 = .ok (.iload_n 0, 1)) rfl (lv_at hl 0 rfl) ?_
  exact W.iret hx hb hr (fun t ht _ => ⟨rfl, hS.F ht⟩) hS.2.2 (by decide +kernel : decode prog_29_method_11_code 17 = .ok (.ireturn, 1))
set_option maxRecDepth 100000 in
theorem rs_length (l : Launch) (q v : Nat) : rs_Met l ⟨"java/lang/String", "length", "()I"⟩ prog_22_method_54_code 1 (some .int) 1 20 [.ref q] q v (some (.int (Int32.ofNat rx_txt.length))) := by
  refine rs_body (by decide +kernel) (Nat.le_of_ble_eq_true rfl) ?_
  intro p e R s m below meth c ls ⟨hx, hb, hml, hown, hts, hr, hlocks, hF, hR⟩ hl
  obtain ⟨f1, f2, f3, f4, f5, f6⟩ := id hF
  have hS : va_S (fun z => s.heap.size ≤ z) s.heap s.heap [] := va_S.rf
  subst hR
  refine lv_aload_n hx hb (by decide +kernel : decode prog_22_method_54_code 0 = .ok (.aload_n 0, 1)) rfl (lv_at hl 0 rfl) ?_
  refine vk_getf hx hb f3 hS hown (hts _ (rx_w_in (i := 2075) (by decide +kernel))) (fun _ h => h) (by decide +kernel : decode prog_22_method_54_code 1 = .ok (.getfield 9, 3)) ?_
  refine va_tlen hx hb f4 hS rfl (by decide +kernel : decode prog_22_method_54_code 4 = .ok (.arraylength, 1)) ?_
  refine lv_aload_n hx hb (by decide +kernel : decode prog_22_method_54_code 5 = .ok (.aload_n 0, 1)) rfl (lv_at hl 0 rfl) ?_
  refine rs_call (rest := [.int (Int32.ofNat rx_txt.length)]) (rs_coder l q v) hF hS (fun Pc Qc free hM hp => va_runV (Ts := rx_TS) (As := []) ⟨hx, hb, hml, hown, hts⟩ hM (cwV (C := "java/lang/String") 0 hts (fun w hw => by
    have hm : w ∈ rx_TS := by
      rcases List.mem_append.mp hw with hw | hw
      · simp only [List.mem_cons, List.not_mem_nil, or_false] at hw
        rcases hw with rfl | rfl | rfl | rfl
        · exact rx_w_in (i := 152) (by decide +kernel)
        · exact rx_w_in (i := 153) (by decide +kernel)
        · exact rx_w_in (i := 154) (by decide +kernel)
        · exact rx_w_in (i := 112) (by decide +kernel)
      · rcases List.mem_cons.mp hw with rfl | hw
        · exact List.mem_filter.mpr ⟨rx_in1 (List.mem_of_getElem? (i := 46) rfl), rfl⟩
        · exact hw
    exact ⟨hm, rx_TS_good hm⟩) rfl rfl rfl (by decide +kernel) ⟨Nat.le_of_ble_eq_true rfl, Nat.le_of_ble_eq_true rfl⟩) ⟨hp.1, (by obtain ⟨cell, g1, g2, g3, -⟩ := f1.kept hS.2.1; exact ⟨cell, g1, g2, g3⟩), hp.2⟩ rfl rfl hl.1 rfl (lv_room (Nat.le_of_ble_eq_true rfl)) (by decide +kernel : decode prog_22_method_54_code 6 = .ok (.invokevirtual 335, 3)) ⟨Nat.zero_le _, Nat.zero_le _⟩) (fun H locs hS => ?_)
  refine lv_ishr hx hb (by decide +kernel : decode prog_22_method_54_code 9 = .ok (.ishr, 1)) ?_
  exact W.iret hx hb hr (fun t ht _ => ⟨by rw [show ((Int32.ofNat rx_txt.length) >>> ((0 : Int32) &&& 31)) = (Int32.ofNat rx_txt.length) by decide +kernel], hS.F ht⟩) hS.2.2 (by decide +kernel : decode prog_22_method_54_code 10 = .ok (.ireturn, 1))
set_option maxRecDepth 100000 in
theorem rs_checkIndex (l : Launch) (q v : Nat) (i n : Int32) (hi : ¬ i < 0) (hn : i < n) : rs_Met l ⟨"java/lang/String", "checkIndex", "(II)V"⟩ prog_22_method_155_code 2 none 1 22 [.int i, .int n] q v none := by
  refine rs_body (by decide +kernel) (Nat.le_of_ble_eq_true rfl) ?_
  intro p e R s m below meth c ls ⟨hx, hb, hml, hown, hts, hr, hlocks, hF, hR⟩ hl
  obtain ⟨f1, f2, f3, f4, f5, f6⟩ := id hF
  have hS : va_S (fun z => s.heap.size ≤ z) s.heap s.heap [] := va_S.rf
  subst hR
  obtain ⟨z, hz, g6⟩ : ∃ z : Value, (z = .null ∨ ∃ a, z = .ref a) ∧ va_Z "jdk/internal/util/Preconditions" "SIOOBE_FORMATTER" "Ljava/util/function/BiFunction;" z (fun z => s.heap.size ≤ z) s s.heap := by
    rcases f6 with h | ⟨t, h⟩
    · exact ⟨.null, Or.inl rfl, h⟩
    · exact ⟨.ref t, Or.inr ⟨t, rfl⟩, h⟩
  refine lv_iload_n hx hb (by decide +kernel : decode prog_22_method_155_code 0 = .ok (.iload_n 0, 1)) rfl (lv_at hl 0 rfl) ?_
  refine lv_iload_n hx hb (by decide +kernel : decode prog_22_method_155_code 1 = .ok (.iload_n 1, 1)) rfl (lv_at hl 1 rfl) ?_
  refine va_gets hx hb g6 hS hown (hts _ (rx_w_in (i := 172) (by decide +kernel))) (fun _ h => h) (by decide +kernel : decode prog_22_method_155_code 2 = .ok (.getstatic 1053, 3)) ?_
  refine rs_call (rest := []) (rs_preIndex l q v i n z hz hi hn) hF hS (fun Pc Qc free hM hp => va_runS (Ts := rx_TS) (As := [.int i, .int n, z]) ⟨hx, hb, hml, hown, hts⟩ hM (va_cwS 3 hts (fun w hw => by
    have hm : w ∈ rx_TS := by
      rcases List.mem_append.mp hw with hw | hw
      · simp only [List.mem_cons, List.not_mem_nil, or_false] at hw
        rcases hw with rfl | rfl | rfl
        · exact rx_w_in (i := 174) (by decide +kernel)
        · exact rx_w_in (i := 175) (by decide +kernel)
        · exact rx_w_in (i := 114) (by decide +kernel)
      · rcases List.mem_cons.mp hw with rfl | hw
        · exact List.mem_filter.mpr ⟨rx_in1 (List.mem_of_getElem? (i := 67) rfl), rfl⟩
        · exact hw
    exact ⟨hm, rx_TS_good hm⟩) rfl rfl rfl (by decide +kernel) ⟨Nat.le_of_ble_eq_true rfl, Nat.le_of_ble_eq_true rfl⟩) hp rfl rfl hl.1 rfl (lv_room (Nat.le_of_ble_eq_true rfl)) (by decide +kernel : decode prog_22_method_155_code 5 = .ok (.invokestatic 1059, 3)) ⟨Nat.zero_le _, Nat.zero_le _⟩) (fun H locs hS => ?_)
  refine lv_pop hx hb (by decide +kernel : decode prog_22_method_155_code 8 = .ok (.pop, 1)) rfl ?_
  exact W.vret hx hb hr (fun t ht _ => ⟨rfl, hS.F ht⟩) hS.2.2 (by decide +kernel : decode prog_22_method_155_code 9 = .ok (.return_, 1))
theorem rs_ch {i : Int32} (hi : vp_in i rx_txt.length) : ((((rx_txt.map Int32.ofNat).getD i.toNatClampNeg 0) &&& 255).toUInt32 % 65536).toInt32 = nI (rx_txt.getD i.toNatClampNeg 0) ∧ narrow .char (.int (nI (rx_txt.getD i.toNatClampNeg 0))) = .int (nI (rx_txt.getD i.toNatClampNeg 0)) ∧ ¬ i < 0 ∧ i < Int32.ofNat rx_txt.length := by
  obtain ⟨j, hj, rfl⟩ := vp_in_of hi (by decide)
  rw [nI_clamp (Nat.lt_trans hj (by decide))]
  refine ⟨?_, ?_, nI_pos (Nat.lt_trans hj (by decide)), nI_lt hj (by decide)⟩
  · clear hi; revert j; decide +kernel
  · clear hi; revert j; decide +kernel
set_option maxRecDepth 100000 in
theorem rs_charAt1 (l : Launch) (q v : Nat) (i : Int32) (hi : vp_in i rx_txt.length) : rs_Met l ⟨"java/lang/StringLatin1", "charAt", "([BI)C"⟩ prog_23_method_2_code 2 (some .char) 2 43 [.ref v, .int i] q v (some (.int (nI (rx_txt.getD i.toNatClampNeg 0)))) := by
  refine rs_body (by decide +kernel) (Nat.le_of_ble_eq_true rfl) ?_
  intro p e R s m below meth c ls ⟨hx, hb, hml, hown, hts, hr, hlocks, hF, hR⟩ hl
  obtain ⟨f1, f2, f3, f4, f5, f6⟩ := id hF
  have hS : va_S (fun z => s.heap.size ≤ z) s.heap s.heap [] := va_S.rf
  subst hR
  obtain ⟨k1, k2, k3, k4⟩ := rs_ch hi
  refine lv_iload_n hx hb (by decide +kernel : decode prog_23_method_2_code 0 = .ok (.iload_n 1, 1)) rfl (lv_at hl 1 rfl) ?_
  refine lv_aload_n hx hb (by decide +kernel : decode prog_23_method_2_code 1 = .ok (.aload_n 0, 1)) rfl (lv_at hl 0 rfl) ?_
  refine va_tlen hx hb f4 hS rfl (by decide +kernel : decode prog_23_method_2_code 2 = .ok (.arraylength, 1)) ?_
  refine rs_call (rest := []) (rs_checkIndex l q v i (Int32.ofNat rx_txt.length) k3 k4) hF hS (fun Pc Qc free hM hp => va_runS (Ts := rx_TS) (As := [.int i, .int (Int32.ofNat rx_txt.length)]) ⟨hx, hb, hml, hown, hts⟩ hM (va_cwS 2 hts (fun w hw => by
    have hm : w ∈ rx_TS := by
      rcases List.mem_append.mp hw with hw | hw
      · simp only [List.mem_cons, List.not_mem_nil, or_false] at hw
        rcases hw with rfl | rfl | rfl
        · exact rx_w_in (i := 169) (by decide +kernel)
        · exact rx_w_in (i := 170) (by decide +kernel)
        · exact rx_w_in (i := 112) (by decide +kernel)
      · rcases List.mem_cons.mp hw with rfl | hw
        · exact List.mem_filter.mpr ⟨rx_in1 (List.mem_of_getElem? (i := 62) rfl), rfl⟩
        · exact hw
    exact ⟨hm, rx_TS_good hm⟩) rfl rfl rfl (by decide +kernel) ⟨Nat.le_of_ble_eq_true rfl, Nat.le_of_ble_eq_true rfl⟩) hp rfl rfl hl.1 rfl (lv_room (Nat.le_of_ble_eq_true rfl)) (by decide +kernel : decode prog_23_method_2_code 3 = .ok (.invokestatic 9, 3)) ⟨Nat.zero_le _, Nat.zero_le _⟩) (fun H locs hS => ?_)
  refine lv_aload_n hx hb (by decide +kernel : decode prog_23_method_2_code 6 = .ok (.aload_n 0, 1)) rfl (lv_at hl 0 rfl) ?_
  refine lv_iload_n hx hb (by decide +kernel : decode prog_23_method_2_code 7 = .ok (.iload_n 1, 1)) rfl (lv_at hl 1 rfl) ?_
  refine va_tb hx hb f4 hS hi rfl (by decide +kernel : decode prog_23_method_2_code 8 = .ok (.baload, 1)) ?_
  refine lv_sipush (v := 255) hx hb (by decide +kernel : decode prog_23_method_2_code 9 = .ok (.sipush 255, 3)) (by decide) ?_
  refine lv_iand hx hb (by decide +kernel : decode prog_23_method_2_code 12 = .ok (.iand, 1)) ?_
  refine lv_i2c hx hb (by decide +kernel : decode prog_23_method_2_code 13 = .ok (.i2c, 1)) k1 ?_
  exact W.zret hx hb hr k2 (fun t ht _ => ⟨rfl, hS.F ht⟩) hS.2.2 (by decide +kernel : decode prog_23_method_2_code 14 = .ok (.ireturn, 1))
set_option maxRecDepth 100000 in
theorem rs_charAt (l : Launch) (q v : Nat) (i : Int32) (hi : vp_in i rx_txt.length) : rs_Met l ⟨"java/lang/String", "charAt", "(I)C"⟩ prog_22_method_56_code 2 (some .char) 3 64 [.ref q, .int i] q v (some (.int (nI (rx_txt.getD i.toNatClampNeg 0)))) := by
  refine rs_body (by decide +kernel) (Nat.le_of_ble_eq_true rfl) ?_
  intro p e R s m below meth c ls ⟨hx, hb, hml, hown, hts, hr, hlocks, hF, hR⟩ hl
  obtain ⟨f1, f2, f3, f4, f5, f6⟩ := id hF
  have hS : va_S (fun z => s.heap.size ≤ z) s.heap s.heap [] := va_S.rf
  subst hR
  obtain ⟨k1, k2, k3, k4⟩ := rs_ch hi
  refine lv_aload_n hx hb (by decide +kernel : decode prog_22_method_56_code 0 = .ok (.aload_n 0, 1)) rfl (lv_at hl 0 rfl) ?_
  refine rs_call (rest := []) (rs_isLatin1 l q v) hF hS (fun Pc Qc free hM hp => va_runV (Ts := rx_TS) (As := []) ⟨hx, hb, hml, hown, hts⟩ hM (cwV (C := "java/lang/String") 0 hts (fun w hw => by
    have hm : w ∈ rx_TS := by
      rcases List.mem_append.mp hw with hw | hw
      · simp only [List.mem_cons, List.not_mem_nil, or_false] at hw
        rcases hw with rfl | rfl | rfl | rfl
        · exact rx_w_in (i := 162) (by decide +kernel)
        · exact rx_w_in (i := 163) (by decide +kernel)
        · exact rx_w_in (i := 164) (by decide +kernel)
        · exact rx_w_in (i := 112) (by decide +kernel)
      · rcases List.mem_cons.mp hw with rfl | hw
        · exact List.mem_filter.mpr ⟨rx_in1 (List.mem_of_getElem? (i := 56) rfl), rfl⟩
        · exact hw
    exact ⟨hm, rx_TS_good hm⟩) rfl rfl rfl (by decide +kernel) ⟨Nat.le_of_ble_eq_true rfl, Nat.le_of_ble_eq_true rfl⟩) ⟨hp.1, (by obtain ⟨cell, g1, g2, g3, -⟩ := f1.kept hS.2.1; exact ⟨cell, g1, g2, g3⟩), hp.2⟩ rfl rfl hl.1 rfl (lv_room (Nat.le_of_ble_eq_true rfl)) (by decide +kernel : decode prog_22_method_56_code 1 = .ok (.invokevirtual 492, 3)) ⟨Nat.zero_le _, Nat.zero_le _⟩) (fun H locs hS => ?_)
  refine lv_if_eq (tgt := 16) hx hb (by decide +kernel : decode prog_22_method_56_code 4 = .ok (.ifCond .eq 12, 3)) (by decide) (fun h => absurd h (by decide)) (fun _ => ?_)
  refine lv_aload_n hx hb (by decide +kernel : decode prog_22_method_56_code 7 = .ok (.aload_n 0, 1)) rfl (lv_at hl 0 rfl) ?_
  refine vk_getf hx hb f3 hS hown (hts _ (rx_w_in (i := 2075) (by decide +kernel))) (fun _ h => h) (by decide +kernel : decode prog_22_method_56_code 8 = .ok (.getfield 9, 3)) ?_
  refine lv_iload_n hx hb (by decide +kernel : decode prog_22_method_56_code 11 = .ok (.iload_n 1, 1)) rfl (lv_at hl 1 rfl) ?_
  refine rs_call (rest := []) (rs_charAt1 l q v i hi) hF hS (fun Pc Qc free hM hp => va_runS (Ts := rx_TS) (As := [.ref v, .int i]) ⟨hx, hb, hml, hown, hts⟩ hM (va_cwS 2 hts (fun w hw => by
    have hm : w ∈ rx_TS := by
      rcases List.mem_append.mp hw with hw | hw
      · simp only [List.mem_cons, List.not_mem_nil, or_false] at hw
        rcases hw with rfl | rfl | rfl
        · exact rx_w_in (i := 166) (by decide +kernel)
        · exact rx_w_in (i := 167) (by decide +kernel)
        · exact rx_w_in (i := 113) (by decide +kernel)
      · rcases List.mem_cons.mp hw with rfl | hw
        · exact List.mem_filter.mpr ⟨rx_in1 (List.mem_of_getElem? (i := 59) rfl), rfl⟩
        · exact hw
    exact ⟨hm, rx_TS_good hm⟩) rfl rfl rfl (by decide +kernel) ⟨Nat.le_of_ble_eq_true rfl, Nat.le_of_ble_eq_true rfl⟩) hp rfl rfl hl.1 rfl (lv_room (Nat.le_of_ble_eq_true rfl)) (by decide +kernel : decode prog_22_method_56_code 12 = .ok (.invokestatic 495, 3)) ⟨Nat.zero_le _, Nat.zero_le _⟩) (fun H locs hS => ?_)
  exact W.zret hx hb hr k2 (fun t ht _ => ⟨rfl, hS.F ht⟩) hS.2.2 (by decide +kernel : decode prog_22_method_56_code 15 = .ok (.ireturn, 1))
