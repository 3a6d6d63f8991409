/-! THE BEGINNING, and the claim out of the walk (from whole_start on: the rows given for pasting) -/
set_option maxRecDepth 100000 in
theorem rz_v1 : rz_s0.1 0 5 = rz_s0.1 87 17 ∧ rz_s0.1 87 18 = nI 0 ∧ rz_s0.1 38 2 = nI 0 ∧ rz_s0.1 38 7 = tw_B false ∧ rz_s0.1 38 8 = nI 0 ∧ rz_s0.1 76 2 = nI 0 ∧ rz_s0.1 76 8 = nI 0 ∧ rz_s0.1 76 13 = nI 1 ∧ rz_s0.1 76 15 = nI 0 ∧ rz_s0.1 76 16 = nI 0 ∧ rz_s0.1 86 0 = nI 0 := by decide +kernel
set_option maxRecDepth 100000 in
theorem rz_v2 : rz_s0.1 95 0 = nI 0 ∧ rz_s0.1 98 0 = nI 0 ∧ rz_s0.1 7 0 = nI 0 ∧ rz_s0.1 7 3 = nI 0 ∧ rz_s0.1 7 12 = nI 0 ∧ rz_s0.1 7 13 = tw_B false ∧ rz_s0.1 35 6 = nI 0 ∧ rz_s0.1 87 60 = nI 0 ∧ rz_s0.1 87 65 = tw_B false ∧ rz_s0.1 87 86 = nI 0 ∧ rz_s0.1 87 90 = nI 0 ∧ rz_s0.1 87 96 = nI 0 ∧ rz_s0.1 72 2 = nI 0 ∧ rz_s0.1 1 1 = nI 0 ∧ rz_s0.1 87 2 = nI 0 := by decide +kernel
set_option maxRecDepth 100000 in
theorem rz_v3 : ∀ k, k < 23 → rz_s0.2 6 k = qL (tw_pk 32 (tw_word k)) ∧ rz_s0.2 94 k = qL (tw_pk 27 (tw_word k)) := by decide +kernel
theorem rI.init : rI 512 0 21 21 rz_s0 := by
  obtain ⟨a1, a2, a3, a4, a5, a6, a7, a8, a9, a10, a11⟩ := rz_v1
  obtain ⟨b1, b2, b3, b4, b5, b6, b7, b8, b9, b10, b11, b12, b13, b14, b15⟩ := rz_v2
  have v3 := rz_v3
  generalize rz_s0 = σ at *
  have hT : ∀ (i : Nat) (x : tw_Tk), ([] : List tw_Tk)[i]? = some x → tw_tkok x := fun i x hx => by cases hx
  have hU : ty_vP [] ([], []) := ⟨fun x hx => (by cases hx), Nat.zero_le _, fun x hx => (by cases hx), Nat.zero_le _⟩
  have hd : ∀ K ∈ (([], []) : ty_Wo).2, ty_dK K := fun K hK => by cases hK
  have hE : tz_E [] ([], []) = [] := rfl
  have mr : ta_mr 0 [] ([], []) σ := ⟨⟨b1, Nat.zero_le _, fun i t ht => (by cases ht)⟩, fun i x hx => (by cases hx), ⟨b2, Nat.zero_le _, fun i t ht => (by cases ht)⟩, trivial, fun p x hx => (by cases hx), fun p x hx => (by cases hx), fun x hx => (by cases hx), by decide, by decide⟩
  have wr : tz_wr 0 [] ([], []) σ := ⟨⟨b3, Nat.zero_le _, fun i x hx => (by cases hx)⟩, b4, Nat.zero_le _, trivial⟩
  have cd : tz_cd2 0 (tz_kD [] ([], []) 0 0 []) σ := ⟨b5, Nat.zero_le _, fun p x hx => (by cases hx)⟩
  have wok := ta_wok hT hU hd hE
  refine rI.of (T := []) (U := ([], [])) (lv := 0) (N := (0, fun _ => 0, fun _ => 0)) (pl := fun _ => 0) (bg := fun _ => 0) (dl := false) (st := fun _ => 0) (tn := 0) (cs := []) (sp := []) (se := []) (x := 0) ⟨⟨mr, ⟨hT, hU, hd, hE⟩, wr, a1, fun k hk => (v3 k hk).1, fun k hk => (v3 k hk).2, 0, Nat.zero_le _, b7⟩, ⟨⟨⟨⟨a3, Nat.zero_le _⟩, fun q hq => absurd hq (Nat.not_lt_zero _), a4, wok⟩, ta_WR hT hU hd hE wr cd b6, fun i hi => absurd hi (Nat.not_lt_zero _)⟩, ⟨⟨⟨b8, Nat.zero_le _⟩, fun q hq => absurd hq (Nat.not_lt_zero _), b9, wok⟩, ta_MW (by decide) a2 hU hd hE mr, fun i hi => absurd hi (Nat.not_lt_zero _)⟩, by decide⟩, ⟨fun q hq => absurd hq (Nat.not_lt_zero _), fun q v hq => absurd hq (Nat.not_lt_zero _)⟩, ⟨⟨b14, b15, Nat.zero_le _⟩, fun j hj => absurd hj (Nat.not_lt_zero _)⟩, ⟨⟨b13, b10, Nat.zero_le _⟩, fun i p hp => (by cases hp)⟩, ⟨⟨⟨Nat.zero_le _, by decide, by decide, fun i x hx => (by cases hx)⟩, Nat.zero_le _, fun i x hx => (by cases hx)⟩, ⟨⟨a7, a8, fun i x hx => (by cases hx)⟩, a6, fun i x hx => (by cases hx)⟩, ⟨⟨b12, fun i x hx => (by cases hx)⟩, b11, fun i x hx => (by cases hx)⟩⟩⟩ ⟨0, 0, a10, a5, Nat.le_refl _, by decide, fun _ => ⟨by decide, a9, fun p hp => ?_⟩⟩ (by decide)
  have hp : p < 1 := hp
  obtain rfl : p = 0 := by omega
  exact a11
theorem whole_start {p : Program} {e : Env} {s : State} {m : MethodId} {below : List Frame} {meth : Method} {c : Code} (l : Launch) (hflags : l.flags = flags0) {b L : Nat} {xs : Nat → Int32} (hL : L ≤ 4096) (C0 : lw_At p s m meth c b L xs) : W p l e room_1 s m #[Value.ref b] below meth c s.heap [] 0 0 (lw_Z below #[Value.ref b] s) (entryFrame m ([Value.ref b] : List Value).toArray 7) := by
  exact rz_start rI rI.init (fun xs n v w p2 p3 σ hw h => rI.step xs v hw h) l hflags hL C0
set_option maxHeartbeats 4000000 in
theorem lw_walk (l : Launch) (hflags : l.flags = flags0) (b : Addr) (xs : List Int32) : MetFree l x (headSpec (Jvm.Cond.code x code maxLocals ret :: tables_1) room_1) (lw_P b xs) (fun _ _ _ _ _ => True) lw_Q := by
  refine MetFree.of_bodyS (code := code) (maxLocals := maxLocals) (ret := ret) (by decide) ?_ ?_
  · intro args s m h hn
    obtain ⟨meth, c, h1, h2, h3, h4, h5, h6, -, -⟩ := Cond.code_spec hn (atoms_spec (ws := Jvm.Cond.code x code maxLocals ret :: tables_1) h _ List.mem_cons_self)
    exact ⟨meth, c, h1, h2, h3, h4, h5, h6⟩
  · intro p e s m args below meth c s₁ B hml0 hP _
    obtain ⟨rfl, hx, hbd, hgv⟩ := hP
    obtain ⟨scr, harrAt, hlist, hof, hsmall⟩ := hx
    obtain ⟨hcb, hkn, -, -⟩ := State.arrayAt?_spec harrAt
    have hown : s.vm.findClass R_law = some m.cls := findClass_of_methodNamed B.named
    have hts0 : ∀ c ∈ (Jvm.Cond.code x code maxLocals ret :: tables_1), c.before #[Value.ref b] s = true := atoms_spec (ws := Jvm.Cond.code x code maxLocals ret :: tables_1) B.pre
    have hts : ∀ w ∈ lw_tbl, w.before #[Value.ref b] s = true := k2_hts_sels lw_privs (fun w hw => hts0 w (List.mem_cons_of_mem _ hw)) lw_privs_ok
    have hml : c.maxLocals = 7 := B.maxLocals_eq (hts0 _ List.mem_cons_self)
    have X₀ : Stand p l e room_1 s m #[Value.ref b] below meth c s₁ [] 0 0 := Stand.of_body B
    have hh0 : s₁.heap = s.heap := by rw [B.state]; rfl
    have hsz : scr.slots.size = xs.length := by rw [← Array.length_toList, hlist, List.length_map]
    have hval : ∀ j : Nat, j < xs.length → scr.slots[j]? = some (.int (xs.getD j 0)) := fun j hj => by
      rw [← Array.getElem?_toList, hlist]
      simp [hj]
    have hbl : b < s.heap.size := (Array.getElem?_eq_some_iff.mp hcb).1
    have hX : va_X b xs.length (fun j => xs.getD j 0) s s.heap := ⟨scr, hcb, hof, hkn, hsz, hval⟩
    have K : W p l e room_1 s m #[Value.ref b] below meth c s₁.heap [] 0 0 (lw_Z below #[Value.ref b] s) (entryFrame m ([Value.ref b] : List Value).toArray 7) := by
      rw [hh0]
      exact whole_start l hflags hbd ⟨B.exec, B.bytes, B.returns, hml, hown, hts, hX, hbl, B.notSynchronized, hgv⟩
    obtain ⟨t, a1, o, b1, b2, b3⟩ := K s₁ rfl X₀
    exact ⟨t, o, a1, b1, b2, b3⟩
theorem lw_pre_spec {args : Array Value} {s : State} (h : (Jvm.Cond.and given_1 narrow_1).before args s = true) (hr : rest_1_c.before args s = true) : ∃ (b : Addr) (xs : List Int32), lw_P b xs args s := by
  have hs := flat_of_before _ h
  have hq := flat_of_before _ hr
  have hc : (Cond.count 1).before args s = true := hs _ (by decide +kernel)
  have harr : (Cond.arrayOf (.arg 0) .int).before args s = true := hs _ (by decide +kernel)
  have hle : (Cond.le (.length (.arg 0)) (.int 4096)).before args s = true := hs _ (by decide +kernel)
  have hlen : (Cond.isInt (.length (.arg 0))).before args s = true := hq _ (by decide +kernel)
  have hall : (Cond.all (.arg 0) (.isInt (.elem (.arg 0) (.index 0)))).before args s = true := hq _ (by decide +kernel)
  obtain ⟨b, xs, hb, hx⟩ := State.ints_of_pre rfl harr hlen hall
  have hsm : xs.length < 2 ^ 31 := hx.choose_spec.2.2.2
  have hev : (Term.length (.arg 0)).eval args s none [] s = some (.int xs.length.toInt32) := hx.length_eval hb
  have hv := Cond.le_ints hev (show (Term.int 4096).eval args s none [] s = some (.int 4096) from rfl)
  have hd : xs.length.toInt32 ≤ 4096 := by
    simpa [Cond.before, Cond.holds, hv] using hle
  have hN : xs.length ≤ 4096 := (Int32.ofNat_le_ofNat hsm (by decide)).mp (show Int32.ofNat xs.length ≤ Int32.ofNat 4096 from hd)
  exact ⟨b, xs, Cond.one_arg hc (show args[0]? = some (.ref b) from hb), hx, hN, h⟩
theorem lw_comes (l : Launch) (hflags : l.flags = flags0) : Comes l x (Jvm.Cond.code x code maxLocals ret :: tables_1) room_1 (fun tb e args s => Calls_1 tb e args s ∧ rest_1 tb e args s ∧ Pre_1 tb e args s)
    (fun _ _ args s o t => lw_Q args s o t) := by
  intro p e ha hc hk s m args below hf hfit hheap happ hpre
  obtain ⟨b, xs, hP⟩ := lw_pre_spec hpre.2.2 hpre.2.1
  obtain ⟨k, o, h1, h2, h3, hQ⟩ := lw_walk l hflags b xs p e ha hc hk s m args below hf ((Spec.applies_iff_loose hf).mp happ).1 hP trivial
  exact ⟨k, o, h1, h2, h3, hQ⟩
theorem lw_frame {s t : State} {o : Outcome} {args : Array Value} (h : Framed s o t [] 1187 52830) :
    Framed s o t (fieldLocs frame_1_writes args s ++ arrayLocs frame_1_arrays args s ++ staticLocs frame_1_statics s) 1187 52830 := h
theorem lw_limb (L : Cond) (hL : ∀ (args : Array Value) (s t : State), L.after args s (.returned (some (.int 1))) t = true) :
    ArmFor flags0 classFile x code maxLocals ret World_1 tables_1 room_1 Calls_1 rest_1 Pre_1
      (fun tb e a s o t => postC L tb e a s o t ∧ Framed s o t (fieldLocs frame_1_writes a s ++ arrayLocs frame_1_arrays a s ++ staticLocs frame_1_statics s) 1187 52830) := by
  intro l hflags _ _ p e ha hc hk s m args below hf hfit hheap happ hpre
  obtain ⟨k, o, h1, h2, h3, rfl, hF⟩ := lw_comes l hflags p e ha hc hk s m args below hf hfit hheap happ hpre
  exact ⟨k, _, h1, h2, h3, hL args s _, lw_frame hF⟩
theorem i_vc : Claimed_1_1 ∧ Claimed_1_2 := ⟨lw_limb limb_1_1 (fun args s t => by simp [limb_1_1, Cond.after, Cond.holds, Cond.value]), lw_limb limb_1_2 (fun args s t => Cond.after_iff.mpr (by
  first | (rw [show limb_1_2 = Cond.eq .result (.int 1) from rfl, Cond.eq_ints (x := 1) (y := 1) rfl rfl]; simp; done) | (simp [limb_1_2, Cond.value, Term.eval]; done)))⟩
