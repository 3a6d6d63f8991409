/-! THE LAW'S START: what the Statement gives, as the walk wants it; the loop, over an invariant of the calls -/
def R_law : String := "MadeTownLaw"
def lw_P (b : Addr) (xs : List Int32) (args : Array Value) (s : State) : Prop := args = #[.ref b] ∧ s.IntsAt b xs ∧ xs.length ≤ 4096 ∧ (Jvm.Cond.and given_1 narrow_1).before args s = true
def lw_Q (_ : Array Value) (s : State) (o : Outcome) (t : State) : Prop := o = .returned (some (.int 1)) ∧ Framed s o t [] 1187 52830
def lw_Z (below : List Frame) (a : Array Value) (s : State) : State → Prop := fun t => ∃ o, t.status = .running ∧ Ended t below o ∧ lw_Q a s o t
/-- the law's own end, with 1 on the stack, nothing written that was there before, its room as the claim has it -/
theorem lw_ret {p : Program} {l : Launch} {e : Env} {s : State} {m : MethodId} {below : List Frame} {meth : Method} {c : Code} {b : Nat} (hx : p.tables.exec = Jvm.exec) (hb : c.code = code) (hr : meth.sig.returnType = ret) (hlocks : meth.locks = false) {pc : Nat} {H : Heap} {ls : Array Slot} (hdg : decode code pc = .ok (.ireturn, 1)) : W p l e room_1 s m #[Value.ref b] below meth c H [] 1187 52830 (lw_Z below #[Value.ref b] s) (F0 m pc ls [.int 1]) := by
  intro T hT X
  obtain ⟨fs, hret, hrun, hended, hW, hframe⟩ := X.leave (v := some (.int 1)) (hlocks := hlocks) (fun h => by rw [hr] at h; cases h)
  have hmeth' : T.vm.method? m = some meth := X.method'
  refine ⟨T.setFrames fs, ?_, .returned (some (.int 1)), hrun, hended, rfl, ⟨_, rfl⟩, hW, hframe⟩
  jvm_step X.here [X.here.top, hx, hb, hdg, hmeth', hr, ret, narrow_b1]
  (try refine ⟨rfl, ?_⟩); (try refine ⟨rfl, ?_⟩)
  first | (intro acts; rw [hret _ acts rfl rfl rfl]) | rw [hret _ _ rfl rfl rfl]
  exact Steps.refl _
/-- what holds at the law's entry -/
def lw_At (p : Program) (s : State) (m : MethodId) (meth : Method) (c : Code) (b L : Nat) (xs : Nat → Int32) : Prop :=
  p.tables.exec = Jvm.exec ∧ c.code = code ∧ meth.sig.returnType = ret ∧ c.maxLocals = 7 ∧ s.vm.findClass R_law = some m.cls ∧ (∀ w ∈ lw_tbl, w.before #[Value.ref b] s = true) ∧ va_X b L xs s s.heap ∧ b < s.heap.size ∧ meth.locks = false ∧ (Jvm.Cond.and given_1 narrow_1).before #[Value.ref b] s = true
theorem rz_arr {args : Array Value} {s : State} {ty : FieldType} (h : (Cond.arrayClass ty).before args s = true) (hra : ∀ cA, s.vm.findClass ("[" ++ ty.toString) = some cA → va_RA s cA ty) : ∃ cA, ArrOfT s cA ty ∧ va_RA s cA ty := by
  obtain ⟨cA, kA, comp, h1, h2, h3⟩ := Cond.arrayClass_spec h
  exact ⟨cA, fun n z => ⟨(fun k h => by cases h), kA, h2, comp, h3⟩, hra cA h1⟩
set_option maxRecDepth 100000 in
theorem rz_known {args : Array Value} {s : State} (hts : ∀ w ∈ rx_TS, w.before args s = true) : ∃ (D : va_G) (tc : Nat → ClassId), va_K D rx_cl (rx_tys tc) s := by
  have h1 : ∀ a : Nat, ∃ z : ClassId × (Nat → Nat), a < 13 → u_Kn s (rx_R.getD a "") (rx_T a) (rx_N a) z.1 z.2 := by
    intro a
    by_cases ha : a < 13
    · have hi : ∃ n, (Cond.instantiable (rx_R.getD a "") n).before args s = true := by
        by_cases h4 : a = 4
        · subst h4
          exact ⟨6, hts _ ((rx_C (a := 0) (by decide)).2.2.2 (by decide)).1⟩
        · exact ⟨_, hts _ ((rx_C ha).2.2.2 h4).1⟩
      obtain ⟨n, hi⟩ := hi
      obtain ⟨cC, iS, h⟩ := u_known hts (rx_C ha).1 hi
      exact ⟨(cC, iS), fun _ => h⟩
    · obtain ⟨cA, -⟩ := rz_arr (hts _ (rx_w_in (i := 223) (by decide +kernel) : Cond.arrayClass .int ∈ rx_TS)) (fun _ h => h)
      exact ⟨(cA, fun _ => 0), fun h => absurd h ha⟩
  obtain ⟨z, hz⟩ := Classical.axiomOfChoice h1
  obtain ⟨t1, a1⟩ := rz_arr (hts _ (rx_w_in (i := 223) (by decide +kernel) : Cond.arrayClass .int ∈ rx_TS)) (fun _ h => h)
  obtain ⟨t2, a2⟩ := rz_arr (hts _ (rx_w_in (i := 224) (by decide +kernel) : Cond.arrayClass .long ∈ rx_TS)) (fun _ h => h)
  obtain ⟨t3, a3⟩ := rz_arr (hts _ (rx_w_in (i := 320) (by decide +kernel) : Cond.arrayClass .boolean ∈ rx_TS)) (fun _ h => h)
  obtain ⟨t4, a4⟩ := rz_arr (hts _ (rx_w_in (i := 225) (by decide +kernel) : Cond.arrayClass .byte ∈ rx_TS)) (fun _ h => h)
  refine ⟨(fun k => (z k).1, fun k => (z k).2), fun k => if k = 1 then t1 else if k = 2 then t2 else if k = 3 then t3 else t4, fun a q hq => ?_, fun k q hk => ?_⟩
  · have ha : a < 13 := (List.getElem?_eq_some_iff.mp hq).1
    rw [rx_cl_get ha] at hq
    cases hq
    exact hz a ha
  · match k, hk with
    | 0, hk => cases hk; exact a1
    | 1, hk => cases hk; exact a2
    | 2, hk => cases hk; exact a3
    | 3, hk => cases hk; exact a4
    | k + 4, hk => exact absurd (List.getElem?_eq_some_iff.mp hk).1 (by show ¬ (k + 4 < 4); omega)
def rz_el (j : Nat) : Cond := Cond.eq (.elem (.field (.string "MadeTown$Tape" 28) "java/lang/String" "value" "[B") (.int (Int32.ofNat j))) (.int ((rx_txt.map Int32.ofNat).getD j 0))
set_option maxRecDepth 1000000 in
set_option maxHeartbeats 8000000 in
theorem rz_els : ∀ j, j < 101 → rz_el j ∈ flatC (Jvm.Cond.and given_1 narrow_1) := by decide +kernel
set_option maxRecDepth 1000000 in
set_option maxHeartbeats 8000000 in
theorem rz_str {s : State} {b : Nat} (hts : ∀ w ∈ lw_tbl, w.before #[Value.ref b] s = true) (hgv : (Jvm.Cond.and given_1 narrow_1).before #[Value.ref b] s = true) :
    ∃ q, ∀ ad : Nat → Nat, ad 9998 = q → rx_Str ad (fun z => s.heap.size ≤ z) s s.heap := by
  have hs := flat_of_before _ hgv
  have hA : ∀ a : Nat, a < s.heap.size → ¬ s.heap.size ≤ a := fun a h => Nat.not_le.mpr h
  obtain ⟨adK, adV, hS9, hev⟩ := vk_Sof (s := s) (args := #[Value.ref b]) (N := 1) (tm := fun _ => Term.string "MadeTown$Tape" 28) (len := [rx_txt.length]) (byt := [rx_txt.map Int32.ofNat]) (A := fun z => s.heap.size ≤ z)
    (fun i hi => by rw [show i = 0 by omega]; decide +kernel) (fun i hi => hs _ (by decide +kernel)) (fun i hi => hs _ (by decide +kernel)) (fun i hi => hs _ (by decide +kernel))
    (fun i hi => by rw [show i = 0 by omega]; exact hs _ (by decide +kernel)) (fun i hi j hj => by rw [show i = 0 by omega] at hj ⊢; exact hs _ (rz_els j hj)) (fun i j hi hj hij => absurd (by omega) hij) hA
  refine ⟨adK 0, fun ad had => ⟨⟨adV, ?_, ?_⟩, ?_, ?_⟩⟩
  · rw [had]
    exact vk_R.of (hts (.stringRef "MadeTown$Tape" 28 rx_text) (by decide +kernel)) (hev 0 (by decide))
  · refine ⟨fun i hi => ?_, fun i j hi hj _ => by omega⟩
    obtain rfl : i = 0 := by omega
    show va_O "java/lang/String" (ad 9998) _ _ _ ∧ _
    rw [had]
    exact hS9.1 0 (by decide)
  · exact va_Zof (hts (.laysStatic "java/lang/String" "COMPACT_STRINGS" "Z") (by decide +kernel)) (hts (.initialized "java/lang/String") (by decide +kernel)) (va_eqt (hs _ (by decide +kernel))) hA
  · exact va_Zqof (hts (.laysStatic "jdk/internal/util/Preconditions" "SIOOBE_FORMATTER" "Ljava/util/function/BiFunction;") (by decide +kernel)) (hts (.initialized "jdk/internal/util/Preconditions") (by decide +kernel)) (hs _ (by decide +kernel)) hA
set_option maxRecDepth 1000000 in
set_option maxHeartbeats 8000000 in
theorem rz_exc {l : Launch} {s : State} {b cur : Nat} (hflags : l.flags = flags0) (hts : ∀ w ∈ lw_tbl, w.before #[Value.ref b] s = true) (hgv : (Jvm.Cond.and given_1 narrow_1).before #[Value.ref b] s = true) (hown : s.vm.findClass "MadeTown" = some cur) :
    ∃ q, rv_E l q (fun z => s.heap.size ≤ z) s s.heap := by
  have hs := flat_of_before _ hgv
  have hA : ∀ a : Nat, a < s.heap.size → ¬ s.heap.size ≤ a := fun a h => Nat.not_le.mpr h
  have hr := hts (.stringRef "MadeTown" 139 "no such SETTING") (by decide +kernel)
  obtain ⟨k, cf, i, a, -, -, -, -, -, hev⟩ := Cond.stringRef_spec hown hr
  refine ⟨a, ⟨?_, ?_, ?_, ?_, ?_⟩, vk_R.of hr hev, ?_, ?_⟩
  · unfold Launch.stackTraces
    rw [hflags]
    decide +kernel
  · exact va_Nw.of rfl (hts (.castable rv_nse rv_nse) (by decide +kernel))
  · exact va_Nw.of rfl (hts (.declares (Bundle.initS "java/lang/RuntimeException")) (by decide +kernel))
  · exact va_Nw.of rfl (hts (.declares (Bundle.initS "java/lang/Exception")) (by decide +kernel))
  · exact va_Nw.of rfl (hts (.declares (Bundle.initS Bundle.tN)) (by decide +kernel))
  · exact vx_Zqof (hts (.laysStatic Bundle.tN "UNASSIGNED_STACK" Bundle.steD) (by decide +kernel)) (hts (.initialized Bundle.tN) (by decide +kernel)) (hs _ (by decide +kernel)) hA
  · exact vx_Zqof (hts (.laysStatic Bundle.tN "SUPPRESSED_SENTINEL" Bundle.listD) (by decide +kernel)) (hts (.initialized Bundle.tN) (by decide +kernel)) (hs _ (by decide +kernel)) hA
set_option maxRecDepth 1000000 in
theorem rz_nest : ∀ q ∈ rx_nest, Cond.methodLinkNest q.1 q.2.1 q.2.2 "MadeTown" ∈ lw_tbl := by decide +kernel
/-- the loop -/
theorem rz_run {L : Nat} {xs : Nat → Int32} (hL : L ≤ 4096) (Inv : Nat → Nat → Nat → Nat → rx_St → Prop)
    (step : ∀ (n : Nat) (v : Int32) (w p2 p3 : Nat) (σ : rx_St), (w = 0 ∨ w = 1) → Inv (n + 1) w p2 p3 σ → ∃ w' p2' p3' d σ', rw_step xs v w p2 p3 σ w' p2' p3' d σ' ∧ Inv n w' p2' p3' σ') :
    ∀ (n i c s w p2 p3 : Nat) (σ : rx_St), i ≤ L → L - i < 8 * (n + 1) → (w = 0 ∨ w = 1) → Inv n w p2 p3 σ →
      ∃ out : rx_O, rx_AtP (rv_S L xs) 263 23 (rw_L (nI i)) [] (162, c, s, [], rw_P w p2 p3, σ) out ∧ out.1 = some (.int 1) ∧ (c ≤ out.2.2.1 ∧ s ≤ out.2.2.2.1) ∧ out.2.2.1 ≤ c + n ∧ out.2.2.2.1 ≤ s + 6 * n := by
  intro n
  induction n with
  | zero =>
    intro i c s w p2 p3 σ hi hn hw hI
    exact ⟨_, rw_end (by omega) hi hL, rfl, ⟨Nat.le_refl _, Nat.le_refl _⟩, Nat.le_refl _, Nat.le_refl _⟩
  | succ n ih =>
    intro i c s w p2 p3 σ hi hn hw hI
    by_cases h8 : i + 8 ≤ L
    · obtain ⟨w', p2', p3', d, σ', hs, hI'⟩ := step n (nI i) w p2 p3 σ hw hI
      have hw' := hs.1
      have hd := hs.2.1
      obtain ⟨out, hA, ho, ⟨h1, h2⟩, h3, h4⟩ := ih (i + 8) (c + d) (s + 6 * d) w' p2' p3' σ' h8 (by omega) hw' hI'
      have hA' : rx_AtP (rv_S L xs) 263 23 (rw_L (nI i + (8 : Int32))) [] (162, c + d, s + 6 * d, [], rw_P w' p2' p3', σ') out := by
        rw [show nI i + (8 : Int32) = nI (i + 8) from nI_add i 8]
        exact hA
      refine ⟨out, ?_, ho, ⟨by omega, by omega⟩, by omega, by omega⟩
      rcases hw with rfl | rfl
      · exact rw_one_0 h8 hL h1 h2 hs hA'
      · exact rw_one_1 h8 hL h1 h2 hs hA'
    · exact ⟨_, rw_end (by omega) hi hL, rfl, ⟨Nat.le_refl _, Nat.le_refl _⟩, Nat.le_add_right _ _, Nat.le_add_right _ _⟩
/-- what the makings leave -/
def rz_s0 : rx_St := rx_z (f_m_init_0 (rx_z (f_c_init_0 (rx_z (fun _ _ => 0, fun _ _ => 0) 0)) 87)) 161
set_option maxRecDepth 1000000 in
set_option maxHeartbeats 16000000 in
theorem rz_entry {L : Nat} {xs : Nat → Int32} {out : rx_O} (h1 : 162 ≤ out.2.2.1) (h2 : 48000 ≤ out.2.2.2.1) (nx : ∀ s, s ≤ 48000 → rx_AtP (rv_S L xs) 263 23 (rw_L (nI 0)) [] (162, 162, s, [], rw_P 0 21 21, rz_s0) out) :
    rx_AtP (rv_S L xs) 263 0 [(0, .ref 9999)] [] (0, 0, 0, [], [8000, 8000, 8000, 8000, 8000], (fun _ _ => 0, fun _ _ => 0)) out := by
  have f : ∀ {a b : Nat}, Nat.ble a b = true → b ≤ out.2.2.1 → a ≤ out.2.2.1 := fun h h9 => Nat.le_trans (Nat.le_of_ble_eq_true h) h9
  have g : ∀ {a b : Nat}, Nat.ble a b = true → b ≤ out.2.2.2.1 → a ≤ out.2.2.2.1 := fun h h9 => Nat.le_trans (Nat.le_of_ble_eq_true h) h9
  refine rx_walk [23] 3000 (by decide) (rx_e263 L xs) ?_
  refine rr_ck ⟨f rfl h1, g rfl h2⟩ ?_
  refine rr_callC (f_c_init_0_ok _) ⟨rfl, Nat.le_of_ble_eq_true rfl, f rfl h1, g rfl h2⟩ ?_
  refine rr_ck ⟨f rfl h1, g rfl h2⟩ ?_
  refine rr_callC (f_m_init_0_ok _) ⟨rfl, Nat.le_of_ble_eq_true rfl, f rfl h1, g rfl h2⟩ ?_
  refine rr_ck ⟨rfl, f rfl h1, g rfl h2⟩ ?_
  exact rx_sub (nx _ (Nat.le_of_ble_eq_true rfl)) [4, 3, 2, 1, 0] rfl
set_option maxRecDepth 1000000 in
set_option maxHeartbeats 8000000 in
theorem rz_start (Inv : Nat → Nat → Nat → Nat → rx_St → Prop) (init : Inv 512 0 21 21 rz_s0)
    (step : ∀ (xs : Nat → Int32) (n : Nat) (v : Int32) (w p2 p3 : Nat) (σ : rx_St), (w = 0 ∨ w = 1) → Inv (n + 1) w p2 p3 σ → ∃ w' p2' p3' d σ', rw_step xs v w p2 p3 σ w' p2' p3' d σ' ∧ Inv n w' p2' p3' σ')
    {p : Program} {e : Env} {s : State} {m : MethodId} {below : List Frame} {meth : Method} {c : Code} (l : Launch) (hflags : l.flags = flags0) {b L : Nat} {xs : Nat → Int32} (hL : L ≤ 4096) (C0 : lw_At p s m meth c b L xs) : W p l e room_1 s m #[Value.ref b] below meth c s.heap [] 0 0 (lw_Z below #[Value.ref b] s) (entryFrame m ([Value.ref b] : List Value).toArray 7) := by
  obtain ⟨hx, hb, hr, hml, hown, hts, hX, hbl, hlocks, hgv⟩ := id C0
  have hts' : ∀ w ∈ rx_TS, w.before #[Value.ref b] s = true := fun w hw => hts w (List.mem_filter.mp hw).1
  obtain ⟨D, tc, hK⟩ := rz_known hts'
  obtain ⟨q, hstr⟩ := rz_str hts hgv
  obtain ⟨q2, hE⟩ := rz_exc (cur := D.1 11) hflags hts hgv (hK.1 11 _ (rx_cl_get (a := 11) (by decide))).2.1
  obtain ⟨out, hA, ho, ⟨h1, h2⟩, h3, h4⟩ := rz_run hL Inv (step xs) 512 0 162 48000 0 21 21 rz_s0 (Nat.zero_le _) (by omega) (Or.inl rfl) init
  have hnx : ∀ s, s ≤ 48000 → rx_AtP (rv_S L xs) 263 23 (rw_L (nI 0)) [] (162, 162, s, [], rw_P 0 21 21, rz_s0) out := by
    intro s hs
    intro p l e R s m args below meth c D tc ad H0 A Q H locs ls cx hc hP hD hS hl hr
    exact W.widen (Nat.le_refl _) hs (hA p l e R s m args below meth c D tc ad H0 A Q H locs ls cx hc hP hD hS hl hr)
  have hE0 := rz_entry h1 h2 hnx
  have hl := lv_entry ([.ref b]) (n := 7) (Nat.le_of_ble_eq_true rfl)
  rw [lg_entry_eq]
  generalize (lg_sl ([.ref b]) ++ List.replicate (7 - (lg_sl ([.ref b])).length) Slot.unset).toArray = ls at hl ⊢
  have hl : lv_has ls 7 (rx_lc (fun k => if k = 9999 then b else if k = 9998 then q else 0) [(0, .ref 9999)]) := hl
  have hw0 : rx_W tc (fun k => if k = 9999 then b else if k = 9998 then q else 0) (0, 0, 0, [], [8000, 8000, 8000, 8000, 8000], (fun _ _ => 0, fun _ _ => 0)) = [] := rfl
  refine hE0 p l e room_1 s m #[Value.ref b] below meth c D tc (fun k => if k = 9999 then b else if k = 9998 then q else 0) s.heap (fun z => s.heap.size ≤ z) _ s.heap [] ls ?_ ⟨?_, ?_⟩ (by rw [hw0]; intro k q h; simp at h) (by rw [hw0]; exact ⟨fun i j p q h => by simp at h, fun k q h => by simp at h⟩) va_S.rf hl ?_
  · refine ⟨hx, hb, hml, hown, hts', fun z hz => va_Nw.of rfl (hts _ (rz_nest z hz)), hK, ⟨by decide +kernel, by decide +kernel⟩, fun _ h => h, fun h => absurd h (by decide +kernel), hstr _ rfl, ⟨hX, hbl, Nat.not_le.mpr hbl⟩, ⟨q2, hE⟩⟩
  · exact Nat.le_trans h3 (Nat.le_of_ble_eq_true rfl)
  · exact Nat.le_trans h4 (Nat.le_of_ble_eq_true rfl)
  · intro H locs ad' ls pc hag hP' hD' hS' hdg hok
    rw [ho] at hdg ⊢
    refine va_forget (fun z hz => hS'.2.2 z hz) ?_
    exact W.widen (Nat.le_trans h3 (Nat.le_of_ble_eq_true rfl)) (Nat.le_trans h4 (Nat.le_of_ble_eq_true rfl)) (lw_ret hx hb hr hlocks hdg)
