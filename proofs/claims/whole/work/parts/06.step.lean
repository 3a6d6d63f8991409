theorem rx_oi1 : Cond.instanceMethod Lib.objectInit ∈ rx_TS := rx_w_in (i := 139) (by decide +kernel)
set_option maxRecDepth 100000 in
theorem rx_oi2 : Cond.code Lib.objectInit ⟨#[0xb1]⟩ 1 none ∈ rx_TS := List.mem_filter.mpr ⟨rx_in1 (List.mem_of_getElem? (i := 31) rfl), rfl⟩
theorem rx_off_eq {pc a : Nat} {off : Int} (h : rx_off pc off a = true) : (pc : Int) + off = (a : Int) := of_decide_eq_true h
/-- what is told elsewhere -/
def rx_spec (i : rx_I) : Bool := match i.2.1 with
  | .ldc _ | .ldc_w _ => !(i.2.2.2.1 == 0)
  | .invokevirtual _ | .invokestatic _ => Nat.ble 9000 i.2.2.2.1
  | _ => false
def rx_Ext (S : rx_S) (mi : Nat) : Prop := ∀ (K : rx_KT) (out : rx_O), (∀ is L st X, K is L st X → (∃ pre, rx_code mi = pre ++ is) → rx_At S mi is L st X out) → (∀ L st X, ¬ K [] L st X) →
  ∀ (i : rx_I) (is : List rx_I) (L : rx_L) (st : List Value) (X : rx_X), (∃ pre, rx_code mi = pre ++ i :: is) → rx_spec i = true → rx_stepX K out is L st X i.2.2.2.1 → rx_At S mi (i :: is) L st X out
theorem rx_Ext_plain {S : rx_S} {mi : Nat} (h : (rx_code mi).all (fun i => !rx_spec i) = true) : rx_Ext S mi := by
  intro K out _ _ i is L st X ⟨pre, hp⟩ hs
  have h1 := List.all_eq_true.mp h i (by rw [hp]; exact List.mem_append_right _ List.mem_cons_self)
  rw [hs] at h1
  cases h1
theorem rx_sw_in {x : Int32} {d : Prop} {K : Nat → Prop} {pc : Nat} : ∀ (offs : List Int) (lo : Nat) (sw : List (Int32 × Nat)), rx_swT pc lo offs sw = true → lo + offs.length < 2 ^ 31 → rx_sw x d K sw →
    (∃ (j : Nat) (off : Int) (t : Nat), offs[j]? = some off ∧ x = nI (lo + j) ∧ (pc : Int) + off = (t : Int) ∧ K t) ∨ ((∀ j, j < offs.length → x ≠ nI (lo + j)) ∧ d)
  | [], lo, [], _, _, h => Or.inr ⟨fun j hj => absurd hj (Nat.not_lt_zero _), h⟩
  | [], lo, q :: r, hc, _, _ => by cases hc
  | o :: os, lo, [], hc, _, _ => by cases hc
  | o :: os, lo, q :: r, hc, hl, h => by
    have hc' : (decide (nI lo = q.1) && (rx_off pc o q.2 && rx_swT pc (lo + 1) os r)) = true := hc
    simp only [Bool.and_eq_true, decide_eq_true_eq] at hc'
    obtain ⟨h1, h2, h3⟩ := hc'
    obtain ⟨ht, hf⟩ : (x = q.1 → K q.2) ∧ (¬ x = q.1 → rx_sw x d K r) := h
    by_cases hx : x = q.1
    · exact Or.inl ⟨0, o, q.2, rfl, by rw [hx, ← h1]; rfl, rx_off_eq h2, ht hx⟩
    · rcases rx_sw_in os (lo + 1) r h3 (by simp only [List.length_cons] at hl; omega) (hf hx) with ⟨j, off, t, a1, a2, a3, a4⟩ | ⟨a1, a2⟩
      · exact Or.inl ⟨j + 1, off, t, by simpa using a1, by rw [a2]; congr 1; omega, a3, a4⟩
      · refine Or.inr ⟨fun j hj => ?_, a2⟩
        cases j with
        | zero => rw [Nat.add_zero, h1]; exact hx
        | succ j => rw [show lo + (j + 1) = lo + 1 + j by omega]; exact a1 j (by simp only [List.length_cons] at hj; omega)
theorem rx_lk_in {x : Int32} {d : Prop} {K : Nat → Prop} {pc : Nat} (dflt : Int) : ∀ (ps : List (Int × Int)) (sw : List (Int32 × Nat)), rx_swL pc ps sw = true → rx_sw x d K sw →
    (∃ t : Nat, (pc : Int) + Op.lookupswitch.offset ps dflt x.toInt = (t : Int) ∧ K t) ∨ (Op.lookupswitch.offset ps dflt x.toInt = dflt ∧ d)
  | [], [], _, h => Or.inr ⟨rfl, h⟩
  | [], q :: r, hc, _ => by cases hc
  | o :: os, [], hc, _ => by cases hc
  | o :: os, q :: r, hc, h => by
    have hc' : (decide (0 ≤ o.1 ∧ o.1 < 10000 ∧ nI o.1.toNat = q.1) && (rx_off pc o.2 q.2 && rx_swL pc os r)) = true := hc
    simp only [Bool.and_eq_true, decide_eq_true_eq] at hc'
    obtain ⟨⟨k1, k2, k3⟩, h2, h3⟩ := hc'
    obtain ⟨ht, hf⟩ : (x = q.1 → K q.2) ∧ (¬ x = q.1 → rx_sw x d K r) := h
    have hq : q.1.toInt = o.1 := by rw [← k3, nI_toInt (by omega)]; omega
    by_cases hx : x = q.1
    · refine Or.inl ⟨q.2, ?_, ht hx⟩
      have : Op.lookupswitch.offset (o :: os) dflt x.toInt = o.2 := by
        rw [hx, hq]; simp [Op.lookupswitch.offset]
      rw [this]; exact rx_off_eq h2
    · have hne : ¬ o.1 = x.toInt := fun e => hx (Int32.toInt_inj.mp (by rw [hq, e]))
      have : Op.lookupswitch.offset (o :: os) dflt x.toInt = Op.lookupswitch.offset os dflt x.toInt := by
        simp [Op.lookupswitch.offset, hne]
      rw [this]
      exact rx_lk_in dflt os r h3 (hf hx)
theorem rx_K_set {tc : Nat → ClassId} {t : Nat} {ty : FieldType} {D : va_G} {s : State} {cA : ClassId} (hK : va_K D rx_cl (rx_tys tc ++ [(cA, ty)]) s) (ht : (rx_tys tc)[t]? = some (tc (t + 1), ty)) (hn : ∀ C, ty ≠ .object C) : cA = tc (t + 1) := by
  have h1 := (hK.2 4 (cA, ty) rfl).2
  have h2 := (hK.2 t (tc (t + 1), ty) (by rw [List.getElem?_append_left (List.getElem?_eq_some_iff.mp ht).1]; exact ht)).2
  cases ty with
  | object C => exact absurd rfl (hn C)
  | _ =>
    have h1' : s.vm.findClass _ = some cA := h1
    have h2' : s.vm.findClass _ = some (tc (t + 1)) := h2
    exact Option.some.inj (h1'.symm.trans h2')
theorem rx_M {a : Nat} (h : a < 263) : plainFor (rx_y a) = true ∧ ((rx_y a).cls ≠ "java/lang/invoke/MethodHandle" ∧ (rx_y a).cls ≠ "java/lang/invoke/VarHandle" ∧ (parseMethodDescriptor (rx_y a).desc).map (fun d => d.parameters.length) = some (rx_np a)) ∧ Cond.initialized (rx_y a).cls ∈ rx_TS ∧ (rx_sta a = true → Cond.static (rx_y a) ∈ rx_TS) ∧ (rx_sta a = false → Cond.instanceMethod (rx_y a) ∈ rx_TS ∧ (¬ (rx_y a).name = "<init>" → Cond.selects (rx_y a).cls (rx_y a) (rx_y a) ∈ rx_TS)) := by
  have h1 := rx_okM h
  unfold rx_chkM at h1
  rw [Bool.and_eq_true, Bool.and_eq_true, Bool.and_eq_true, Bool.and_eq_true, decide_eq_true_eq, decide_eq_true_eq] at h1
  obtain ⟨h1, h2, h3, h4, h5⟩ := h1
  refine ⟨h1, ⟨h2.1, h2.2, h3⟩, rx_w_in h4, fun hs => ?_, fun hs => ?_⟩
  · rw [hs] at h5
    exact rx_w_in h5
  · rw [hs, cond_false, Bool.and_eq_true, Bool.or_eq_true, decide_eq_true_eq] at h5
    exact ⟨rx_w_in h5.1, fun hn => rx_w_in (h5.2.resolve_left hn)⟩
theorem rx_TS_good {w : Cond} (h : w ∈ rx_TS) : (w.onTables && w.keeps) = true ∨ ∃ ty, w = .arrayClass ty := good_of_word (List.mem_filter.mp h).2
theorem rx_ws_good {a : Nat} (h : a < 263) : GoodIn rx_TS (rx_ws a) := by
  intro w hw
  have : w ∈ rx_TS := by
    rcases List.mem_cons.mp hw with rfl | hw
    · exact rx_cwA h
    · exact hw
  exact ⟨this, rx_TS_good this⟩
theorem rx_good_app {a : Nat} (h : a < 263) {l : List Cond} (hl : ∀ w ∈ l, w ∈ rx_TS) : GoodIn rx_TS (l ++ rx_ws a) := by
  intro w hw
  rcases List.mem_append.mp hw with hw | hw
  · exact ⟨hl w hw, rx_TS_good (hl w hw)⟩
  · exact rx_ws_good h w hw
theorem rx_old_ne {kc q : Nat} {ad : Nat → Nat} {v : Value} (hk : kc < 9000) (h : rx_old kc v = true) : rx_conc (fun j => if j = kc then q else ad j) v = rx_conc ad v := by
  cases v with
  | ref r =>
    have h' : (Nat.blt r kc || Nat.ble 9000 r) = true := h
    have : r ≠ kc := by
      rcases Bool.or_eq_true_iff.mp h' with h | h
      · exact Nat.ne_of_lt (Nat.le_of_ble_eq_true h)
      · exact Nat.ne_of_gt (Nat.lt_of_lt_of_le hk (Nat.le_of_ble_eq_true h))
    show Value.ref (if r = kc then q else ad r) = Value.ref (ad r)
    rw [if_neg this]
  | _ => rfl
theorem rx_old_ag {kc : Nat} {ad ad' : Nat → Nat} {v : Value} (ha : rx_ag kc ad ad') (h : rx_old kc v = true) : rx_conc ad' v = rx_conc ad v := by
  cases v with
  | ref r =>
    have h' : (Nat.blt r kc || Nat.ble 9000 r) = true := h
    have : ad' r = ad r := by
      apply ha
      rcases Bool.or_eq_true_iff.mp h' with h | h
      · exact Or.inl (Nat.le_of_ble_eq_true h)
      · exact Or.inr (Nat.le_of_ble_eq_true h)
    show Value.ref (ad' r) = Value.ref (ad r)
    rw [this]
  | _ => rfl
theorem rx_olds_ag {kc : Nat} {ad ad' : Nat → Nat} {L : rx_L} {st : List Value} (ha : rx_ag kc ad ad') (h : rx_olds kc L st = true) : rx_lc ad' L = rx_lc ad L ∧ st.map (rx_conc ad') = st.map (rx_conc ad) := by
  unfold rx_olds at h
  rw [Bool.and_eq_true, List.all_eq_true, List.all_eq_true] at h
  exact ⟨List.map_congr_left (fun q hq => by rw [rx_old_ag ha (h.1 q hq)]), List.map_congr_left (fun v hv => rx_old_ag ha (h.2 v hv))⟩
theorem rx_Cx_ag {S : rx_S} {mi kc : Nat} {p : Program} {l : Launch} {R : Room} {s : State} {m : MethodId} {args : Array Value} {meth : Method} {c : Code} {D : va_G} {tc : Nat → ClassId} {ad ad' : Nat → Nat} {H0 : Heap} {A : Nat → Prop} (ha : rx_ag kc ad ad') (cx : rx_Cx S mi p l R s m args meth c D tc ad H0 A) : rx_Cx S mi p l R s m args meth c D tc ad' H0 A := by
  obtain ⟨h1, h2, h3, h4, h5, h6, h7, h8, h9, h10, h12, h11⟩ := cx
  refine ⟨h1, h2, h3, h4, h5, h6, h7, h8, h9, h10, h12.ag (ha 9998 (Or.inr (by omega))), ?_⟩
  cases S with
  | none => exact trivial
  | some q => rw [show ad' 9999 = ad 9999 from ha 9999 (Or.inr (by omega))]; exact h11
theorem rx_free_ne {kc : Nat} {ini : List (Nat × Nat)} {P : List Nat} (h : rx_free kc ini P = true) : (∀ j b, (j, b) ∈ rx_rev kc → j < kc → (j, b) ∈ ini) ∧ ∀ q ∈ P, q ≠ kc := by
  unfold rx_free at h
  rw [Bool.and_eq_true, List.all_eq_true, List.all_eq_true] at h
  refine ⟨fun j b hj hk => ?_, fun q hq => by have := h.2 q hq; simpa using this⟩
  have h1 := h.1 (j, b) hj
  rw [Bool.or_eq_true] at h1
  rcases h1 with h1 | h1
  · have : kc ≤ j := Nat.le_of_ble_eq_true h1
    omega
  · simpa using h1
/-- a new cell: the older ones' pictures stay -/
theorem rx_cell_new {tc : Nat → ClassId} {ad : Nat → Nat} {ini ini' : List (Nat × Nat)} {P : List Nat} {σ : rx_St} {kc q j : Nat} (hN : kc < rx_NC) (hj : j < kc) (hf : rx_free kc ini P = true) (hi : ∀ b, ini'.contains (j, b) = ini.contains (j, b)) : rx_cell tc (fun j => if j = kc then q else ad j) ini' P (rx_z σ kc) j = rx_cell tc ad ini P σ j := by
  have hjk : (j == kc) = false := by simpa using (show j ≠ kc by omega)
  refine rx_cell_congr (by show cond (j == kc) _ _ = _; rw [hjk]; rfl) (by show cond (j == kc) _ _ = _; rw [hjk]; rfl) (fun ci sl hl b z hz => ?_)
  obtain ⟨f1, f2⟩ := rx_free_ne hf
  unfold rx_sv
  simp only [hi]
  split
  · rfl
  · rename_i e1
    cases hc : ini.contains (j, b) with
    | true => rfl
    | false =>
      have : z.2 ≠ kc := by
        intro e
        rcases (rx_L_obj (by omega) hl).2.2.2 b z hz with ⟨y1, -⟩ | ⟨y1, -⟩ | ⟨-, -, y3, -⟩ | ⟨y1, -⟩
        · rw [e1] at y1; cases y1
        · rw [e1] at y1; cases y1
        · rw [e] at y3
          have := f1 j b y3 hj
          have h2 : ini.contains (j, b) = true := by simpa using this
          rw [h2] at hc; cases hc
        · rw [e1] at y1; cases y1
      show Value.ref (if z.2 = kc then q else ad z.2) = Value.ref (ad z.2)
      rw [if_neg this]
  · cases hc : ini.contains (j, b) with
    | true => rfl
    | false =>
      have : P.getD z.2 0 ≠ kc := by
        by_cases hz2 : z.2 < P.length
        · rw [List.getD_eq_getElem?_getD, List.getElem?_eq_getElem hz2, Option.getD_some]
          exact f2 _ (List.getElem_mem hz2)
        · rw [List.getD_eq_getElem?_getD, List.getElem?_eq_none (by omega), Option.getD_none]
          omega
      show Value.ref (if P.getD z.2 0 = kc then q else ad (P.getD z.2 0)) = Value.ref (ad (P.getD z.2 0))
      rw [if_neg this]
theorem rx_refs_contains {ini : List (Nat × Nat)} {kc j b : Nat} {sl : List (Nat × Nat)} (h : j ≠ kc) : (ini ++ rx_refs kc sl).contains (j, b) = ini.contains (j, b) := by
  rw [Bool.eq_iff_iff]
  simp only [List.contains_eq_mem, decide_eq_true_eq, List.mem_append]
  refine ⟨fun z => z.resolve_right (fun y => ?_), Or.inl⟩
  obtain ⟨k, -, e⟩ := List.mem_map.mp y
  exact h (congrArg Prod.fst e).symm
theorem rx_refs_self {ini : List (Nat × Nat)} {kc b : Nat} {sl : List (Nat × Nat)} {q : Nat × Nat} (h : sl[b]? = some q) (hq : q.1 ≠ 0) : (ini ++ rx_refs kc sl).contains (kc, b) = true := by
  simp only [List.contains_eq_mem, decide_eq_true_eq, List.mem_append]
  refine Or.inr (List.mem_map.mpr ⟨b, List.mem_filter.mpr ⟨List.mem_range.mpr (List.getElem?_eq_some_iff.mp h).1, ?_⟩, rfl⟩)
  rw [h]
  simpa using hq
section RXGO
variable {p : Program} {l : Launch} {e : Env} {R : Room} {s : State} {m : MethodId} {args : Array Value} {below : List Frame} {meth : Method} {c : Code} {H : Heap} {locs : List Loc} {cells slots : Nat} {Q : State → Prop}
theorem rx_run_go {pc : Nat} {ls : Array Slot} {rest st0 : List Value} {mc ms : Nat} {Qa : State → Outcome → State → Prop} {free : Addr → Prop} (hr : va_Run p l e R s m args below meth c H locs cells slots mc ms (F0 m pc ls st0) rest Qa free)
    (kk : ∀ (v : Option Value) (st₀ t : State) (H' : Heap) (L : List Loc), st₀.heap = H → t.heap = H' → (∀ q ∈ L, free q.base) → Qa st₀ (.returned v) t → W p l e R s m args below meth c H' (locs ++ L) (cells + mc) (slots + ms) Q (F0 m (pc + 3) ls (v.toList ++ rest))) : W p l e R s m args below meth c H locs cells slots Q (F0 m pc ls st0) := by
  intro T hT X
  obtain ⟨v, st₀, t, T', L, h0, X', hL, e1, e2, hq, st⟩ := hr T hT X
  obtain ⟨t2, a1, b1⟩ := kk v st₀ t T'.heap L h0 e1.symm hL hq T' rfl X'
  exact ⟨t2, st t2 a1, b1⟩
end RXGO
theorem rx_call_inv {K : rx_KT} {out : rx_O} {a : Nat} {args : List Value} {is : List rx_I} {L : rx_L} {st : List Value} {X : rx_X} (h : rx_call K out a args is L st X) : (st.map fun v => v.category).sum ≤ 8 ∧ a < rx_NM ∧ rx_olds X.1 L st = true ∧ rx_cl_ K out a args is L st X := by
  obtain ⟨h1, h2⟩ := rx_cond_t h
  rw [Bool.and_eq_true, Bool.and_eq_true] at h1
  exact ⟨Nat.le_of_ble_eq_true h1.1, Nat.le_of_ble_eq_true h1.2.1, h1.2.2, h2⟩
theorem rx_room_inv {mi a mc ms : Nat} {R : Room} (h : rx_room mi a = true) (hfl : rx_fr mi ≤ R.frames ∧ rx_lo mi ≤ R.locals) : (rx_rm a mc ms).frames + 1 ≤ R.frames ∧ 8 + (rx_ml a + 11) + (rx_rm a mc ms).locals ≤ R.locals := by
  unfold rx_room at h
  rw [Bool.and_eq_true] at h
  have h1 : rx_fr a + 1 ≤ rx_fr mi := Nat.le_of_ble_eq_true h.1
  have h2 : 8 + (rx_ml a + 11) + rx_lo a ≤ rx_lo mi := Nat.le_of_ble_eq_true h.2
  exact ⟨by show rx_fr a + 1 ≤ R.frames; omega, by show 8 + (rx_ml a + 11) + rx_lo a ≤ R.locals; omega⟩
theorem rx_cat_map {ad : Nat → Nat} {st : List Value} : ((st.map (rx_conc ad)).map fun v => v.category) = (st.map fun v => v.category) := by
  rw [List.map_map]
  exact List.map_congr_left (fun v _ => rx_conc_cat ad v)
/-- what a call gives and wants, whatever its kind -/
theorem rx_call_W {S : rx_S} {K : rx_KT} {mi : Nat} {out : rx_O} {is : List rx_I} {L : rx_L} {st : List Value} {X : rx_X} {a pc : Nat} {As : List Value} {stk : List Value}
    (hK : ∀ is L st X, K is L st X → (∃ pre, rx_code mi = pre ++ is) → rx_At S mi is L st X out) (hpc : ∀ L st X, K is L st X → rx_pc is = pc + 3) (hs2 : ∃ pre, rx_code mi = pre ++ is)
    {p : Program} {l : Launch} {e : Env} {R : Room} {s : State} {m : MethodId} {args : Array Value} {below : List Frame} {meth : Method} {c : Code} {D : va_G} {tc : Nat → ClassId} {ad : Nat → Nat} {H0 : Heap} {A : Nat → Prop} {Q : State → Prop} {H : Heap} {locs : List Loc} {ls : Array Slot}
    (cx : rx_Cx S mi p l R s m args meth c D tc ad H0 A) (hc : out.2.2.1 ≤ R.cells ∧ out.2.2.2.1 ≤ R.slots) (hP : va_P D rx_cl (rx_W tc ad X) H) (hD : va_D A (rx_W tc ad X)) (hS : va_S A H0 H locs) (hl : lv_has ls (rx_ml mi) (rx_lc ad L)) (hr : rx_Back mi p l e R s m args below meth c D tc H0 A Q X.1 ad out)
    (hol : rx_olds X.1 L st = true) (h : rx_cl_ K out a As is L st X)
    (run : ∀ (r : Option Value) (kc mc ms : Nat) (ini : List (Nat × Nat)) (P : List Nat) (σ : rx_St) (Pc : Array Value → State → Prop) (Qc : Array Value → State → Outcome → State → Prop) (free : Addr → Prop), Met l (rx_y a) (rx_ws a) (rx_rm a mc ms) Pc Qc mc ms free → PreS s H Pc (As.map (rx_conc ad)) → X.2.1 + mc ≤ R.cells ∧ X.2.2.1 + ms ≤ R.slots →
      va_Run p l e R s m args below meth c H locs X.2.1 X.2.2.1 mc ms (F0 m pc ls stk) (st.map (rx_conc ad)) (Qc (As.map (rx_conc ad)).toArray) free) : W p l e R s m args below meth c H locs X.2.1 X.2.2.1 Q (F0 m pc ls stk) := by
  obtain ⟨r, kc, mc, ms, ini, P, σ, hOK, ⟨hnr, hkc, hmc, hms⟩, hk'⟩ := h
  obtain ⟨kc0, c0, s0, ini0, P0, σ0⟩ := X
  have hnw := cx.2.2.2.2.2.1
  have hkK := cx.2.2.2.2.2.2.1
  have hA := cx.2.2.2.2.2.2.2.2.1
  have hstr := cx.2.2.2.2.2.2.2.2.2.2.1
  have hM := hOK l D tc ad H.size
  have hFree : ∀ q, va_A (rx_W tc ad (kc0, 0, 0, ini0, P0, σ0)) H.size q → A q := by
    intro q hq
    rcases hq with ⟨k, e1, h1⟩ | h1
    · exact hD.2 k (q, e1) h1
    · exact hA q (Nat.le_trans hS.1 h1)
  refine rx_run_go (run r kc mc ms ini P σ _ _ _ hM ⟨fun a U g mk q => ?_, fun U hU hW => ⟨rfl, by rw [hU], by rw [hU]; exact hP, va_K.moved hW.alike hkK, hD.weaken (fun _ _ _ _ => trivial), fun q hq => va_Nw.warmM hW (hnw q hq), by rw [hU]; exact ((hstr.kept hS.2.1).narrow hFree).warm hW⟩⟩ ⟨Nat.le_trans hmc hc.1, Nat.le_trans hms hc.2⟩) (fun v st₀ t H' Ls h0 ht hLs hq => ?_)
  · obtain ⟨q0, q1, qP, qK, qD, qN, qS⟩ := q
    exact ⟨q0, q1, qP, va_K.moved (u := U) (U := U.calling g mk a) (Vm.Alike.refl U.vm) qK, qD, fun z hz => va_Nw.same rfl rfl (qN z hz), qS.same rfl⟩
  · obtain ⟨hv, ⟨ad', hag, hP', hD'⟩, hF⟩ := hq
    cases hv
    rw [ht] at hP'
    obtain ⟨o1, o2⟩ := rx_olds_ag hag hol
    have hHF := hF
    rw [show va_F (va_A (rx_W tc ad (kc0, 0, 0, ini0, P0, σ0)) H.size) st₀ t = (st₀.heap.size ≤ t.heap.size ∧ ∀ q : Nat, q < st₀.heap.size → ¬ va_A (rx_W tc ad (kc0, 0, 0, ini0, P0, σ0)) H.size q → t.heap[q]? = st₀.heap[q]?) from rfl, h0, ht] at hHF
    have hS' : va_S A H0 H' (locs ++ Ls) := by
      refine ⟨Nat.le_trans hS.1 hHF.1, fun q h1 h2 => ?_, fun q hq => ?_⟩
      · rw [hHF.2 q (Nat.lt_of_lt_of_le h1 hS.1) (fun z => h2 (hFree q z))]
        exact hS.2.1 q h1 h2
      · rcases List.mem_append.mp hq with h | h
        · exact hS.2.2 q h
        · exact hFree _ (hLs q h)
    have := hK is L (r.toList ++ st) _ hk' hs2 p l e R s m args below meth c D tc ad' H0 A Q H' (locs ++ Ls) ls (rx_Cx_ag hag cx) hc hP' (hD'.weaken (fun _ q _ h => hFree q.1 h)) hS' (by rw [o1]; exact hl) (fun H2 locs2 ad2 ls2 pc2 g1 g2 g3 g4 g5 g6 => hr H2 locs2 ad2 ls2 pc2 (fun q hq => (g1 q (hq.imp (fun z => Nat.lt_of_lt_of_le z hkc) id)).trans (hag q hq)) g2 g3 g4 g5 g6)
    rw [hpc _ _ _ hk', List.map_append, o2] at this
    have hrt : r.toList.map (rx_conc ad') = r.toList := by
      cases r with
      | none => rfl
      | some v => cases v <;> first | rfl | cases hnr
    rw [hrt] at this
    exact this
theorem rx_isobj_spec {tc : Nat → ClassId} {ad : Nat → Nat} {X : rx_X} {k b : Nat} (h : rx_isobj X k b = true) : k < X.1 ∧ ∃ fs, rx_cell tc ad X.2.2.2.1 X.2.2.2.2.1 X.2.2.2.2.2 k = .inr (b, fs) := by
  unfold rx_isobj at h
  cases hk : Nat.blt k X.1 with
  | false => rw [hk] at h; cases h
  | true =>
    rw [hk] at h
    refine ⟨Nat.le_of_ble_eq_true hk, ?_⟩
    dsimp only [cond_true] at h
    split at h
    · rename_i ci sl hl
      have : ci = b := by simpa using h
      subst this
      exact ⟨_, rx_cell_obj hl⟩
    · cases h
theorem rx_fr_le {mi : Nat} (h : mi < 264) : rx_fr mi ≤ 15 := by
  have h1 : (List.range 264).all (fun k => Nat.ble (rx_fr k) 15) = true := by decide +kernel
  exact Nat.le_of_ble_eq_true (List.all_eq_true.mp h1 mi (List.mem_range.mpr h))
set_option maxHeartbeats 8000000 in
set_option maxRecDepth 100000 in
theorem rx_step_at {S : rx_S} {K : rx_KT} {mi : Nat} (hm : mi < 264) (hE : rx_Ext S mi) {out : rx_O} {is0 : List rx_I} {L : rx_L} {st : List Value} {X : rx_X}
    (hK : ∀ is L st X, K is L st X → (∃ pre, rx_code mi = pre ++ is) → rx_At S mi is L st X out) (hK0 : ∀ L st X, ¬ K [] L st X) (hNC : X.1 ≤ rx_NC)
    (h : rx_step S K mi out is0 L st X) (hs : ∃ pre, rx_code mi = pre ++ is0) : rx_At S mi is0 L st X out := by
  obtain ⟨pre, hpre⟩ := hs
  cases is0 with
  | nil => exact h.elim
  | cons i is =>
  obtain ⟨pc, ins, len, a, b, x, y, sw, w⟩ := i
  have hmem : (pc, ins, len, a, b, x, y, sw, w) ∈ rx_code mi := by rw [hpre]; exact List.mem_append_right _ List.mem_cons_self
  have hi := (rx_okI hm).2 _ hmem
  have hn : is = [] ∨ rx_pc is = pc + len := rx_chain_next (i := (pc, ins, len, a, b, x, y, sw, w)) (rx_chain_app (a := pre) (by rw [← hpre]; exact (rx_okI hm).1))
  have hs2 : ∃ pre, rx_code mi = pre ++ is := ⟨pre ++ [(pc, ins, len, a, b, x, y, sw, w)], by rw [hpre, List.append_assoc]; rfl⟩
  have hext := hE K out hK hK0 (pc, ins, len, a, b, x, y, sw, w) is L st X ⟨pre, hpre⟩
  intro p l e R s m args below meth c D tc ad H0 A Q H locs ls cx hc hP hD hS hl hr
  obtain ⟨hx, hb, hml, ho, hts, hnw, hk, hfl, hA, hin, hstr, hsc⟩ := id cx
  have hi1 := (Bool.and_eq_true_iff.mp hi).1
  have hd : decode (rx_b mi) pc = .ok (ins, len) := of_decide_eq_true hi1
  have hi2 := (Bool.and_eq_true_iff.mp hi).2
  clear hi hi1
  have go : ∀ (L' : rx_L) (st' : List Value) (ls' : Array Slot), K is L' st' X → lv_has ls' (rx_ml mi) (rx_lc ad L') → W p l e R s m args below meth c H locs X.2.1 X.2.2.1 Q (F0 m (pc + len) ls' (st'.map (rx_conc ad))) := by
    intro L' st' ls' hk' hl'
    rw [← hn.resolve_left (fun e => hK0 L' st' X (e ▸ hk'))]
    exact hK is L' st' X hk' hs2 p l e R s m args below meth c D tc ad H0 A Q H locs ls' cx hc hP hD hS hl' hr
  have goX : ∀ (L' : rx_L) (st' : List Value) (X' : rx_X) (H' : Heap) (locs' : List Loc), K is L' st' X' → X'.1 = X.1 → X'.2.1 = X.2.1 → X'.2.2.1 = X.2.2.1 → va_P D rx_cl (rx_W tc ad X') H' → va_D A (rx_W tc ad X') → va_S A H0 H' locs' → lv_has ls (rx_ml mi) (rx_lc ad L') → W p l e R s m args below meth c H' locs' X.2.1 X.2.2.1 Q (F0 m (pc + len) ls (st'.map (rx_conc ad))) := by
    intro L' st' X' H' locs' hk' e1 e2 e3 hP' hD' hS' hl'
    rw [← hn.resolve_left (fun e => hK0 L' st' X' (e ▸ hk')), ← e2, ← e3]
    exact hK is L' st' X' hk' hs2 p l e R s m args below meth c D tc ad H0 A Q H' locs' ls cx hc hP' hD' hS' hl' (by rw [e1]; exact hr)
  have goJ : ∀ (t : Nat) (st' : List Value), K (rx_jump mi t) L st' X → W p l e R s m args below meth c H locs X.2.1 X.2.2.1 Q (F0 m t ls (st'.map (rx_conc ad))) := by
    intro t st' hk'
    have := hK (rx_jump mi t) L st' X hk' (rx_jump_in mi t) p l e R s m args below meth c D tc ad H0 A Q H locs ls cx hc hP hD hS hl hr
    rw [(rx_jump_at mi t).resolve_left (fun e => hK0 L st' X (e ▸ hk'))] at this
    exact this
  show W p l e R s m args below meth c H locs X.2.1 X.2.2.1 Q (F0 m pc ls (st.map (rx_conc ad)))
  cases ins with
  | iconst n =>
    have hi3 : (len == 1 && decide (Int32.ofInt n = x)) = true := hi2
    simp only [Bool.and_eq_true, beq_iff_eq, decide_eq_true_eq] at hi3
    obtain ⟨rfl, hv⟩ := hi3
    exact lv_iconst hx hb hd hv (go L (.int x :: st) ls h hl)
  | bipush n =>
    have hi3 : (len == 2 && decide ((Int8.ofInt n).toInt32 = x)) = true := hi2
    simp only [Bool.and_eq_true, beq_iff_eq, decide_eq_true_eq] at hi3
    obtain ⟨rfl, hv⟩ := hi3
    exact lv_bipush hx hb hd hv (go L (.int x :: st) ls h hl)
  | sipush n =>
    have hi3 : (len == 3 && decide ((Int16.ofInt n).toInt32 = x)) = true := hi2
    simp only [Bool.and_eq_true, beq_iff_eq, decide_eq_true_eq] at hi3
    obtain ⟨rfl, hv⟩ := hi3
    exact lv_sipush hx hb hd hv (go L (.int x :: st) ls h hl)
  | ldc n =>
    have hi3 : (len == 2 && (!(a == 0) || rx_w w (.constant (rx_own mi) n x))) = true := hi2
    rw [Bool.and_eq_true, beq_iff_eq] at hi3
    obtain ⟨rfl, hv⟩ := hi3
    have h' : cond (a == 0) (K is L (.int x :: st) X) (rx_stepX K out is L st X a) := h
    cases ha : a == 0 with
    | false =>
      rw [ha] at h'
      exact hext (by show (!(a == 0)) = true; rw [ha]; rfl) h' p l e R s m args below meth c D tc ad H0 A Q H locs ls cx hc hP hD hS hl hr
    | true =>
      rw [ha] at h' hv
      exact lv_ldc hx hb ho (hts _ (rx_w_in hv)) hd (go L (.int x :: st) ls h' hl)
  | ldc_w n =>
    have hi3 : (len == 3 && (!(a == 0) || rx_w w (.constant (rx_own mi) n x))) = true := hi2
    rw [Bool.and_eq_true, beq_iff_eq] at hi3
    obtain ⟨rfl, hv⟩ := hi3
    have h' : cond (a == 0) (K is L (.int x :: st) X) (rx_stepX K out is L st X a) := h
    cases ha : a == 0 with
    | false =>
      rw [ha] at h'
      exact hext (by show (!(a == 0)) = true; rw [ha]; rfl) h' p l e R s m args below meth c D tc ad H0 A Q H locs ls cx hc hP hD hS hl hr
    | true =>
      rw [ha] at h' hv
      exact lv_ldcw hx hb ho (hts _ (rx_w_in hv)) hd (go L (.int x :: st) ls h' hl)
  | lconst n =>
    have hi3 : (len == 1 && decide (Int64.ofNat (n : Nat) = y)) = true := hi2
    simp only [Bool.and_eq_true, beq_iff_eq, decide_eq_true_eq] at hi3
    obtain ⟨rfl, hv⟩ := hi3
    exact lv_lconst hx hb hd hv (go L (.long y :: st) ls h hl)
  | ldc2_w n =>
    have hi3 : (len == 3 && rx_w w (.constantLong (rx_own mi) n y)) = true := hi2
    rw [Bool.and_eq_true, beq_iff_eq] at hi3
    obtain ⟨rfl, hv⟩ := hi3
    exact lv_ldc2 hx hb ho (hts _ (rx_w_in hv)) hd (go L (.long y :: st) ls h hl)
  | iload_n n =>
    have hi3 : (len == 1 && (n : Nat) == b) = true := hi2
    simp only [Bool.and_eq_true, beq_iff_eq] at hi3
    obtain ⟨rfl, hv⟩ := hi3
    obtain ⟨v, h1, h2, h3⟩ := rx_ld_inv h
    obtain ⟨u, rfl⟩ := rx_isI_inv h2
    exact lv_iload_n hx hb hd hv (hl.2.2 _ (rx_lc_in h1)) (go L (.int u :: st) ls h3 hl)
  | iload n =>
    have hi3 : (len == 2 && n == b) = true := hi2
    simp only [Bool.and_eq_true, beq_iff_eq] at hi3
    obtain ⟨rfl, rfl⟩ := hi3
    obtain ⟨v, h1, h2, h3⟩ := rx_ld_inv h
    obtain ⟨u, rfl⟩ := rx_isI_inv h2
    exact lv_iload hx hb hd (hl.2.2 _ (rx_lc_in h1)) (go L (.int u :: st) ls h3 hl)
  | lload_n n =>
    have hi3 : (len == 1 && (n : Nat) == b) = true := hi2
    simp only [Bool.and_eq_true, beq_iff_eq] at hi3
    obtain ⟨rfl, hv⟩ := hi3
    obtain ⟨v, h1, h2, h3⟩ := rx_ld_inv h
    obtain ⟨u, rfl⟩ := rx_isL_inv h2
    exact lv_lload_n hx hb hd hv (hl.2.2 _ (rx_lc_in h1)) (go L (.long u :: st) ls h3 hl)
  | lload n =>
    have hi3 : (len == 2 && n == b) = true := hi2
    simp only [Bool.and_eq_true, beq_iff_eq] at hi3
    obtain ⟨rfl, rfl⟩ := hi3
    obtain ⟨v, h1, h2, h3⟩ := rx_ld_inv h
    obtain ⟨u, rfl⟩ := rx_isL_inv h2
    exact lv_lload hx hb hd (hl.2.2 _ (rx_lc_in h1)) (go L (.long u :: st) ls h3 hl)
  | aload_n n =>
    have hi3 : (len == 1 && (n : Nat) == b) = true := hi2
    simp only [Bool.and_eq_true, beq_iff_eq] at hi3
    obtain ⟨rfl, hv⟩ := hi3
    obtain ⟨v, h1, h2, h3⟩ := rx_ld_inv h
    obtain ⟨u, rfl⟩ := rx_isA_inv h2
    exact lv_aload_n hx hb hd hv (hl.2.2 _ (rx_lc_in h1)) (go L (.ref u :: st) ls h3 hl)
  | aload n =>
    have hi3 : (len == 2 && n == b) = true := hi2
    simp only [Bool.and_eq_true, beq_iff_eq] at hi3
    obtain ⟨rfl, rfl⟩ := hi3
    obtain ⟨v, h1, h2, h3⟩ := rx_ld_inv h
    obtain ⟨u, rfl⟩ := rx_isA_inv h2
    exact lv_aload hx hb hd (hl.2.2 _ (rx_lc_in h1)) (go L (.ref u :: st) ls h3 hl)
  | istore_n n =>
    have hi3 : (len == 1 && ((n : Nat) == b && Nat.blt b (rx_ml mi))) = true := hi2
    simp only [Bool.and_eq_true, beq_iff_eq] at hi3
    obtain ⟨rfl, hv, hb2⟩ := hi3
    obtain ⟨v, st', rfl, h2, h3⟩ := rx_st1_inv h
    obtain ⟨u, rfl⟩ := rx_isI_inv h2
    exact lv_istore_n hx hb hd hv hl (Nat.le_of_ble_eq_true hb2) (rx_s1_map ad L b (.int u)) (fun ls' hl' => go _ st' ls' h3 hl')
  | istore n =>
    have hi3 : (len == 2 && (n == b && Nat.blt b (rx_ml mi))) = true := hi2
    simp only [Bool.and_eq_true, beq_iff_eq] at hi3
    obtain ⟨rfl, rfl, hb2⟩ := hi3
    obtain ⟨v, st', rfl, h2, h3⟩ := rx_st1_inv h
    obtain ⟨u, rfl⟩ := rx_isI_inv h2
    exact lv_istore hx hb hd hl (Nat.le_of_ble_eq_true hb2) (rx_s1_map ad L n (.int u)) (fun ls' hl' => go _ st' ls' h3 hl')
  | astore_n n =>
    have hi3 : (len == 1 && ((n : Nat) == b && Nat.blt b (rx_ml mi))) = true := hi2
    simp only [Bool.and_eq_true, beq_iff_eq] at hi3
    obtain ⟨rfl, hv, hb2⟩ := hi3
    obtain ⟨v, st', rfl, h2, h3⟩ := rx_st1_inv h
    obtain ⟨u, rfl⟩ := rx_isA_inv h2
    exact lv_astore_n hx hb hd hv hl (Nat.le_of_ble_eq_true hb2) (rx_s1_map ad L b (.ref u)) (fun ls' hl' => go _ st' ls' h3 hl')
  | astore n =>
    have hi3 : (len == 2 && (n == b && Nat.blt b (rx_ml mi))) = true := hi2
    simp only [Bool.and_eq_true, beq_iff_eq] at hi3
    obtain ⟨rfl, rfl, hb2⟩ := hi3
    obtain ⟨v, st', rfl, h2, h3⟩ := rx_st1_inv h
    obtain ⟨u, rfl⟩ := rx_isA_inv h2
    exact lv_astore hx hb hd hl (Nat.le_of_ble_eq_true hb2) (rx_s1_map ad L n (.ref u)) (fun ls' hl' => go _ st' ls' h3 hl')
  | lstore_n n =>
    have hi3 : (len == 1 && ((n : Nat) == b && Nat.blt (b + 1) (rx_ml mi))) = true := hi2
    simp only [Bool.and_eq_true, beq_iff_eq] at hi3
    obtain ⟨rfl, hv, hb2⟩ := hi3
    obtain ⟨u, st', rfl, h3⟩ := rx_st2_inv h
    exact lv_lstore_n hx hb hd hv hl (Nat.le_of_ble_eq_true hb2) (rx_s2_map ad L b (.long u)) (fun ls' hl' => go _ st' ls' h3 hl')
  | lstore n =>
    have hi3 : (len == 2 && (n == b && Nat.blt (b + 1) (rx_ml mi))) = true := hi2
    simp only [Bool.and_eq_true, beq_iff_eq] at hi3
    obtain ⟨rfl, rfl, hb2⟩ := hi3
    obtain ⟨u, st', rfl, h3⟩ := rx_st2_inv h
    exact lv_lstore hx hb hd hl (Nat.le_of_ble_eq_true hb2) (rx_s2_map ad L n (.long u)) (fun ls' hl' => go _ st' ls' h3 hl')
  | iinc k n =>
    have hi3 : (len == 3 && (k == b && (Nat.blt b (rx_ml mi) && decide (Int32.ofInt n = x)))) = true := hi2
    simp only [Bool.and_eq_true, beq_iff_eq, decide_eq_true_eq] at hi3
    obtain ⟨rfl, rfl, hb2, hv⟩ := hi3
    have h' : (match (generalizing := false) rx_look L k with
      | some (.int v) => K is (rx_s1 L k (.int (v + x))) st X
      | _ => False) := h
    split at h'
    · rename_i v hlk
      obtain ⟨j, hj⟩ := List.getElem?_of_mem (rx_lc_in (ad := ad) hlk)
      exact lv_iinc hx hb hd hl hj (by rw [hv]) (Nat.le_of_ble_eq_true hb2) (rx_s1_map ad L k (.int (v + x))) (fun ls' hl' => go _ st ls' h' hl')
    · exact h'.elim
  | iadd =>
    obtain rfl : len = 1 := by simpa using (show (len == 1) = true from hi2)
    obtain ⟨u, v, st', rfl, h1⟩ := rx_bin_inv h
    exact lv_iadd hx hb hd (go L _ ls h1 hl)
  | isub =>
    obtain rfl : len = 1 := by simpa using (show (len == 1) = true from hi2)
    obtain ⟨u, v, st', rfl, h1⟩ := rx_bin_inv h
    exact lv_isub hx hb hd (go L _ ls h1 hl)
  | imul =>
    obtain rfl : len = 1 := by simpa using (show (len == 1) = true from hi2)
    obtain ⟨u, v, st', rfl, h1⟩ := rx_bin_inv h
    exact lv_imul hx hb hd (go L _ ls h1 hl)
  | iand =>
    obtain rfl : len = 1 := by simpa using (show (len == 1) = true from hi2)
    obtain ⟨u, v, st', rfl, h1⟩ := rx_bin_inv h
    exact lv_iand hx hb hd (go L _ ls h1 hl)
  | ior =>
    obtain rfl : len = 1 := by simpa using (show (len == 1) = true from hi2)
    obtain ⟨u, v, st', rfl, h1⟩ := rx_bin_inv h
    exact lv_ior hx hb hd (go L _ ls h1 hl)
  | ixor =>
    obtain rfl : len = 1 := by simpa using (show (len == 1) = true from hi2)
    obtain ⟨u, v, st', rfl, h1⟩ := rx_bin_inv h
    exact lv_ixor hx hb hd (go L _ ls h1 hl)
  | ishl =>
    obtain rfl : len = 1 := by simpa using (show (len == 1) = true from hi2)
    obtain ⟨u, v, st', rfl, h1⟩ := rx_bin_inv h
    exact lv_ishl hx hb hd (go L _ ls h1 hl)
  | ishr =>
    obtain rfl : len = 1 := by simpa using (show (len == 1) = true from hi2)
    obtain ⟨u, v, st', rfl, h1⟩ := rx_bin_inv h
    exact lv_ishr hx hb hd (go L _ ls h1 hl)
  | iushr =>
    obtain rfl : len = 1 := by simpa using (show (len == 1) = true from hi2)
    obtain ⟨u, v, st', rfl, h1⟩ := rx_bin_inv h
    exact lv_iushr hx hb hd rfl (go L _ ls h1 hl)
  | idiv =>
    obtain rfl : len = 1 := by simpa using (show (len == 1) = true from hi2)
    obtain ⟨u, v, st', rfl, h0, h1⟩ := rx_div_inv h
    exact lv_idiv hx hb hd h0 (go L _ ls h1 hl)
  | irem =>
    obtain rfl : len = 1 := by simpa using (show (len == 1) = true from hi2)
    obtain ⟨u, v, st', rfl, h0, h1⟩ := rx_div_inv h
    exact lv_irem hx hb hd h0 (go L _ ls h1 hl)
  | ladd =>
    obtain rfl : len = 1 := by simpa using (show (len == 1) = true from hi2)
    obtain ⟨u, v, st', rfl, h1⟩ := rx_binl_inv h
    exact lv_ladd hx hb hd (go L _ ls h1 hl)
  | lsub =>
    obtain rfl : len = 1 := by simpa using (show (len == 1) = true from hi2)
    obtain ⟨u, v, st', rfl, h1⟩ := rx_binl_inv h
    exact lv_lsub hx hb hd (go L _ ls h1 hl)
  | lmul =>
    obtain rfl : len = 1 := by simpa using (show (len == 1) = true from hi2)
    obtain ⟨u, v, st', rfl, h1⟩ := rx_binl_inv h
    exact lv_lmul hx hb hd (go L _ ls h1 hl)
  | lrem =>
    obtain rfl : len = 1 := by simpa using (show (len == 1) = true from hi2)
    have h' : (match (generalizing := false) st with
      | .long y :: .long x :: st => rx_ck (¬ y = 0) (K is L (.long (x - x / y * y) :: st) X)
      | _ => False) := h
    split at h'
    · exact lv_lrem hx hb hd h'.1 (go L _ ls h'.2 hl)
    · exact h'.elim
  | lshl =>
    obtain rfl : len = 1 := by simpa using (show (len == 1) = true from hi2)
    have h' : (match (generalizing := false) st with
      | .int y :: .long x :: st => K is L (.long (x <<< (y.toInt64 &&& 63)) :: st) X
      | _ => False) := h
    split at h'
    · exact lv_lshl hx hb hd rfl (go L _ ls h' hl)
    · exact h'.elim
  | lcmp =>
    obtain rfl : len = 1 := by simpa using (show (len == 1) = true from hi2)
    have h' : (match (generalizing := false) st with
      | .long y :: .long x :: st => K is L (.int (lg_cmp x y) :: st) X
      | _ => False) := h
    split at h'
    · exact W.lcmp hx hb hd (go L _ ls h' hl)
    · exact h'.elim
  | ineg =>
    obtain rfl : len = 1 := by simpa using (show (len == 1) = true from hi2)
    have h' : (match (generalizing := false) st with
      | .int x :: st => K is L (.int (-x) :: st) X
      | _ => False) := h
    split at h'
    · exact lv_ineg hx hb hd (go L _ ls h' hl)
    · exact h'.elim
  | i2l =>
    obtain rfl : len = 1 := by simpa using (show (len == 1) = true from hi2)
    have h' : (match (generalizing := false) st with
      | .int x :: st => K is L (.long x.toInt64 :: st) X
      | _ => False) := h
    split at h'
    · exact lv_i2l hx hb hd rfl (go L _ ls h' hl)
    · exact h'.elim
  | l2i =>
    obtain rfl : len = 1 := by simpa using (show (len == 1) = true from hi2)
    have h' : (match (generalizing := false) st with
      | .long x :: st => K is L (.int x.toInt32 :: st) X
      | _ => False) := h
    split at h'
    · exact lv_l2i hx hb hd rfl (go L _ ls h' hl)
    · exact h'.elim
  | i2b =>
    obtain rfl : len = 1 := by simpa using (show (len == 1) = true from hi2)
    have h' : (match (generalizing := false) st with
      | .int x :: st => K is L (.int x.toInt8.toInt32 :: st) X
      | _ => False) := h
    split at h'
    · exact lv_i2b hx hb hd rfl (go L _ ls h' hl)
    · exact h'.elim
  | dup =>
    obtain rfl : len = 1 := by simpa using (show (len == 1) = true from hi2)
    have h' : (match (generalizing := false) st with
      | v :: st => cond (v.category == 1) (K is L (v :: v :: st) X) False
      | _ => False) := h
    split at h'
    · rename_i v st'
      obtain ⟨h1, h2⟩ := rx_cond_t h'
      exact lv_dup hx hb hd (by rw [rx_conc_cat]; simpa using h1) (go L (v :: v :: st') ls h2 hl)
    · exact h'.elim
  | dup2 =>
    obtain rfl : len = 1 := by simpa using (show (len == 1) = true from hi2)
    have h' : (match (generalizing := false) st with
      | v :: w :: st => cond (v.category == 1 && w.category == 1) (K is L (v :: w :: v :: w :: st) X) False
      | _ => False) := h
    split at h'
    · rename_i v w' st'
      obtain ⟨h1, h2⟩ := rx_cond_t h'
      simp only [Bool.and_eq_true, beq_iff_eq] at h1
      exact lv_dup2_11 hx hb hd (by rw [rx_conc_cat]; exact h1.1) (by rw [rx_conc_cat]; exact h1.2) (go L (v :: w' :: v :: w' :: st') ls h2 hl)
    · exact h'.elim
  | pop =>
    obtain rfl : len = 1 := by simpa using (show (len == 1) = true from hi2)
    have h' : (match (generalizing := false) st with
      | v :: st => cond (v.category == 1) (K is L st X) False
      | _ => False) := h
    split at h'
    · rename_i v st'
      obtain ⟨h1, h2⟩ := rx_cond_t h'
      exact lv_pop hx hb hd (by rw [rx_conc_cat]; simpa using h1) (go L st' ls h2 hl)
    · exact h'.elim
  | goto off =>
    have hi3 : (len == 3 && rx_off pc off a) = true := hi2
    simp only [Bool.and_eq_true, beq_iff_eq] at hi3
    obtain ⟨rfl, hv⟩ := hi3
    exact lv_goto hx hb hd (rx_off_eq hv) (goJ a st h)
  | if_icmp cc off =>
    have hi3 : (len == 3 && rx_off pc off a) = true := hi2
    simp only [Bool.and_eq_true, beq_iff_eq] at hi3
    obtain ⟨rfl, hv⟩ := hi3
    have h' : (match (generalizing := false) st with
      | .int y :: .int x :: st => rx_brc cc x y (K (rx_jump mi a) L st X) (K is L st X)
      | _ => False) := h
    split at h'
    · rename_i st0 v u st'
      cases cc with
      | eq => exact lv_icmp_eq hx hb hd (rx_off_eq hv) (fun q => goJ a st' (h'.1 q)) (fun q => go L st' ls (h'.2 q) hl)
      | ne => exact lv_icmp_ne hx hb hd (rx_off_eq hv) (fun q => goJ a st' (h'.2 q)) (fun q => go L st' ls (h'.1 q) hl)
      | lt => exact lv_icmp_lt hx hb hd (rx_off_eq hv) (fun q => goJ a st' (h'.1 q)) (fun q => go L st' ls (h'.2 q) hl)
      | ge => exact lv_icmp_ge hx hb hd (rx_off_eq hv) (fun q => goJ a st' (h'.1 q)) (fun q => go L st' ls (h'.2 q) hl)
      | gt => exact lv_icmp_gt hx hb hd (rx_off_eq hv) (fun q => goJ a st' (h'.1 q)) (fun q => go L st' ls (h'.2 q) hl)
      | le => exact lv_icmp_le hx hb hd (rx_off_eq hv) (fun q => goJ a st' (h'.1 q)) (fun q => go L st' ls (h'.2 q) hl)
    · exact h'.elim
  | ifCond cc off =>
    have hi3 : (len == 3 && rx_off pc off a) = true := hi2
    simp only [Bool.and_eq_true, beq_iff_eq] at hi3
    obtain ⟨rfl, hv⟩ := hi3
    have h' : (match (generalizing := false) st with
      | .int x :: st => rx_brc cc x 0 (K (rx_jump mi a) L st X) (K is L st X)
      | _ => False) := h
    split at h'
    · rename_i st0 u st'
      cases cc with
      | eq => exact lv_if_eq hx hb hd (rx_off_eq hv) (fun q => goJ a st' (h'.1 q)) (fun q => go L st' ls (h'.2 q) hl)
      | ne => exact lv_if_ne hx hb hd (rx_off_eq hv) (fun q => goJ a st' (h'.2 q)) (fun q => go L st' ls (h'.1 q) hl)
      | lt => exact lv_if_lt hx hb hd (rx_off_eq hv) (fun q => goJ a st' (h'.1 q)) (fun q => go L st' ls (h'.2 q) hl)
      | ge => exact lv_if_ge hx hb hd (rx_off_eq hv) (fun q => goJ a st' (h'.1 q)) (fun q => go L st' ls (h'.2 q) hl)
      | gt => exact lv_if_gt hx hb hd (rx_off_eq hv) (fun q => goJ a st' (h'.1 q)) (fun q => go L st' ls (h'.2 q) hl)
      | le => exact lv_if_le hx hb hd (rx_off_eq hv) (fun q => goJ a st' (h'.1 q)) (fun q => go L st' ls (h'.2 q) hl)
    · exact h'.elim
  | tableswitch d lo hi offs =>
    have hi3 : (decide (0 ≤ lo ∧ hi < 10000 ∧ (offs.size : Int) = hi - lo + 1) && (rx_off pc d a && rx_swT pc lo.toNat offs.toList sw)) = true := hi2
    simp only [Bool.and_eq_true, decide_eq_true_eq] at hi3
    obtain ⟨⟨k1, k2, k3⟩, hv, hsw⟩ := hi3
    have h' : (match (generalizing := false) st with
      | .int x :: st => rx_sw x (K (rx_jump mi a) L st X) (fun t => K (rx_jump mi t) L st X) sw
      | _ => False) := h
    split at h'
    · rename_i st0 u st'
      have hlen : offs.toList.length = offs.size := Array.length_toList
      rcases rx_sw_in offs.toList lo.toNat sw hsw (by rw [hlen]; omega) h' with ⟨j, off, t, a1, a2, a3, a4⟩ | ⟨a1, a2⟩
      · have hj : j < offs.size := by rw [← hlen]; exact (List.getElem?_eq_some_iff.mp a1).1
        have hu : u.toInt = lo + j := by rw [a2, nI_toInt (by omega)]; omega
        refine lv_tableIn hx hb hd (by omega) (by omega) (off := off) ?_ a3 (goJ t st' a4)
        rw [show (u.toInt - lo).toNat = j by omega, ← Array.getElem?_toList]
        exact a1
      · refine lv_tableOut hx hb hd ?_ (rx_off_eq hv) (goJ a st' a2)
        by_cases q1 : u.toInt < lo
        · exact Or.inl q1
        · by_cases q2 : hi < u.toInt
          · exact Or.inr q2
          · refine absurd ?_ (a1 (u.toInt - lo).toNat (by rw [hlen]; omega))
            apply Int32.toInt_inj.mp
            rw [nI_toInt (by omega)]
            omega
    · exact h'.elim
  | lookupswitch d ps =>
    have hi3 : ((ps.toList.zip (ps.toList.drop 1)).all (fun (a, next) => a.1 < next.1) && (rx_off pc d a && rx_swL pc ps.toList sw)) = true := hi2
    rw [Bool.and_eq_true, Bool.and_eq_true] at hi3
    obtain ⟨k1, hv, hsw⟩ := hi3
    have h' : (match (generalizing := false) st with
      | .int x :: st => rx_sw x (K (rx_jump mi a) L st X) (fun t => K (rx_jump mi t) L st X) sw
      | _ => False) := h
    split at h'
    · rename_i st0 u st'
      rcases rx_lk_in d ps.toList sw hsw h' with ⟨t, a1, a2⟩ | ⟨a1, a2⟩
      · exact lv_lookup hx hb hd k1 rfl a1 (goJ t st' a2)
      · exact lv_lookup hx hb hd k1 a1 (rx_off_eq hv) (goJ a st' a2)
    · exact h'.elim
  | getfield n =>
    have hi3 : (len == 3 && (Nat.blt a 13 && (Nat.blt b (rx_N a) && rx_w w (.fieldLink (rx_own mi) n (rx_T a b).1 (rx_T a b).2.1 (rx_T a b).2.2.1)))) = true := hi2
    rw [Bool.and_eq_true, Bool.and_eq_true, Bool.and_eq_true, beq_iff_eq] at hi3
    obtain ⟨rfl, k1, k2, k3⟩ := hi3
    have k1' : a < 13 := Nat.le_of_ble_eq_true k1
    have k2' : b < rx_N a := Nat.le_of_ble_eq_true k2
    have h' : (match (generalizing := false) st with
      | .ref k :: st => match (generalizing := false) rx_slot X k a b with
        | some v => K is L (v :: st) X
        | none => False
      | _ => False) := h
    split at h'
    · rename_i st0 k st'
      split at h'
      · rename_i v hv
        obtain ⟨hk2, fs, e1, e2⟩ := rx_slot_spec (tc := tc) (ad := ad) hv
        exact va_get (fs := fs) hx hb hts (rx_C k1').1 ho hk hP k (by rw [rx_W_get tc ad X hk2, e1]) (rx_cl_get k1') b k2' (hts _ (rx_w_in k3)) (fun _ h9 => h9) e2 hd (go L (v :: st') ls h' hl)
      · exact h'.elim
    · exact h'.elim
  | putfield n =>
    have hi3 : (len == 3 && (Nat.blt a 13 && (Nat.blt b (rx_N a) && (rx_w w (.fieldLink (rx_own mi) n (rx_T a b).1 (rx_T a b).2.1 (rx_T a b).2.2.1) && (!(rx_T a b).2.2.2 || decide ((rx_y mi).name = "<init>" ∧ (rx_T a b).1 = rx_own mi)))))) = true := hi2
    rw [Bool.and_eq_true, Bool.and_eq_true, Bool.and_eq_true, Bool.and_eq_true, beq_iff_eq] at hi3
    obtain ⟨rfl, k1, k2, k3, k4⟩ := hi3
    have k1' : a < 13 := Nat.le_of_ble_eq_true k1
    have k2' : b < rx_N a := Nat.le_of_ble_eq_true k2
    have h' : (match (generalizing := false) st with
      | v :: .ref k :: st => rx_put X k a b v (fun X => K is L st X)
      | _ => False) := h
    split at h'
    · rename_i st0 v k st'
      obtain ⟨X', fs, q1, q2, q3, q4, q5, q6, q7, q8, q9, q10, q11⟩ := rx_put_inv tc ad hNC h'
      have he := rx_W_get tc ad X q2
      rw [q6] at he
      have hset : (rx_W tc ad X).set k (ad k, .inr (a, fs.set b (rx_conc ad v))) = rx_W tc ad X' := rx_W_set q3 q2 q8 q9
      cases hf : (rx_T a b).2.2.2 with
      | false =>
        refine va_put hx hb hts (rx_C k1').1 (rx_ty a) (rx_C k1').2.1 (rx_C k1').2.2.1 ho hk hP hD hS k he (rx_cl_get k1') b k2' (hts _ (rx_w_in k3)) (fun _ h9 => h9) hf ((rx_C k1').2.1 b k2') q10 q11 q7 hd (fun H1 locs1 hP1 hD1 hS1 => ?_)
        rw [hset] at hP1 hD1
        exact goX L st' X' H1 locs1 q1 q3 q4 q5 hP1 hD1 hS1 hl
      | true =>
        rw [hf] at k4
        have k5 : (rx_y mi).name = "<init>" ∧ (rx_T a b).1 = rx_own mi := of_decide_eq_true k4
        refine va_putF hx hb hts (rx_C k1').1 (rx_ty a) (rx_C k1').2.1 (rx_C k1').2.2.1 ho hk hP hD hS k he (rx_cl_get k1') b k2' (hts _ (rx_w_in k3)) (fun _ h9 => h9) hf (hin k5.1) k5.2 ((rx_C k1').2.1 b k2') q10 q11 q7 hd (fun H1 locs1 hP1 hD1 hS1 => ?_)
        rw [hset] at hP1 hD1
        exact goX L st' X' H1 locs1 q1 q3 q4 q5 hP1 hD1 hS1 hl
    · exact h'.elim
  | iaload =>
    obtain rfl : len = 1 := by simpa using (show (len == 1) = true from hi2)
    have h' : (match (generalizing := false) st with
      | .int i :: .ref k :: st => cond (k == 9999) (match (generalizing := false) S with
          | some q => rx_ck (vp_in i q.1) (K is L (.int (q.2.1 i.toNatClampNeg) :: st) X)
          | none => False) (match (generalizing := false) rx_arr X k with
              | some (1, n) => rx_ck (vp_in i n) (K is L (.int (X.2.2.2.2.2.1 k i.toNatClampNeg) :: st) X)
              | _ => False)
      | _ => False) := h
    split at h'
    · rename_i st0 i k st'
      cases hk9 : k == 9999 with
      | true =>
        rw [hk9] at h'
        have hk9' : k = 9999 := by simpa using hk9
        subst hk9'
        cases S with
        | none => exact h'.elim
        | some q => exact va_sld hx hb hsc.1.1 hsc.1.2.1 hsc.1.2.2 hS h'.1 hd (go L _ ls h'.2 hl)
      | false =>
        rw [hk9] at h'
        dsimp only [cond_false] at h'
        split at h'
        · rename_i n hn2
          obtain ⟨z1, z2, -, -⟩ := rx_arr_spec (tc := tc) (ad := ad) hn2
          exact va_iald hx hb hk hP k 0 (by rw [rx_W_get tc ad X z1, z2]; rfl) rfl h'.1 hd (go L _ ls h'.2 hl)
        · exact h'.elim
    · exact h'.elim
  | baload =>
    obtain rfl : len = 1 := by simpa using (show (len == 1) = true from hi2)
    have h' : (match (generalizing := false) st with
      | .int i :: .ref k :: st => match (generalizing := false) rx_arr X k with
              | some (3, n) => rx_ck (vp_in i n) (K is L (.int (X.2.2.2.2.2.1 k i.toNatClampNeg) :: st) X)
              | some (4, n) => rx_ck (vp_in i n) (K is L (.int (X.2.2.2.2.2.1 k i.toNatClampNeg) :: st) X)
              | _ => False
      | _ => False) := h
    split at h'
    · rename_i st0 i k st'
      split at h'
      · rename_i n hn2
        obtain ⟨z1, z2, -, -⟩ := rx_arr_spec (tc := tc) (ad := ad) hn2
        exact va_zald hx hb hk hP k 2 (by rw [rx_W_get tc ad X z1, z2]; rfl) rfl h'.1 hd (go L _ ls h'.2 hl)
      · rename_i n hn2
        obtain ⟨z1, z2, -, -⟩ := rx_arr_spec (tc := tc) (ad := ad) hn2
        exact va_bald hx hb hk hP k 3 (by rw [rx_W_get tc ad X z1, z2]; rfl) rfl h'.1 hd (go L _ ls h'.2 hl)
      · exact h'.elim
    · exact h'.elim
  | laload =>
    obtain rfl : len = 1 := by simpa using (show (len == 1) = true from hi2)
    have h' : (match (generalizing := false) st with
      | .int i :: .ref k :: st => match (generalizing := false) rx_arr X k with
              | some (2, n) => rx_ck (vp_in i n) (K is L (.long (X.2.2.2.2.2.2 k i.toNatClampNeg) :: st) X)
              | _ => False
      | _ => False) := h
    split at h'
    · rename_i st0 i k st'
      split at h'
      · rename_i n hn2
        obtain ⟨z1, z2, -, -⟩ := rx_arr_spec (tc := tc) (ad := ad) hn2
        exact va_lald hx hb hk hP k 1 (by rw [rx_W_get tc ad X z1, z2]; rfl) rfl h'.1 hd (go L _ ls h'.2 hl)
      · exact h'.elim
    · exact h'.elim
  | iastore =>
    obtain rfl : len = 1 := by simpa using (show (len == 1) = true from hi2)
    have h' : (match (generalizing := false) st with
      | .int v :: .int i :: .ref k :: st => match (generalizing := false) rx_arr X k with
          | some (1, n) => rx_ck (vp_in i n) (K is L st (rx_aset X k i v))
          | _ => False
      | _ => False) := h
    split at h'
    · rename_i st0 v i k st'
      split at h'
      · rename_i n hn2
        obtain ⟨z1, z2, -, sl, z3⟩ := rx_arr_spec (tc := tc) (ad := ad) hn2
        refine va_iast hx hb hk hP hD hS k 0 (by rw [rx_W_get tc ad X z1, z2]; rfl) rfl h'.1 hd (fun H1 locs1 hP1 hD1 hS1 => ?_)
        have hset : (rx_W tc ad X).set k (ad k, .inl (tc 1, n, .inl (upd (X.2.2.2.2.2.1 k) i.toNatClampNeg v))) = rx_W tc ad (rx_aset X k i v) := rx_W_set rfl z1 (by unfold rx_cell; rw [z3]; show Sum.inl (tc 1, n, Sum.inl ((rx_si X.2.2.2.2.2 k i.toNatClampNeg _).1 k)) = _; rw [rx_si_1]) (fun j _ hj => rx_cell_congr (rx_si_n hj) rx_si_2 (fun _ _ _ _ _ _ => rfl))
        rw [hset] at hP1 hD1
        exact goX L st' _ H1 locs1 h'.2 rfl rfl rfl hP1 hD1 hS1 hl
      · exact h'.elim
    · exact h'.elim
  | bastore =>
    obtain rfl : len = 1 := by simpa using (show (len == 1) = true from hi2)
    have h' : (match (generalizing := false) st with
      | .int v :: .int i :: .ref k :: st => match (generalizing := false) rx_arr X k with
          | some (3, n) => rx_ck (vp_in i n) (K is L st (rx_aset X k i (vp_nar .boolean v)))
          | some (4, n) => rx_ck (vp_in i n) (K is L st (rx_aset X k i (vp_nar .byte v)))
          | _ => False
      | _ => False) := h
    split at h'
    · rename_i st0 v i k st'
      split at h'
      · rename_i n hn2
        obtain ⟨z1, z2, -, sl, z3⟩ := rx_arr_spec (tc := tc) (ad := ad) hn2
        refine va_zast hx hb hk hP hD hS k 2 (by rw [rx_W_get tc ad X z1, z2]; rfl) rfl h'.1 hd (fun H1 locs1 hP1 hD1 hS1 => ?_)
        have hset : (rx_W tc ad X).set k (ad k, .inl (tc 3, n, .inl (upd (X.2.2.2.2.2.1 k) i.toNatClampNeg (vp_nar .boolean v)))) = rx_W tc ad (rx_aset X k i (vp_nar .boolean v)) := rx_W_set rfl z1 (by unfold rx_cell; rw [z3]; show Sum.inl (tc 3, n, Sum.inl ((rx_si X.2.2.2.2.2 k i.toNatClampNeg _).1 k)) = _; rw [rx_si_1]) (fun j _ hj => rx_cell_congr (rx_si_n hj) rx_si_2 (fun _ _ _ _ _ _ => rfl))
        rw [hset] at hP1 hD1
        exact goX L st' _ H1 locs1 h'.2 rfl rfl rfl hP1 hD1 hS1 hl
      · rename_i n hn2
        obtain ⟨z1, z2, -, sl, z3⟩ := rx_arr_spec (tc := tc) (ad := ad) hn2
        refine va_bast hx hb hk hP hD hS k 3 (by rw [rx_W_get tc ad X z1, z2]; rfl) rfl h'.1 hd (fun H1 locs1 hP1 hD1 hS1 => ?_)
        have hset : (rx_W tc ad X).set k (ad k, .inl (tc 4, n, .inl (upd (X.2.2.2.2.2.1 k) i.toNatClampNeg (vp_nar .byte v)))) = rx_W tc ad (rx_aset X k i (vp_nar .byte v)) := rx_W_set rfl z1 (by unfold rx_cell; rw [z3]; show Sum.inl (tc 4, n, Sum.inl ((rx_si X.2.2.2.2.2 k i.toNatClampNeg _).1 k)) = _; rw [rx_si_1]) (fun j _ hj => rx_cell_congr (rx_si_n hj) rx_si_2 (fun _ _ _ _ _ _ => rfl))
        rw [hset] at hP1 hD1
        exact goX L st' _ H1 locs1 h'.2 rfl rfl rfl hP1 hD1 hS1 hl
      · exact h'.elim
    · exact h'.elim
  | lastore =>
    obtain rfl : len = 1 := by simpa using (show (len == 1) = true from hi2)
    have h' : (match (generalizing := false) st with
      | .long v :: .int i :: .ref k :: st => match (generalizing := false) rx_arr X k with
          | some (2, n) => rx_ck (vp_in i n) (K is L st (rx_asetl X k i v))
          | _ => False
      | _ => False) := h
    split at h'
    · rename_i st0 v i k st'
      split at h'
      · rename_i n hn2
        obtain ⟨z1, z2, -, sl, z3⟩ := rx_arr_spec (tc := tc) (ad := ad) hn2
        refine va_last hx hb hk hP hD hS k 1 (by rw [rx_W_get tc ad X z1, z2]; rfl) rfl h'.1 hd (fun H1 locs1 hP1 hD1 hS1 => ?_)
        have hset : (rx_W tc ad X).set k (ad k, .inl (tc 2, n, .inr (.inl (vp_updL (X.2.2.2.2.2.2 k) i.toNatClampNeg v)))) = rx_W tc ad (rx_asetl X k i v) := rx_W_set rfl z1 (by unfold rx_cell; rw [z3]; show Sum.inl (tc 2, n, Sum.inr (Sum.inl ((rx_sl X.2.2.2.2.2 k i.toNatClampNeg v).2 k))) = _; rw [rx_sl_2]) (fun j _ hj => rx_cell_congr rx_sl_1 (rx_sl_n hj) (fun _ _ _ _ _ _ => rfl))
        rw [hset] at hP1 hD1
        exact goX L st' _ H1 locs1 h'.2 rfl rfl rfl hP1 hD1 hS1 hl
      · exact h'.elim
    · exact h'.elim
  | arraylength =>
    obtain rfl : len = 1 := by simpa using (show (len == 1) = true from hi2)
    have h' : (match (generalizing := false) st with
      | .ref k :: st => cond (k == 9999) (match (generalizing := false) S with
          | some q => K is L (.int (Int32.ofNat q.1) :: st) X
          | none => False) (match (generalizing := false) rx_arr X k with
          | some (t, n) => cond (Nat.blt t 5) (K is L (.int (Int32.ofNat n) :: st) X) False
          | none => False)
      | _ => False) := h
    split at h'
    · rename_i st0 k st'
      cases hk9 : k == 9999 with
      | true =>
        rw [hk9] at h'
        have hk9' : k = 9999 := by simpa using hk9
        subst hk9'
        cases S with
        | none => exact h'.elim
        | some q => exact va_slen hx hb hsc.1.1 hsc.1.2.1 hsc.1.2.2 hS hd (go L _ ls h' hl)
      | false =>
        rw [hk9] at h'
        dsimp only [cond_false] at h'
        split at h'
        · rename_i t n hn2
          obtain ⟨h5, h6⟩ := rx_cond_t h'
          have h5' : t < 5 := Nat.le_of_ble_eq_true h5
          obtain ⟨z1, z2, z0, sl, z3⟩ := rx_arr_spec (tc := tc) (ad := ad) hn2
          by_cases ht2 : t = 2
          · subst ht2
            exact va_alen hx hb hk hP k 1 (cA := tc 2) (x := (n, .inr (.inl (X.2.2.2.2.2.2 k)))) (by rw [rx_W_get tc ad X z1, z2]; rfl) (ty := .long) rfl rfl hd (go L _ ls h6 hl)
          · rw [if_neg ht2] at z2
            rcases (show t = 1 ∨ t = 3 ∨ t = 4 by omega) with rfl | rfl | rfl
            · exact va_alen hx hb hk hP k 0 (cA := tc 1) (x := (n, .inl (X.2.2.2.2.2.1 k))) (by rw [rx_W_get tc ad X z1, z2]) (ty := .int) rfl rfl hd (go L _ ls h6 hl)
            · exact va_alen hx hb hk hP k 2 (cA := tc 3) (x := (n, .inl (X.2.2.2.2.2.1 k))) (by rw [rx_W_get tc ad X z1, z2]) (ty := .boolean) rfl rfl hd (go L _ ls h6 hl)
            · exact va_alen hx hb hk hP k 3 (cA := tc 4) (x := (n, .inl (X.2.2.2.2.2.1 k))) (by rw [rx_W_get tc ad X z1, z2]) (ty := .byte) rfl rfl hd (go L _ ls h6 hl)
        · exact h'.elim
    · exact h'.elim
  | ireturn =>
    obtain rfl : len = 1 := by simpa using (show (len == 1) = true from hi2)
    have h' : (match (generalizing := false) st with
      | [.int v] => rx_nar (rx_rt mi) v ∧ out = (some (.int v), X)
      | _ => False) := h
    split at h'
    · rename_i st0 v
      obtain ⟨h1, rfl⟩ := h'
      exact hr H locs ad ls pc (fun _ _ => rfl) hP hD hS hd h1
    · exact h'.elim
  | lreturn =>
    obtain rfl : len = 1 := by simpa using (show (len == 1) = true from hi2)
    have h' : (match (generalizing := false) st with
      | [.long v] => rx_rt mi = some .long ∧ out = (some (.long v), X)
      | _ => False) := h
    split at h'
    · rename_i st0 v
      obtain ⟨h1, rfl⟩ := h'
      exact hr H locs ad ls pc (fun _ _ => rfl) hP hD hS hd h1
    · exact h'.elim
  | return_ =>
    obtain rfl : len = 1 := by simpa using (show (len == 1) = true from hi2)
    have h' : (match (generalizing := false) st with
      | [] => rx_rt mi = none ∧ out = (none, X)
      | _ => False) := h
    split at h'
    · skip
      obtain ⟨h1, rfl⟩ := h'
      exact hr H locs ad ls pc (fun _ _ => rfl) hP hD hS hd h1
    · exact h'.elim
  | new n =>
    have hi3 : (len == 3 && (!(Nat.blt a 13) || rx_w w (.classLink (rx_own mi) n (rx_R.getD a "")))) = true := hi2
    rw [Bool.and_eq_true, beq_iff_eq] at hi3
    obtain ⟨rfl, k3⟩ := hi3
    obtain ⟨kc, c0, s0, ini, P, σ⟩ := X
    have h' : (match (generalizing := false) rx_lay kc with
      | (0, ci, sl) => cond (ci == a && (Nat.blt kc rx_NC && (rx_free kc ini P && rx_olds kc L st))) (rx_ck (c0 + 1 ≤ out.2.2.1 ∧ s0 + sl.length ≤ out.2.2.2.1) (K is L (.ref kc :: st) (kc + 1, c0 + 1, s0 + sl.length, ini ++ rx_refs kc sl, P, rx_z σ kc))) False
      | _ => False) := h
    split at h'
    · rename_i ci sl hlay
      obtain ⟨h1, hb1, h2⟩ := rx_cond_t h'
      simp only [Bool.and_eq_true, beq_iff_eq] at h1
      obtain ⟨rfl, h1, hfree, hol⟩ := h1
      have hkN : kc < rx_NC := Nat.le_of_ble_eq_true h1
      have hk9 : kc < 9000 := Nat.lt_of_lt_of_le hkN (by decide)
      obtain ⟨g1, g2, g3, g4⟩ := rx_L_obj hkN hlay
      have k3' : rx_w w (.classLink (rx_own mi) n (rx_R.getD ci "")) = true := by
        rw [show Nat.blt ci 13 = true from Nat.ble_eq_true_of_le g1] at k3
        exact k3
      obtain ⟨w1, w2⟩ := (rx_C g1).2.2.2 g2
      have hfs : ∀ j, j < rx_N ci → defaultValue (rx_ty ci j) = vp_V (sl.mapIdx (fun j q => rx_sv ad (ini ++ rx_refs kc sl) P (fun _ => 0) kc j q)) j := by
        intro j hj
        have hjl : j < sl.length := by rw [g3]; exact hj
        show _ = (sl.mapIdx _).getD j Value.null
        rw [List.getD_eq_getElem?_getD, List.getElem?_mapIdx, List.getElem?_eq_getElem hjl]
        show _ = rx_sv ad (ini ++ rx_refs kc sl) P (fun _ => 0) kc j sl[j]
        unfold rx_sv
        rcases g4 j sl[j] (List.getElem?_eq_getElem hjl) with ⟨y1, -, y3⟩ | ⟨y1, -, y3⟩ | ⟨y1, ⟨C, y3⟩ | ⟨C, y3⟩, -⟩ | ⟨y1, ⟨C, y3⟩, -⟩
        · rw [y1, y3]; rfl
        · rw [y1, y3]; rfl
        · rw [rx_refs_self (List.getElem?_eq_getElem hjl) (by rw [y1]; decide), y1, y3]; rfl
        · rw [rx_refs_self (List.getElem?_eq_getElem hjl) (by rw [y1]; decide), y1, y3]; rfl
        · rw [rx_refs_self (List.getElem?_eq_getElem hjl) (by rw [y1]; decide), y1, y3]; rfl
      refine va_new hx hb hts (rx_C g1).1 (rx_ty ci) (rx_C g1).2.1 ho (hts _ (rx_w_in k3')) (hts _ w1) (hts _ w2) hk hP hD hS hA (rx_cl_get g1) hfs (Nat.le_trans hb1.1 hc.1) (by rw [← g3]; exact Nat.le_trans hb1.2 hc.2) hd (fun q H1 hP1 hD1 hS1 => ?_)
      have hag : rx_ag kc ad (fun j => if j = kc then q else ad j) := fun z hz => if_neg (by rcases hz with hz | hz <;> omega)
      have hpush : rx_W tc ad (kc, c0, s0, ini, P, σ) ++ [(q, .inr (ci, sl.mapIdx (fun j q => rx_sv ad (ini ++ rx_refs kc sl) P (fun _ => 0) kc j q)))] = rx_W tc (fun j => if j = kc then q else ad j) (kc + 1, c0 + 1, s0 + sl.length, ini ++ rx_refs kc sl, P, rx_z σ kc) := by
        refine rx_W_push rfl (if_pos rfl) (fun j hj => if_neg (Nat.ne_of_lt hj)) ?_ (fun j hj => rx_cell_new hkN hj hfree (fun b => rx_refs_contains (Nat.ne_of_lt hj)))
        rw [rx_cell_obj hlay]
        congr 2
        apply List.ext_getElem?
        intro j
        rw [List.getElem?_mapIdx, List.getElem?_mapIdx]
        cases hs : sl[j]? with
        | none => rfl
        | some z =>
          have hjl : j < sl.length := (List.getElem?_eq_some_iff.mp hs).1
          show some (rx_sv _ _ _ _ _ _ _) = some (rx_sv _ _ _ _ _ _ _)
          have hz0 : (rx_z σ kc).1 kc j = 0 := by unfold rx_z; simp
          unfold rx_sv
          by_cases h0 : z.1 = 0
          · rw [h0]
            exact congrArg (fun v => some (Value.int v)) hz0
          · rw [rx_refs_self hs h0]
            split
            · rename_i e; exact absurd e h0
            · rfl
            · rfl
      rw [hpush] at hP1 hD1
      obtain ⟨o1, o2⟩ := rx_olds_ag hag hol
      have := hK is L _ _ h2 hs2 p l e R s m args below meth c D tc _ H0 A Q H1 locs ls (rx_Cx_ag hag cx) hc hP1 hD1 hS1 (by rw [o1]; exact hl) (fun H2 locs2 ad2 ls2 pc2 z1 z2 z3 z4 z5 z6 => hr H2 locs2 ad2 ls2 pc2 (fun q hq => (z1 q (hq.imp (fun z => Nat.lt_succ_of_lt z) id)).trans (hag q hq)) z2 z3 z4 z5 z6)
      rw [hn.resolve_left (fun e => hK0 _ _ _ (e ▸ h2)), List.map_cons, o2, show rx_conc (fun j => if j = kc then q else ad j) (.ref kc) = .ref q by show Value.ref (if kc = kc then q else ad kc) = _; rw [if_pos rfl]] at this
      rw [← g3]
      exact this
    · exact h'.elim
  | newarray t =>
    have hi3 : (len == 2 && (rx_w w (.arrayClass (newarray.typeOf t)) && decide ((a = 1 ∧ t = .int) ∨ (a = 2 ∧ t = .long) ∨ (a = 3 ∧ t = .boolean) ∨ (a = 4 ∧ t = .byte)))) = true := hi2
    rw [Bool.and_eq_true, Bool.and_eq_true, beq_iff_eq, decide_eq_true_eq] at hi3
    obtain ⟨rfl, k3, k4⟩ := hi3
    obtain ⟨kc, c0, s0, ini, P, σ⟩ := X
    cases st with
    | nil => exact h.elim
    | cons v st =>
    cases v with
    | int xx =>
      have h' : (match (generalizing := false) rx_lay kc with
        | (0, _, _) => False
        | (t, n, _) => cond (t == a && (Nat.blt kc rx_NC && (rx_free kc ini P && rx_olds kc L st))) (rx_ck (xx = nI n ∧ c0 + 1 ≤ out.2.2.1 ∧ s0 + n ≤ out.2.2.2.1) (K is L (.ref kc :: st) (kc + 1, c0 + 1, s0 + n, ini, P, rx_z σ kc))) False) := h
      split at h'
      · exact h'.elim
      · rename_i ta na sla hne hlay
        obtain ⟨h1, hb1, h2⟩ := rx_cond_t h'
        simp only [Bool.and_eq_true, beq_iff_eq] at h1
        obtain ⟨rfl, h1, hfree, hol⟩ := h1
        have hkN : kc < rx_NC := Nat.le_of_ble_eq_true h1
        have hk9 : kc < 9000 := Nat.lt_of_lt_of_le hkN (by decide)
        have ht0 : ta ≠ 0 := fun e => by first | exact hne e | (subst e; exact hne rfl) | (subst e; exact hne na sla hlay)
        obtain ⟨g1, g2, g3⟩ := rx_L_arr hkN hlay ht0
        obtain ⟨hxx, hb1, hb2⟩ := hb1
        subst hxx
        have hneg : ¬ nI na < 0 := nI_pos (by omega)
        have hclamp : (nI na).toNatClampNeg = na := nI_clamp (by omega)
        have hkey : ∀ (q : Nat) (H1 : Heap) (cell : va_E), rx_cell tc (fun j => if j = kc then q else ad j) ini P (rx_z σ kc) kc = cell → va_P D rx_cl (rx_W tc ad (kc, c0, s0, ini, P, σ) ++ [(q, cell)]) H1 → va_D A (rx_W tc ad (kc, c0, s0, ini, P, σ) ++ [(q, cell)]) → va_S A H0 H1 locs → W p l e R s m args below meth c H1 locs (c0 + 1) (s0 + na) Q (F0 m (pc + 2) ls (.ref q :: st.map (rx_conc ad))) := by
          intro q H1 cell hcell hP1 hD1 hS1
          have hag : rx_ag kc ad (fun j => if j = kc then q else ad j) := fun z hz => if_neg (by rcases hz with hz | hz <;> omega)
          have hpush : rx_W tc ad (kc, c0, s0, ini, P, σ) ++ [(q, cell)] = rx_W tc (fun j => if j = kc then q else ad j) (kc + 1, c0 + 1, s0 + na, ini, P, rx_z σ kc) :=
            rx_W_push rfl (if_pos rfl) (fun j hj => if_neg (Nat.ne_of_lt hj)) hcell (fun j hj => rx_cell_new hkN hj hfree (fun b => rfl))
          rw [hpush] at hP1 hD1
          obtain ⟨o1, o2⟩ := rx_olds_ag hag hol
          have := hK is L _ _ h2 hs2 p l e R s m args below meth c D tc _ H0 A Q H1 locs ls (rx_Cx_ag hag cx) hc hP1 hD1 hS1 (by rw [o1]; exact hl) (fun H2 locs2 ad2 ls2 pc2 z1 z2 z3 z4 z5 z6 => hr H2 locs2 ad2 ls2 pc2 (fun q hq => (z1 q (hq.imp (fun z => Nat.lt_succ_of_lt z) id)).trans (hag q hq)) z2 z3 z4 z5 z6)
          rw [hn.resolve_left (fun e => hK0 _ _ _ (e ▸ h2)), List.map_cons, o2, show rx_conc (fun j => if j = kc then q else ad j) (.ref kc) = .ref q by show Value.ref (if kc = kc then q else ad kc) = _; rw [if_pos rfl]] at this
          exact this
        have hz1 : (rx_z σ kc).1 kc = fun _ => 0 := by unfold rx_z; simp
        have hz2 : (rx_z σ kc).2 kc = fun _ => 0 := by unfold rx_z; simp
        rcases k4 with ⟨rfl, rfl⟩ | ⟨rfl, rfl⟩ | ⟨rfl, rfl⟩ | ⟨rfl, rfl⟩
        · refine va_newa (atype := .int) (ty := .int) (a0 := (na, .inl (fun _ => 0))) hx hb (hts _ (rx_w_in k3)) rfl hk hP hD hS hA (fun _ => rfl) hneg hclamp (by show na * 4 ≤ _; omega) (Nat.le_trans hb1 hc.1) (Nat.le_trans hb2 hc.2) hd (fun q cA H1 hK1 hP1 hD1 hS1 => ?_)
          refine hkey q H1 _ ?_ hP1 hD1 hS1
          rw [rx_K_set (t := 0) hK1 rfl (fun _ e => by cases e)]
          unfold rx_cell
          rw [hlay, hz1]
          rfl
        · refine va_newa (atype := .long) (ty := .long) (a0 := (na, .inr (.inl (fun _ => 0)))) hx hb (hts _ (rx_w_in k3)) rfl hk hP hD hS hA (fun _ => rfl) hneg hclamp (by show na * 8 ≤ _; omega) (Nat.le_trans hb1 hc.1) (Nat.le_trans hb2 hc.2) hd (fun q cA H1 hK1 hP1 hD1 hS1 => ?_)
          refine hkey q H1 _ ?_ hP1 hD1 hS1
          rw [rx_K_set (t := 1) hK1 rfl (fun _ e => by cases e)]
          unfold rx_cell
          rw [hlay, hz2]
          rfl
        · refine va_newa (atype := .boolean) (ty := .boolean) (a0 := (na, .inl (fun _ => 0))) hx hb (hts _ (rx_w_in k3)) rfl hk hP hD hS hA (fun _ => rfl) hneg hclamp (by show na * 1 ≤ _; omega) (Nat.le_trans hb1 hc.1) (Nat.le_trans hb2 hc.2) hd (fun q cA H1 hK1 hP1 hD1 hS1 => ?_)
          refine hkey q H1 _ ?_ hP1 hD1 hS1
          rw [rx_K_set (t := 2) hK1 rfl (fun _ e => by cases e)]
          unfold rx_cell
          rw [hlay, hz1]
          rfl
        · refine va_newa (atype := .byte) (ty := .byte) (a0 := (na, .inl (fun _ => 0))) hx hb (hts _ (rx_w_in k3)) rfl hk hP hD hS hA (fun _ => rfl) hneg hclamp (by show na * 1 ≤ _; omega) (Nat.le_trans hb1 hc.1) (Nat.le_trans hb2 hc.2) hd (fun q cA H1 hK1 hP1 hD1 hS1 => ?_)
          refine hkey q H1 _ ?_ hP1 hD1 hS1
          rw [rx_K_set (t := 3) hK1 rfl (fun _ e => by cases e)]
          unfold rx_cell
          rw [hlay, hz1]
          rfl
    | _ => exact h.elim
  | invokespecial n =>
    have hi3 : (len == 3 && (cond (a == 9000) (rx_w w (.methodLink (rx_own mi) n Lib.objectInit) && (Nat.ble 1 (rx_fr mi) && Nat.ble 20 (rx_lo mi))) (!(Nat.blt a rx_NM) || (rx_room mi a && (!(rx_sta a) && (decide ((rx_y a).name = "<init>" ∧ rx_rt a = none) && cond (b == 0) (rx_w w (.methodLink (rx_own mi) n (rx_y a))) (decide ((rx_own mi, n, rx_y a) ∈ rx_nest)))))))) = true := hi2
    rw [Bool.and_eq_true, beq_iff_eq] at hi3
    obtain ⟨rfl, k3⟩ := hi3
    have h' : cond (a == 9000) (match (generalizing := false) st with
        | .ref _ :: st => cond (rx_cat st) (K is L st X) False
        | _ => False) (match (generalizing := false) st.drop (rx_np a) with
        | .ref k :: st' => rx_call K out a (.ref k :: (st.take (rx_np a)).reverse) is L st' X
        | _ => False) := h
    cases ha : a == 9000 with
    | true =>
      rw [ha] at h' k3
      rw [cond_true, Bool.and_eq_true, Bool.and_eq_true] at k3
      obtain ⟨k3, k5, k6⟩ := k3
      dsimp only [cond_true] at h'
      split at h'
      · rename_i st0 r st'
        obtain ⟨h1, h2⟩ := rx_cond_t h'
        have h1' : (st'.map fun v => v.category).sum ≤ 8 := Nat.le_of_ble_eq_true h1
        have k5' : 1 ≤ rx_fr mi := Nat.le_of_ble_eq_true k5
        have k6' : 20 ≤ rx_lo mi := Nat.le_of_ble_eq_true k6
        refine W.objInit hx hb ho (hts _ (rx_w_in k3)) (hts _ rx_oi1) (hts _ rx_oi2) rfl (by rw [hml]; exact hl.1) rfl hd (Nat.le_trans k5' hfl.1) ?_ ?_
        · show 2 * 0 + ((st'.map (rx_conc ad)).map fun v => v.category).sum + 12 ≤ R.locals
          rw [rx_cat_map]
          have := hfl.2
          omega
        · exact go L st' ls h2 hl
      · exact h'.elim
    | false =>
      rw [ha] at h' k3
      dsimp only [cond_false] at h' k3
      split at h'
      · rename_i k st' hdrop
        obtain ⟨h1, h2, h3, h4⟩ := rx_call_inv h'
        rw [show Nat.blt a rx_NM = true from Nat.ble_eq_true_of_le h2] at k3
        simp only [Bool.not_true, Bool.false_or, Bool.and_eq_true, decide_eq_true_eq, Bool.not_eq_true'] at k3
        obtain ⟨k3, k4, ⟨k5, k6⟩, k7⟩ := k3
        have ha3 : a < 263 := by
          have h2' : a < 264 := h2
          rcases (show a < 263 ∨ a = 263 by omega) with h | h
          · exact h
          · subst h; revert k5; decide +kernel
        obtain ⟨M1, M2, M3, M4, M5⟩ := rx_M ha3
        have hst : st.map (rx_conc ad) = ((st.take (rx_np a)).reverse.map (rx_conc ad)).reverse ++ .ref (ad k) :: st'.map (rx_conc ad) := by
          rw [List.map_reverse, List.reverse_reverse, ← show (st.drop (rx_np a)).map (rx_conc ad) = .ref (ad k) :: st'.map (rx_conc ad) by rw [hdrop]; rfl, ← List.map_append, List.take_append_drop]
        have hlen : ((st.take (rx_np a)).reverse.map (rx_conc ad)).length = rx_np a := by
          rw [List.length_map, List.length_reverse, List.length_take]
          have : (st.drop (rx_np a)).length = st.length - rx_np a := List.length_drop
          rw [hdrop, List.length_cons] at this
          omega
        rw [hst]
        refine rx_call_W hK (fun L2 st2 X2 hk2 => hn.resolve_left (fun e => hK0 L2 st2 X2 (e ▸ hk2))) hs2 cx hc hP hD hS hl hr h3 h4 (fun r kc mc ms ini P σ Pc Qc free hM hp hf => ?_)
        cases hb0 : b == 0 with
        | true =>
          rw [hb0] at k7
          have hwd : Cond.code (rx_y a) (rx_b a) (rx_ml a) (rx_rt a) = Cond.code (rx_y a) (rx_b a) (rx_ml a) none := by rw [k6]
          exact va_runI (Ts := rx_TS) ⟨hx, hb, hml, ho, hts⟩ hM (cwI (rx_np a) hts (rx_ws_good ha3) (by unfold rx_ws; rw [hwd]) rfl rfl (hts _ M3) (hts _ (rx_w_in k7)) (hts _ (M5 k4).1) k5 M2 (rx_room_inv k3 hfl)) hp rfl hlen hl.1 rfl (lv_room (by rw [rx_cat_map]; exact h1)) hd hf
        | false =>
          rw [hb0] at k7
          have k7' : (rx_own mi, n, rx_y a) ∈ rx_nest := of_decide_eq_true k7
          have hwd : Cond.code (rx_y a) (rx_b a) (rx_ml a) (rx_rt a) = Cond.code (rx_y a) (rx_b a) (rx_ml a) none := by rw [k6]
          exact va_runIN (Ts := rx_TS) ⟨hx, hb, hml, ho, hts⟩ hM ⟨va_cnB (rx_np a) hts (rx_ws_good ha3) (by unfold rx_ws; rw [hwd]) rfl rfl (hnw _ k7') (hts _ M3) M2 (rx_room_inv k3 hfl), k5, hts _ (M5 k4).1⟩ hp rfl hlen hl.1 rfl (lv_room (by rw [rx_cat_map]; exact h1)) hd hf
      · exact h'.elim
  | invokevirtual n =>
    have hi3 : (len == 3 && (!(Nat.blt a rx_NM) || (rx_room mi a && (!(rx_sta a) && (decide (¬ (rx_y a).name = "<init>" ∧ rx_R[b]? = some (rx_y a).cls) && rx_w w (.methodLink (rx_own mi) n (rx_y a))))))) = true := hi2
    rw [Bool.and_eq_true, beq_iff_eq] at hi3
    obtain ⟨rfl, k3⟩ := hi3
    have h' : cond (Nat.ble 9000 a) (rx_stepX K out is L st X a) (match (generalizing := false) st.drop (rx_np a) with
        | .ref k :: st' => cond (rx_isobj X k b) (rx_call K out a (.ref k :: (st.take (rx_np a)).reverse) is L st' X) False
        | _ => False) := h
    cases ha : Nat.ble 9000 a with
    | true =>
      rw [ha] at h'
      exact hext ha h' p l e R s m args below meth c D tc ad H0 A Q H locs ls cx hc hP hD hS hl hr
    | false =>
      rw [ha] at h'
      dsimp only [cond_false] at h'
      split at h'
      · rename_i k st' hdrop
        obtain ⟨hob, h'⟩ := rx_cond_t h'
        obtain ⟨h1, h2, h3, h4⟩ := rx_call_inv h'
        rw [show Nat.blt a rx_NM = true from Nat.ble_eq_true_of_le h2] at k3
        simp only [Bool.not_true, Bool.false_or, Bool.and_eq_true, decide_eq_true_eq, Bool.not_eq_true'] at k3
        obtain ⟨k3, k4, ⟨k5, k6⟩, k7⟩ := k3
        have ha3 : a < 263 := by
          have h2' : a < 264 := h2
          rcases (show a < 263 ∨ a = 263 by omega) with h | h
          · exact h
          · subst h; revert k4; decide +kernel
        obtain ⟨M1, M2, M3, M4, M5⟩ := rx_M ha3
        have hst : st.map (rx_conc ad) = ((st.take (rx_np a)).reverse.map (rx_conc ad)).reverse ++ .ref (ad k) :: st'.map (rx_conc ad) := by
          rw [List.map_reverse, List.reverse_reverse, ← show (st.drop (rx_np a)).map (rx_conc ad) = .ref (ad k) :: st'.map (rx_conc ad) by rw [hdrop]; rfl, ← List.map_append, List.take_append_drop]
        have hlen : ((st.take (rx_np a)).reverse.map (rx_conc ad)).length = rx_np a := by
          rw [List.length_map, List.length_reverse, List.length_take]
          have : (st.drop (rx_np a)).length = st.length - rx_np a := List.length_drop
          rw [hdrop, List.length_cons] at this
          omega
        rw [hst]
        obtain ⟨z1, fs, hcell⟩ := rx_isobj_spec (tc := tc) (ad := ad) hob
        have hb13 : b < 13 := by
          have := (List.getElem?_eq_some_iff.mp k6).1
          exact this
        have hcls : rx_R.getD b "" = (rx_y a).cls := by rw [List.getD_eq_getElem?_getD, k6]; rfl
        have hrecv := va_recv (q0 := k) hk hP (rx_cl_get hb13) (by rw [rx_W_get tc ad X z1, hcell])
        refine rx_call_W hK (fun L2 st2 X2 hk2 => hn.resolve_left (fun e => hK0 L2 st2 X2 (e ▸ hk2))) hs2 cx hc hP hD hS hl hr h3 h4 (fun r kc mc ms ini P σ Pc Qc free hM hp hf => ?_)
        refine va_runV (Ts := rx_TS) ⟨hx, hb, hml, ho, hts⟩ hM (cwV (C := (rx_y a).cls) (rx_np a) hts ?_ rfl rfl rfl ⟨rfl, M2⟩ (rx_room_inv k3 hfl)) ⟨hp.1, ?_, hp.2⟩ rfl hlen hl.1 rfl (lv_room (by rw [rx_cat_map]; exact h1)) hd hf
        · unfold wsV
          refine rx_good_app ha3 (fun w hw => ?_)
          simp only [List.mem_cons, List.not_mem_nil, or_false] at hw
          rcases hw with rfl | rfl | rfl | rfl
          · exact rx_w_in k7
          · exact (M5 k4).1
          · exact (M5 k4).2 k5
          · exact M3
        · rw [← hcls]; exact hrecv
      · exact h'.elim
  | invokestatic n =>
    have hi3 : (len == 3 && (!(Nat.blt a rx_NM) || (rx_room mi a && (rx_sta a && cond (b == 0) (rx_w w (.methodLink (rx_own mi) n (rx_y a))) (decide ((rx_own mi, n, rx_y a) ∈ rx_nest)))))) = true := hi2
    rw [Bool.and_eq_true, beq_iff_eq] at hi3
    obtain ⟨rfl, k3⟩ := hi3
    have h' : cond (Nat.ble 9000 a) (rx_stepX K out is L st X a) (cond (Nat.ble (rx_np a) st.length) (rx_call K out a ((st.take (rx_np a)).reverse) is L (st.drop (rx_np a)) X) False) := h
    cases ha : Nat.ble 9000 a with
    | true =>
      rw [ha] at h'
      exact hext ha h' p l e R s m args below meth c D tc ad H0 A Q H locs ls cx hc hP hD hS hl hr
    | false =>
      rw [ha] at h'
      dsimp only [cond_false] at h'
      obtain ⟨hln, h'⟩ := rx_cond_t h'
      have hln' : rx_np a ≤ st.length := Nat.le_of_ble_eq_true hln
      obtain ⟨h1, h2, h3, h4⟩ := rx_call_inv h'
      rw [show Nat.blt a rx_NM = true from Nat.ble_eq_true_of_le h2] at k3
      simp only [Bool.not_true, Bool.false_or, Bool.and_eq_true] at k3
      obtain ⟨k3, k4, k7⟩ := k3
      have ha3 : a < 263 := by
        have h2' : a < 264 := h2
        rcases (show a < 263 ∨ a = 263 by omega) with h | h
        · exact h
        · subst h; revert k3; cases hn9 : rx_room mi 263 with
          | false => intro z; cases z
          | true =>
            intro _
            unfold rx_room at hn9
            rw [Bool.and_eq_true] at hn9
            have := Nat.le_of_ble_eq_true hn9.1
            have h15 : rx_fr 263 = 15 := by decide +kernel
            have := rx_fr_le hm
            omega
      obtain ⟨M1, M2, M3, M4, M5⟩ := rx_M ha3
      have hst : st.map (rx_conc ad) = ((st.take (rx_np a)).reverse.map (rx_conc ad)).reverse ++ (st.drop (rx_np a)).map (rx_conc ad) := by
        rw [List.map_reverse, List.reverse_reverse, ← List.map_append, List.take_append_drop]
      have hlen : ((st.take (rx_np a)).reverse.map (rx_conc ad)).length = rx_np a := by
        rw [List.length_map, List.length_reverse, List.length_take]
        omega
      rw [hst]
      refine rx_call_W hK (fun L2 st2 X2 hk2 => hn.resolve_left (fun e => hK0 L2 st2 X2 (e ▸ hk2))) hs2 cx hc hP hD hS hl hr h3 h4 (fun r kc mc ms ini P σ Pc Qc free hM hp hf => ?_)
      cases hb0 : b == 0 with
      | true =>
        rw [hb0] at k7
        refine va_runS (Ts := rx_TS) ⟨hx, hb, hml, ho, hts⟩ hM (va_cwS (rx_np a) hts ?_ rfl rfl rfl M2 (rx_room_inv k3 hfl)) hp rfl hlen hl.1 rfl (lv_room (by rw [rx_cat_map]; exact h1)) hd hf
        unfold va_wsS
        refine rx_good_app ha3 (fun w hw => ?_)
        simp only [List.mem_cons, List.not_mem_nil, or_false] at hw
        rcases hw with rfl | rfl | rfl
        · exact rx_w_in k7
        · exact M4 k4
        · exact M3
      | false =>
        rw [hb0] at k7
        have k7' : (rx_own mi, n, rx_y a) ∈ rx_nest := of_decide_eq_true k7
        exact va_runSN (Ts := rx_TS) ⟨hx, hb, hml, ho, hts⟩ hM ⟨va_cnB (rx_np a) hts (rx_ws_good ha3) rfl rfl rfl (hnw _ k7') (hts _ M3) M2 (rx_room_inv k3 hfl), hts _ (M4 k4), trivial⟩ hp rfl hlen hl.1 rfl (lv_room (by rw [rx_cat_map]; exact h1)) hd hf
  | _ => exact h.elim
