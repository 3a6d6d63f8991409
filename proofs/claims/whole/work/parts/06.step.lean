theorem rx_oi1 : Cond.instanceMethod Lib.objectInit ∈ rx_TS := rx_w_in (i := 139) (by decide +kernel)
set_option maxRecDepth 100000 in
theorem rx_oi2 : Cond.code Lib.objectInit ⟨#[0xb1]⟩ 1 none ∈ rx_TS := List.mem_filter.mpr ⟨rx_in1 (List.mem_of_getElem? (i := 31) rfl), rfl⟩
theorem rx_off_eq {pc a : Nat} {off : Int} (h : rx_off pc off a = true) : (pc : Int) + off = (a : Int) := of_decide_eq_true h
/-- what is told elsewhere -/
def rx_spec (i : rx_I) : Bool := match i.2.1 with
  | .ldc _ | .ldc_w _ => !(i.2.2.2.1 == 0)
  | .invokevirtual _ | .invokestatic _ => Nat.ble 9000 i.2.2.2.1
  | _ => false
def rx_Ext (S : rx_S) (mi : Nat) : Prop := ∀ (K : rx_KT) (out : rx_O), (∀ is L st X, K is L st X → (∃ pre, rx_code mi = pre ++ is) → rx_At S mi is L st X out) → (∀ L st X, ¬ K [] L st X) →
  ∀ (i : rx_I) (is : List rx_I) (L : rx_L) (st : List Value) (X : rx_X), (∃ pre, rx_code mi = pre ++ i :: is) → rx_spec i = true → rx_stepX K out is L st X i.2.2.2.1 → rx_At S mi (i :: is) L st X out
theorem rx_Ext_plain {S : rx_S} {mi : Nat} (h : (rx_code mi).all (fun i => !rx_spec i) = true) : rx_Ext S mi := by
  intro K out _ _ i is L st X ⟨pre, hp⟩ hs
  have h1 := List.all_eq_true.mp h i (by rw [hp]; exact List.mem_append_right _ List.mem_cons_self)
  rw [hs] at h1
  cases h1
theorem rx_sw_in {x : Int32} {d : Prop} {K : Nat → Prop} {pc : Nat} : ∀ (offs : List Int) (lo : Nat) (sw : List (Int32 × Nat)), rx_swT pc lo offs sw = true → lo + offs.length < 2 ^ 31 → rx_sw x d K sw →
    (∃ (j : Nat) (off : Int) (t : Nat), offs[j]? = some off ∧ x = nI (lo + j) ∧ (pc : Int) + off = (t : Int) ∧ K t) ∨ ((∀ j, j < offs.length → x ≠ nI (lo + j)) ∧ d)
  | [], lo, [], _, _, h => Or.inr ⟨fun j hj => absurd hj (Nat.not_lt_zero _), h⟩
  | [], lo, q :: r, hc, _, _ => by cases hc
  | o :: os, lo, [], hc, _, _ => by cases hc
  | o :: os, lo, q :: r, hc, hl, h => by
    have hc' : (decide (nI lo = q.1) && (rx_off pc o q.2 && rx_swT pc (lo + 1) os r)) = true := hc
    simp only [Bool.and_eq_true, decide_eq_true_eq] at hc'
    obtain ⟨h1, h2, h3⟩ := hc'
    obtain ⟨ht, hf⟩ : (x = q.1 → K q.2) ∧ (¬ x = q.1 → rx_sw x d K r) := h
    by_cases hx : x = q.1
    · exact Or.inl ⟨0, o, q.2, rfl, by rw [hx, ← h1]; rfl, rx_off_eq h2, ht hx⟩
    · rcases rx_sw_in os (lo + 1) r h3 (by simp only [List.length_cons] at hl; omega) (hf hx) with ⟨j, off, t, a1, a2, a3, a4⟩ | ⟨a1, a2⟩
      · exact Or.inl ⟨j + 1, off, t, by simpa using a1, by rw [a2]; congr 1; omega, a3, a4⟩
      · refine Or.inr ⟨fun j hj => ?_, a2⟩
        cases j with
        | zero => rw [Nat.add_zero, h1]; exact hx
        | succ j => rw [show lo + (j + 1) = lo + 1 + j by omega]; exact a1 j (by simp only [List.length_cons] at hj; omega)
theorem rx_lk_in {x : Int32} {d : Prop} {K : Nat → Prop} {pc : Nat} (dflt : Int) : ∀ (ps : List (Int × Int)) (sw : List (Int32 × Nat)), rx_swL pc ps sw = true → rx_sw x d K sw →
    (∃ t : Nat, (pc : Int) + Op.lookupswitch.offset ps dflt x.toInt = (t : Int) ∧ K t) ∨ (Op.lookupswitch.offset ps dflt x.toInt = dflt ∧ d)
  | [], [], _, h => Or.inr ⟨rfl, h⟩
  | [], q :: r, hc, _ => by cases hc
  | o :: os, [], hc, _ => by cases hc
  | o :: os, q :: r, hc, h => by
    have hc' : (decide (0 ≤ o.1 ∧ o.1 < 10000 ∧ nI o.1.toNat = q.1) && (rx_off pc o.2 q.2 && rx_swL pc os r)) = true := hc
    simp only [Bool.and_eq_true, decide_eq_true_eq] at hc'
    obtain ⟨⟨k1, k2, k3⟩, h2, h3⟩ := hc'
    obtain ⟨ht, hf⟩ : (x = q.1 → K q.2) ∧ (¬ x = q.1 → rx_sw x d K r) := h
    have hq : q.1.toInt = o.1 := by rw [← k3, nI_toInt (by omega)]; omega
    by_cases hx : x = q.1
    · refine Or.inl ⟨q.2, ?_, ht hx⟩
      have : Op.lookupswitch.offset (o :: os) dflt x.toInt = o.2 := by
        rw [hx, hq]; simp [Op.lookupswitch.offset]
      rw [this]; exact rx_off_eq h2
    · have hne : ¬ o.1 = x.toInt := fun e => hx (Int32.toInt_inj.mp (by rw [hq, e]))
      have : Op.lookupswitch.offset (o :: os) dflt x.toInt = Op.lookupswitch.offset os dflt x.toInt := by
        simp [Op.lookupswitch.offset, hne]
      rw [this]
      exact rx_lk_in dflt os r h3 (hf hx)
theorem rx_K_set {tc : Nat → ClassId} {t : Nat} {ty : FieldType} {D : va_G} {s : State} {cA : ClassId} (hK : va_K D rx_cl (rx_tys tc ++ [(cA, ty)]) s) (ht : (rx_tys tc)[t]? = some (tc (t + 1), ty)) (hn : ∀ C, ty ≠ .object C) : cA = tc (t + 1) := by
  have h1 := (hK.2 4 (cA, ty) rfl).2
  have h2 := (hK.2 t (tc (t + 1), ty) (by rw [List.getElem?_append_left (List.getElem?_eq_some_iff.mp ht).1]; exact ht)).2
  cases ty with
  | object C => exact absurd rfl (hn C)
  | _ =>
    have h1' : s.vm.findClass _ = some cA := h1
    have h2' : s.vm.findClass _ = some (tc (t + 1)) := h2
    exact Option.some.inj (h1'.symm.trans h2')

set_option maxHeartbeats 8000000 in
set_option maxRecDepth 100000 in
theorem rx_step_at {S : rx_S} {K : rx_KT} {mi : Nat} (hm : mi < 264) (hE : rx_Ext S mi) {out : rx_O} {is0 : List rx_I} {L : rx_L} {st : List Value} {X : rx_X}
    (hK : ∀ is L st X, K is L st X → (∃ pre, rx_code mi = pre ++ is) → rx_At S mi is L st X out) (hK0 : ∀ L st X, ¬ K [] L st X) (hNC : X.1 ≤ rx_NC)
    (h : rx_step S K mi out is0 L st X) (hs : ∃ pre, rx_code mi = pre ++ is0) : rx_At S mi is0 L st X out := by
  obtain ⟨pre, hpre⟩ := hs
  cases is0 with
  | nil => exact h.elim
  | cons i is =>
  obtain ⟨pc, ins, len, a, b, x, y, sw, w⟩ := i
  have hmem : (pc, ins, len, a, b, x, y, sw, w) ∈ rx_code mi := by rw [hpre]; exact List.mem_append_right _ List.mem_cons_self
  have hi := (rx_okI hm).2 _ hmem
  have hn : is = [] ∨ rx_pc is = pc + len := rx_chain_next (i := (pc, ins, len, a, b, x, y, sw, w)) (rx_chain_app (a := pre) (by rw [← hpre]; exact (rx_okI hm).1))
  have hs2 : ∃ pre, rx_code mi = pre ++ is := ⟨pre ++ [(pc, ins, len, a, b, x, y, sw, w)], by rw [hpre, List.append_assoc]; rfl⟩
  have hext := hE K out hK hK0 (pc, ins, len, a, b, x, y, sw, w) is L st X ⟨pre, hpre⟩
  intro p l e R s m args below meth c D tc ad H0 A Q H locs ls cx hc hP hD hS hl hr
  obtain ⟨hx, hb, hml, ho, hts, hnw, hk, hfl, hA, hin, hsc⟩ := id cx
  have hi1 := (Bool.and_eq_true_iff.mp hi).1
  have hd : decode (rx_b mi) pc = .ok (ins, len) := of_decide_eq_true hi1
  have hi2 := (Bool.and_eq_true_iff.mp hi).2
  clear hi hi1
  have go : ∀ (L' : rx_L) (st' : List Value) (ls' : Array Slot), K is L' st' X → lv_has ls' (rx_ml mi) (rx_lc ad L') → W p l e R s m args below meth c H locs X.2.1 X.2.2.1 Q (F0 m (pc + len) ls' (st'.map (rx_conc ad))) := by
    intro L' st' ls' hk' hl'
    rw [← hn.resolve_left (fun e => hK0 L' st' X (e ▸ hk'))]
    exact hK is L' st' X hk' hs2 p l e R s m args below meth c D tc ad H0 A Q H locs ls' cx hc hP hD hS hl' hr
  have goX : ∀ (L' : rx_L) (st' : List Value) (X' : rx_X) (H' : Heap) (locs' : List Loc), K is L' st' X' → X'.1 = X.1 → X'.2.1 = X.2.1 → X'.2.2.1 = X.2.2.1 → va_P D rx_cl (rx_W tc ad X') H' → va_D A (rx_W tc ad X') → va_S A H0 H' locs' → lv_has ls (rx_ml mi) (rx_lc ad L') → W p l e R s m args below meth c H' locs' X.2.1 X.2.2.1 Q (F0 m (pc + len) ls (st'.map (rx_conc ad))) := by
    intro L' st' X' H' locs' hk' e1 e2 e3 hP' hD' hS' hl'
    rw [← hn.resolve_left (fun e => hK0 L' st' X' (e ▸ hk')), ← e2, ← e3]
    exact hK is L' st' X' hk' hs2 p l e R s m args below meth c D tc ad H0 A Q H' locs' ls cx hc hP' hD' hS' hl' (by rw [e1]; exact hr)
  have goJ : ∀ (t : Nat) (st' : List Value), K (rx_jump mi t) L st' X → W p l e R s m args below meth c H locs X.2.1 X.2.2.1 Q (F0 m t ls (st'.map (rx_conc ad))) := by
    intro t st' hk'
    have := hK (rx_jump mi t) L st' X hk' (rx_jump_in mi t) p l e R s m args below meth c D tc ad H0 A Q H locs ls cx hc hP hD hS hl hr
    rw [(rx_jump_at mi t).resolve_left (fun e => hK0 L st' X (e ▸ hk'))] at this
    exact this
  show W p l e R s m args below meth c H locs X.2.1 X.2.2.1 Q (F0 m pc ls (st.map (rx_conc ad)))
  cases ins with
  | iconst n =>
    have hi3 : (len == 1 && decide (Int32.ofInt n = x)) = true := hi2
    simp only [Bool.and_eq_true, beq_iff_eq, decide_eq_true_eq] at hi3
    obtain ⟨rfl, hv⟩ := hi3
    exact lv_iconst hx hb hd hv (go L (.int x :: st) ls h hl)
  | bipush n =>
    have hi3 : (len == 2 && decide ((Int8.ofInt n).toInt32 = x)) = true := hi2
    simp only [Bool.and_eq_true, beq_iff_eq, decide_eq_true_eq] at hi3
    obtain ⟨rfl, hv⟩ := hi3
    exact lv_bipush hx hb hd hv (go L (.int x :: st) ls h hl)
  | sipush n =>
    have hi3 : (len == 3 && decide ((Int16.ofInt n).toInt32 = x)) = true := hi2
    simp only [Bool.and_eq_true, beq_iff_eq, decide_eq_true_eq] at hi3
    obtain ⟨rfl, hv⟩ := hi3
    exact lv_sipush hx hb hd hv (go L (.int x :: st) ls h hl)
  | ldc n =>
    have hi3 : (len == 2 && (!(a == 0) || rx_w w (.constant (rx_own mi) n x))) = true := hi2
    rw [Bool.and_eq_true, beq_iff_eq] at hi3
    obtain ⟨rfl, hv⟩ := hi3
    have h' : cond (a == 0) (K is L (.int x :: st) X) (rx_stepX K out is L st X a) := h
    cases ha : a == 0 with
    | false =>
      rw [ha] at h'
      exact hext (by show (!(a == 0)) = true; rw [ha]; rfl) h' p l e R s m args below meth c D tc ad H0 A Q H locs ls cx hc hP hD hS hl hr
    | true =>
      rw [ha] at h' hv
      exact lv_ldc hx hb ho (hts _ (rx_w_in hv)) hd (go L (.int x :: st) ls h' hl)
  | ldc_w n =>
    have hi3 : (len == 3 && (!(a == 0) || rx_w w (.constant (rx_own mi) n x))) = true := hi2
    rw [Bool.and_eq_true, beq_iff_eq] at hi3
    obtain ⟨rfl, hv⟩ := hi3
    have h' : cond (a == 0) (K is L (.int x :: st) X) (rx_stepX K out is L st X a) := h
    cases ha : a == 0 with
    | false =>
      rw [ha] at h'
      exact hext (by show (!(a == 0)) = true; rw [ha]; rfl) h' p l e R s m args below meth c D tc ad H0 A Q H locs ls cx hc hP hD hS hl hr
    | true =>
      rw [ha] at h' hv
      exact lv_ldcw hx hb ho (hts _ (rx_w_in hv)) hd (go L (.int x :: st) ls h' hl)
  | lconst n =>
    have hi3 : (len == 1 && decide (Int64.ofNat (n : Nat) = y)) = true := hi2
    simp only [Bool.and_eq_true, beq_iff_eq, decide_eq_true_eq] at hi3
    obtain ⟨rfl, hv⟩ := hi3
    exact lv_lconst hx hb hd hv (go L (.long y :: st) ls h hl)
  | ldc2_w n =>
    have hi3 : (len == 3 && rx_w w (.constantLong (rx_own mi) n y)) = true := hi2
    rw [Bool.and_eq_true, beq_iff_eq] at hi3
    obtain ⟨rfl, hv⟩ := hi3
    exact lv_ldc2 hx hb ho (hts _ (rx_w_in hv)) hd (go L (.long y :: st) ls h hl)
  | iload_n n =>
    have hi3 : (len == 1 && (n : Nat) == b) = true := hi2
    simp only [Bool.and_eq_true, beq_iff_eq] at hi3
    obtain ⟨rfl, hv⟩ := hi3
    obtain ⟨v, h1, h2, h3⟩ := rx_ld_inv h
    obtain ⟨u, rfl⟩ := rx_isI_inv h2
    exact lv_iload_n hx hb hd hv (hl.2.2 _ (rx_lc_in h1)) (go L (.int u :: st) ls h3 hl)
  | iload n =>
    have hi3 : (len == 2 && n == b) = true := hi2
    simp only [Bool.and_eq_true, beq_iff_eq] at hi3
    obtain ⟨rfl, rfl⟩ := hi3
    obtain ⟨v, h1, h2, h3⟩ := rx_ld_inv h
    obtain ⟨u, rfl⟩ := rx_isI_inv h2
    exact lv_iload hx hb hd (hl.2.2 _ (rx_lc_in h1)) (go L (.int u :: st) ls h3 hl)
  | lload_n n =>
    have hi3 : (len == 1 && (n : Nat) == b) = true := hi2
    simp only [Bool.and_eq_true, beq_iff_eq] at hi3
    obtain ⟨rfl, hv⟩ := hi3
    obtain ⟨v, h1, h2, h3⟩ := rx_ld_inv h
    obtain ⟨u, rfl⟩ := rx_isL_inv h2
    exact lv_lload_n hx hb hd hv (hl.2.2 _ (rx_lc_in h1)) (go L (.long u :: st) ls h3 hl)
  | lload n =>
    have hi3 : (len == 2 && n == b) = true := hi2
    simp only [Bool.and_eq_true, beq_iff_eq] at hi3
    obtain ⟨rfl, rfl⟩ := hi3
    obtain ⟨v, h1, h2, h3⟩ := rx_ld_inv h
    obtain ⟨u, rfl⟩ := rx_isL_inv h2
    exact lv_lload hx hb hd (hl.2.2 _ (rx_lc_in h1)) (go L (.long u :: st) ls h3 hl)
  | aload_n n =>
    have hi3 : (len == 1 && (n : Nat) == b) = true := hi2
    simp only [Bool.and_eq_true, beq_iff_eq] at hi3
    obtain ⟨rfl, hv⟩ := hi3
    obtain ⟨v, h1, h2, h3⟩ := rx_ld_inv h
    obtain ⟨u, rfl⟩ := rx_isA_inv h2
    exact lv_aload_n hx hb hd hv (hl.2.2 _ (rx_lc_in h1)) (go L (.ref u :: st) ls h3 hl)
  | aload n =>
    have hi3 : (len == 2 && n == b) = true := hi2
    simp only [Bool.and_eq_true, beq_iff_eq] at hi3
    obtain ⟨rfl, rfl⟩ := hi3
    obtain ⟨v, h1, h2, h3⟩ := rx_ld_inv h
    obtain ⟨u, rfl⟩ := rx_isA_inv h2
    exact lv_aload hx hb hd (hl.2.2 _ (rx_lc_in h1)) (go L (.ref u :: st) ls h3 hl)
  | istore_n n =>
    have hi3 : (len == 1 && ((n : Nat) == b && Nat.blt b (rx_ml mi))) = true := hi2
    simp only [Bool.and_eq_true, beq_iff_eq] at hi3
    obtain ⟨rfl, hv, hb2⟩ := hi3
    obtain ⟨v, st', rfl, h2, h3⟩ := rx_st1_inv h
    obtain ⟨u, rfl⟩ := rx_isI_inv h2
    exact lv_istore_n hx hb hd hv hl (Nat.le_of_ble_eq_true hb2) (rx_s1_map ad L b (.int u)) (fun ls' hl' => go _ st' ls' h3 hl')
  | istore n =>
    have hi3 : (len == 2 && (n == b && Nat.blt b (rx_ml mi))) = true := hi2
    simp only [Bool.and_eq_true, beq_iff_eq] at hi3
    obtain ⟨rfl, rfl, hb2⟩ := hi3
    obtain ⟨v, st', rfl, h2, h3⟩ := rx_st1_inv h
    obtain ⟨u, rfl⟩ := rx_isI_inv h2
    exact lv_istore hx hb hd hl (Nat.le_of_ble_eq_true hb2) (rx_s1_map ad L n (.int u)) (fun ls' hl' => go _ st' ls' h3 hl')
  | astore_n n =>
    have hi3 : (len == 1 && ((n : Nat) == b && Nat.blt b (rx_ml mi))) = true := hi2
    simp only [Bool.and_eq_true, beq_iff_eq] at hi3
    obtain ⟨rfl, hv, hb2⟩ := hi3
    obtain ⟨v, st', rfl, h2, h3⟩ := rx_st1_inv h
    obtain ⟨u, rfl⟩ := rx_isA_inv h2
    exact lv_astore_n hx hb hd hv hl (Nat.le_of_ble_eq_true hb2) (rx_s1_map ad L b (.ref u)) (fun ls' hl' => go _ st' ls' h3 hl')
  | astore n =>
    have hi3 : (len == 2 && (n == b && Nat.blt b (rx_ml mi))) = true := hi2
    simp only [Bool.and_eq_true, beq_iff_eq] at hi3
    obtain ⟨rfl, rfl, hb2⟩ := hi3
    obtain ⟨v, st', rfl, h2, h3⟩ := rx_st1_inv h
    obtain ⟨u, rfl⟩ := rx_isA_inv h2
    exact lv_astore hx hb hd hl (Nat.le_of_ble_eq_true hb2) (rx_s1_map ad L n (.ref u)) (fun ls' hl' => go _ st' ls' h3 hl')
  | lstore_n n =>
    have hi3 : (len == 1 && ((n : Nat) == b && Nat.blt (b + 1) (rx_ml mi))) = true := hi2
    simp only [Bool.and_eq_true, beq_iff_eq] at hi3
    obtain ⟨rfl, hv, hb2⟩ := hi3
    obtain ⟨u, st', rfl, h3⟩ := rx_st2_inv h
    exact lv_lstore_n hx hb hd hv hl (Nat.le_of_ble_eq_true hb2) (rx_s2_map ad L b (.long u)) (fun ls' hl' => go _ st' ls' h3 hl')
  | lstore n =>
    have hi3 : (len == 2 && (n == b && Nat.blt (b + 1) (rx_ml mi))) = true := hi2
    simp only [Bool.and_eq_true, beq_iff_eq] at hi3
    obtain ⟨rfl, rfl, hb2⟩ := hi3
    obtain ⟨u, st', rfl, h3⟩ := rx_st2_inv h
    exact lv_lstore hx hb hd hl (Nat.le_of_ble_eq_true hb2) (rx_s2_map ad L n (.long u)) (fun ls' hl' => go _ st' ls' h3 hl')
  | iinc k n =>
    have hi3 : (len == 3 && (k == b && (Nat.blt b (rx_ml mi) && decide (Int32.ofInt n = x)))) = true := hi2
    simp only [Bool.and_eq_true, beq_iff_eq, decide_eq_true_eq] at hi3
    obtain ⟨rfl, rfl, hb2, hv⟩ := hi3
    have h' : (match (generalizing := false) rx_look L k with
      | some (.int v) => K is (rx_s1 L k (.int (v + x))) st X
      | _ => False) := h
    split at h'
    · rename_i v hlk
      obtain ⟨j, hj⟩ := List.getElem?_of_mem (rx_lc_in (ad := ad) hlk)
      exact lv_iinc hx hb hd hl hj (by rw [hv]) (Nat.le_of_ble_eq_true hb2) (rx_s1_map ad L k (.int (v + x))) (fun ls' hl' => go _ st ls' h' hl')
    · exact h'.elim
  | iadd =>
    obtain rfl : len = 1 := by simpa using (show (len == 1) = true from hi2)
    obtain ⟨u, v, st', rfl, h1⟩ := rx_bin_inv h
    exact lv_iadd hx hb hd (go L _ ls h1 hl)
  | isub =>
    obtain rfl : len = 1 := by simpa using (show (len == 1) = true from hi2)
    obtain ⟨u, v, st', rfl, h1⟩ := rx_bin_inv h
    exact lv_isub hx hb hd (go L _ ls h1 hl)
  | imul =>
    obtain rfl : len = 1 := by simpa using (show (len == 1) = true from hi2)
    obtain ⟨u, v, st', rfl, h1⟩ := rx_bin_inv h
    exact lv_imul hx hb hd (go L _ ls h1 hl)
  | iand =>
    obtain rfl : len = 1 := by simpa using (show (len == 1) = true from hi2)
    obtain ⟨u, v, st', rfl, h1⟩ := rx_bin_inv h
    exact lv_iand hx hb hd (go L _ ls h1 hl)
  | ior =>
    obtain rfl : len = 1 := by simpa using (show (len == 1) = true from hi2)
    obtain ⟨u, v, st', rfl, h1⟩ := rx_bin_inv h
    exact lv_ior hx hb hd (go L _ ls h1 hl)
  | ixor =>
    obtain rfl : len = 1 := by simpa using (show (len == 1) = true from hi2)
    obtain ⟨u, v, st', rfl, h1⟩ := rx_bin_inv h
    exact lv_ixor hx hb hd (go L _ ls h1 hl)
  | ishl =>
    obtain rfl : len = 1 := by simpa using (show (len == 1) = true from hi2)
    obtain ⟨u, v, st', rfl, h1⟩ := rx_bin_inv h
    exact lv_ishl hx hb hd (go L _ ls h1 hl)
  | ishr =>
    obtain rfl : len = 1 := by simpa using (show (len == 1) = true from hi2)
    obtain ⟨u, v, st', rfl, h1⟩ := rx_bin_inv h
    exact lv_ishr hx hb hd (go L _ ls h1 hl)
  | iushr =>
    obtain rfl : len = 1 := by simpa using (show (len == 1) = true from hi2)
    obtain ⟨u, v, st', rfl, h1⟩ := rx_bin_inv h
    exact lv_iushr hx hb hd rfl (go L _ ls h1 hl)
  | idiv =>
    obtain rfl : len = 1 := by simpa using (show (len == 1) = true from hi2)
    obtain ⟨u, v, st', rfl, h0, h1⟩ := rx_div_inv h
    exact lv_idiv hx hb hd h0 (go L _ ls h1 hl)
  | irem =>
    obtain rfl : len = 1 := by simpa using (show (len == 1) = true from hi2)
    obtain ⟨u, v, st', rfl, h0, h1⟩ := rx_div_inv h
    exact lv_irem hx hb hd h0 (go L _ ls h1 hl)
  | ladd =>
    obtain rfl : len = 1 := by simpa using (show (len == 1) = true from hi2)
    obtain ⟨u, v, st', rfl, h1⟩ := rx_binl_inv h
    exact lv_ladd hx hb hd (go L _ ls h1 hl)
  | lsub =>
    obtain rfl : len = 1 := by simpa using (show (len == 1) = true from hi2)
    obtain ⟨u, v, st', rfl, h1⟩ := rx_binl_inv h
    exact lv_lsub hx hb hd (go L _ ls h1 hl)
  | lmul =>
    obtain rfl : len = 1 := by simpa using (show (len == 1) = true from hi2)
    obtain ⟨u, v, st', rfl, h1⟩ := rx_binl_inv h
    exact lv_lmul hx hb hd (go L _ ls h1 hl)
  | lrem =>
    obtain rfl : len = 1 := by simpa using (show (len == 1) = true from hi2)
    have h' : (match (generalizing := false) st with
      | .long y :: .long x :: st => rx_ck (¬ y = 0) (K is L (.long (x - x / y * y) :: st) X)
      | _ => False) := h
    split at h'
    · exact lv_lrem hx hb hd h'.1 (go L _ ls h'.2 hl)
    · exact h'.elim
  | lshl =>
    obtain rfl : len = 1 := by simpa using (show (len == 1) = true from hi2)
    have h' : (match (generalizing := false) st with
      | .int y :: .long x :: st => K is L (.long (x <<< (y.toInt64 &&& 63)) :: st) X
      | _ => False) := h
    split at h'
    · exact lv_lshl hx hb hd rfl (go L _ ls h' hl)
    · exact h'.elim
  | lcmp =>
    obtain rfl : len = 1 := by simpa using (show (len == 1) = true from hi2)
    have h' : (match (generalizing := false) st with
      | .long y :: .long x :: st => K is L (.int (lg_cmp x y) :: st) X
      | _ => False) := h
    split at h'
    · exact W.lcmp hx hb hd (go L _ ls h' hl)
    · exact h'.elim
  | ineg =>
    obtain rfl : len = 1 := by simpa using (show (len == 1) = true from hi2)
    have h' : (match (generalizing := false) st with
      | .int x :: st => K is L (.int (-x) :: st) X
      | _ => False) := h
    split at h'
    · exact lv_ineg hx hb hd (go L _ ls h' hl)
    · exact h'.elim
  | i2l =>
    obtain rfl : len = 1 := by simpa using (show (len == 1) = true from hi2)
    have h' : (match (generalizing := false) st with
      | .int x :: st => K is L (.long x.toInt64 :: st) X
      | _ => False) := h
    split at h'
    · exact lv_i2l hx hb hd rfl (go L _ ls h' hl)
    · exact h'.elim
  | l2i =>
    obtain rfl : len = 1 := by simpa using (show (len == 1) = true from hi2)
    have h' : (match (generalizing := false) st with
      | .long x :: st => K is L (.int x.toInt32 :: st) X
      | _ => False) := h
    split at h'
    · exact lv_l2i hx hb hd rfl (go L _ ls h' hl)
    · exact h'.elim
  | i2b =>
    obtain rfl : len = 1 := by simpa using (show (len == 1) = true from hi2)
    have h' : (match (generalizing := false) st with
      | .int x :: st => K is L (.int x.toInt8.toInt32 :: st) X
      | _ => False) := h
    split at h'
    · exact lv_i2b hx hb hd rfl (go L _ ls h' hl)
    · exact h'.elim
  | dup =>
    obtain rfl : len = 1 := by simpa using (show (len == 1) = true from hi2)
    have h' : (match (generalizing := false) st with
      | v :: st => cond (v.category == 1) (K is L (v :: v :: st) X) False
      | _ => False) := h
    split at h'
    · rename_i v st'
      obtain ⟨h1, h2⟩ := rx_cond_t h'
      exact lv_dup hx hb hd (by rw [rx_conc_cat]; simpa using h1) (go L (v :: v :: st') ls h2 hl)
    · exact h'.elim
  | dup2 =>
    obtain rfl : len = 1 := by simpa using (show (len == 1) = true from hi2)
    have h' : (match (generalizing := false) st with
      | v :: w :: st => cond (v.category == 1 && w.category == 1) (K is L (v :: w :: v :: w :: st) X) False
      | _ => False) := h
    split at h'
    · rename_i v w' st'
      obtain ⟨h1, h2⟩ := rx_cond_t h'
      simp only [Bool.and_eq_true, beq_iff_eq] at h1
      exact lv_dup2_11 hx hb hd (by rw [rx_conc_cat]; exact h1.1) (by rw [rx_conc_cat]; exact h1.2) (go L (v :: w' :: v :: w' :: st') ls h2 hl)
    · exact h'.elim
  | pop =>
    obtain rfl : len = 1 := by simpa using (show (len == 1) = true from hi2)
    have h' : (match (generalizing := false) st with
      | v :: st => cond (v.category == 1) (K is L st X) False
      | _ => False) := h
    split at h'
    · rename_i v st'
      obtain ⟨h1, h2⟩ := rx_cond_t h'
      exact lv_pop hx hb hd (by rw [rx_conc_cat]; simpa using h1) (go L st' ls h2 hl)
    · exact h'.elim
  | goto off =>
    have hi3 : (len == 3 && rx_off pc off a) = true := hi2
    simp only [Bool.and_eq_true, beq_iff_eq] at hi3
    obtain ⟨rfl, hv⟩ := hi3
    exact lv_goto hx hb hd (rx_off_eq hv) (goJ a st h)
  | if_icmp cc off =>
    have hi3 : (len == 3 && rx_off pc off a) = true := hi2
    simp only [Bool.and_eq_true, beq_iff_eq] at hi3
    obtain ⟨rfl, hv⟩ := hi3
    have h' : (match (generalizing := false) st with
      | .int y :: .int x :: st => rx_brc cc x y (K (rx_jump mi a) L st X) (K is L st X)
      | _ => False) := h
    split at h'
    · rename_i st0 v u st'
      cases cc with
      | eq => exact lv_icmp_eq hx hb hd (rx_off_eq hv) (fun q => goJ a st' (h'.1 q)) (fun q => go L st' ls (h'.2 q) hl)
      | ne => exact lv_icmp_ne hx hb hd (rx_off_eq hv) (fun q => goJ a st' (h'.2 q)) (fun q => go L st' ls (h'.1 q) hl)
      | lt => exact lv_icmp_lt hx hb hd (rx_off_eq hv) (fun q => goJ a st' (h'.1 q)) (fun q => go L st' ls (h'.2 q) hl)
      | ge => exact lv_icmp_ge hx hb hd (rx_off_eq hv) (fun q => goJ a st' (h'.1 q)) (fun q => go L st' ls (h'.2 q) hl)
      | gt => exact lv_icmp_gt hx hb hd (rx_off_eq hv) (fun q => goJ a st' (h'.1 q)) (fun q => go L st' ls (h'.2 q) hl)
      | le => exact lv_icmp_le hx hb hd (rx_off_eq hv) (fun q => goJ a st' (h'.1 q)) (fun q => go L st' ls (h'.2 q) hl)
    · exact h'.elim
  | ifCond cc off =>
    have hi3 : (len == 3 && rx_off pc off a) = true := hi2
    simp only [Bool.and_eq_true, beq_iff_eq] at hi3
    obtain ⟨rfl, hv⟩ := hi3
    have h' : (match (generalizing := false) st with
      | .int x :: st => rx_brc cc x 0 (K (rx_jump mi a) L st X) (K is L st X)
      | _ => False) := h
    split at h'
    · rename_i st0 u st'
      cases cc with
      | eq => exact lv_if_eq hx hb hd (rx_off_eq hv) (fun q => goJ a st' (h'.1 q)) (fun q => go L st' ls (h'.2 q) hl)
      | ne => exact lv_if_ne hx hb hd (rx_off_eq hv) (fun q => goJ a st' (h'.2 q)) (fun q => go L st' ls (h'.1 q) hl)
      | lt => exact lv_if_lt hx hb hd (rx_off_eq hv) (fun q => goJ a st' (h'.1 q)) (fun q => go L st' ls (h'.2 q) hl)
      | ge => exact lv_if_ge hx hb hd (rx_off_eq hv) (fun q => goJ a st' (h'.1 q)) (fun q => go L st' ls (h'.2 q) hl)
      | gt => exact lv_if_gt hx hb hd (rx_off_eq hv) (fun q => goJ a st' (h'.1 q)) (fun q => go L st' ls (h'.2 q) hl)
      | le => exact lv_if_le hx hb hd (rx_off_eq hv) (fun q => goJ a st' (h'.1 q)) (fun q => go L st' ls (h'.2 q) hl)
    · exact h'.elim
  | tableswitch d lo hi offs =>
    have hi3 : (decide (0 ≤ lo ∧ hi < 10000 ∧ (offs.size : Int) = hi - lo + 1) && (rx_off pc d a && rx_swT pc lo.toNat offs.toList sw)) = true := hi2
    simp only [Bool.and_eq_true, decide_eq_true_eq] at hi3
    obtain ⟨⟨k1, k2, k3⟩, hv, hsw⟩ := hi3
    have h' : (match (generalizing := false) st with
      | .int x :: st => rx_sw x (K (rx_jump mi a) L st X) (fun t => K (rx_jump mi t) L st X) sw
      | _ => False) := h
    split at h'
    · rename_i st0 u st'
      have hlen : offs.toList.length = offs.size := Array.length_toList
      rcases rx_sw_in offs.toList lo.toNat sw hsw (by rw [hlen]; omega) h' with ⟨j, off, t, a1, a2, a3, a4⟩ | ⟨a1, a2⟩
      · have hj : j < offs.size := by rw [← hlen]; exact (List.getElem?_eq_some_iff.mp a1).1
        have hu : u.toInt = lo + j := by rw [a2, nI_toInt (by omega)]; omega
        refine lv_tableIn hx hb hd (by omega) (by omega) (off := off) ?_ a3 (goJ t st' a4)
        rw [show (u.toInt - lo).toNat = j by omega, ← Array.getElem?_toList]
        exact a1
      · refine lv_tableOut hx hb hd ?_ (rx_off_eq hv) (goJ a st' a2)
        by_cases q1 : u.toInt < lo
        · exact Or.inl q1
        · by_cases q2 : hi < u.toInt
          · exact Or.inr q2
          · refine absurd ?_ (a1 (u.toInt - lo).toNat (by rw [hlen]; omega))
            apply Int32.toInt_inj.mp
            rw [nI_toInt (by omega)]
            omega
    · exact h'.elim
  | lookupswitch d ps =>
    have hi3 : ((ps.toList.zip (ps.toList.drop 1)).all (fun (a, next) => a.1 < next.1) && (rx_off pc d a && rx_swL pc ps.toList sw)) = true := hi2
    rw [Bool.and_eq_true, Bool.and_eq_true] at hi3
    obtain ⟨k1, hv, hsw⟩ := hi3
    have h' : (match (generalizing := false) st with
      | .int x :: st => rx_sw x (K (rx_jump mi a) L st X) (fun t => K (rx_jump mi t) L st X) sw
      | _ => False) := h
    split at h'
    · rename_i st0 u st'
      rcases rx_lk_in d ps.toList sw hsw h' with ⟨t, a1, a2⟩ | ⟨a1, a2⟩
      · exact lv_lookup hx hb hd k1 rfl a1 (goJ t st' a2)
      · exact lv_lookup hx hb hd k1 a1 (rx_off_eq hv) (goJ a st' a2)
    · exact h'.elim
  | getfield n =>
    have hi3 : (len == 3 && (Nat.blt a 13 && (Nat.blt b (rx_N a) && rx_w w (.fieldLink (rx_own mi) n (rx_T a b).1 (rx_T a b).2.1 (rx_T a b).2.2.1)))) = true := hi2
    rw [Bool.and_eq_true, Bool.and_eq_true, Bool.and_eq_true, beq_iff_eq] at hi3
    obtain ⟨rfl, k1, k2, k3⟩ := hi3
    have k1' : a < 13 := Nat.le_of_ble_eq_true k1
    have k2' : b < rx_N a := Nat.le_of_ble_eq_true k2
    have h' : (match (generalizing := false) st with
      | .ref k :: st => match (generalizing := false) rx_slot X k a b with
        | some v => K is L (v :: st) X
        | none => False
      | _ => False) := h
    split at h'
    · rename_i st0 k st'
      split at h'
      · rename_i v hv
        obtain ⟨hk2, fs, e1, e2⟩ := rx_slot_spec (tc := tc) (ad := ad) hv
        exact va_get (fs := fs) hx hb hts (rx_C k1').1 ho hk hP k (by rw [rx_W_get tc ad X hk2, e1]) (rx_cl_get k1') b k2' (hts _ (rx_w_in k3)) (fun _ h9 => h9) e2 hd (go L (v :: st') ls h' hl)
      · exact h'.elim
    · exact h'.elim
  | putfield n =>
    have hi3 : (len == 3 && (Nat.blt a 13 && (Nat.blt b (rx_N a) && (rx_w w (.fieldLink (rx_own mi) n (rx_T a b).1 (rx_T a b).2.1 (rx_T a b).2.2.1) && (!(rx_T a b).2.2.2 || decide ((rx_y mi).name = "<init>" ∧ (rx_T a b).1 = rx_own mi)))))) = true := hi2
    rw [Bool.and_eq_true, Bool.and_eq_true, Bool.and_eq_true, Bool.and_eq_true, beq_iff_eq] at hi3
    obtain ⟨rfl, k1, k2, k3, k4⟩ := hi3
    have k1' : a < 13 := Nat.le_of_ble_eq_true k1
    have k2' : b < rx_N a := Nat.le_of_ble_eq_true k2
    have h' : (match (generalizing := false) st with
      | v :: .ref k :: st => rx_put X k a b v (fun X => K is L st X)
      | _ => False) := h
    split at h'
    · rename_i st0 v k st'
      obtain ⟨X', fs, q1, q2, q3, q4, q5, q6, q7, q8, q9, q10, q11⟩ := rx_put_inv tc ad hNC h'
      have he := rx_W_get tc ad X q2
      rw [q6] at he
      have hset : (rx_W tc ad X).set k (ad k, .inr (a, fs.set b (rx_conc ad v))) = rx_W tc ad X' := rx_W_set q3 q2 q8 q9
      cases hf : (rx_T a b).2.2.2 with
      | false =>
        refine va_put hx hb hts (rx_C k1').1 (rx_ty a) (rx_C k1').2.1 (rx_C k1').2.2.1 ho hk hP hD hS k he (rx_cl_get k1') b k2' (hts _ (rx_w_in k3)) (fun _ h9 => h9) hf ((rx_C k1').2.1 b k2') q10 q11 q7 hd (fun H1 locs1 hP1 hD1 hS1 => ?_)
        rw [hset] at hP1 hD1
        exact goX L st' X' H1 locs1 q1 q3 q4 q5 hP1 hD1 hS1 hl
      | true =>
        rw [hf] at k4
        have k5 : (rx_y mi).name = "<init>" ∧ (rx_T a b).1 = rx_own mi := of_decide_eq_true k4
        refine va_putF hx hb hts (rx_C k1').1 (rx_ty a) (rx_C k1').2.1 (rx_C k1').2.2.1 ho hk hP hD hS k he (rx_cl_get k1') b k2' (hts _ (rx_w_in k3)) (fun _ h9 => h9) hf (hin k5.1) k5.2 ((rx_C k1').2.1 b k2') q10 q11 q7 hd (fun H1 locs1 hP1 hD1 hS1 => ?_)
        rw [hset] at hP1 hD1
        exact goX L st' X' H1 locs1 q1 q3 q4 q5 hP1 hD1 hS1 hl
    · exact h'.elim
  | iaload =>
    obtain rfl : len = 1 := by simpa using (show (len == 1) = true from hi2)
    have h' : (match (generalizing := false) st with
      | .int i :: .ref k :: st => cond (k == 9999) (match (generalizing := false) S with
          | some q => rx_ck (vp_in i q.1) (K is L (.int (q.2 i.toNatClampNeg) :: st) X)
          | none => False) (match (generalizing := false) rx_arr X k with
              | some (1, n) => rx_ck (vp_in i n) (K is L (.int (X.2.2.2.2.2.1 k i.toNatClampNeg) :: st) X)
              | _ => False)
      | _ => False) := h
    split at h'
    · rename_i st0 i k st'
      cases hk9 : k == 9999 with
      | true =>
        rw [hk9] at h'
        have hk9' : k = 9999 := by simpa using hk9
        subst hk9'
        cases S with
        | none => exact h'.elim
        | some q => exact va_sld hx hb hsc.1 hsc.2.1 hsc.2.2 hS h'.1 hd (go L _ ls h'.2 hl)
      | false =>
        rw [hk9] at h'
        dsimp only [cond_false] at h'
        split at h'
        · rename_i n hn2
          obtain ⟨z1, z2, -, -⟩ := rx_arr_spec (tc := tc) (ad := ad) hn2
          exact va_iald hx hb hk hP k 0 (by rw [rx_W_get tc ad X z1, z2]; rfl) rfl h'.1 hd (go L _ ls h'.2 hl)
        · exact h'.elim
    · exact h'.elim
  | baload =>
    obtain rfl : len = 1 := by simpa using (show (len == 1) = true from hi2)
    have h' : (match (generalizing := false) st with
      | .int i :: .ref k :: st => match (generalizing := false) rx_arr X k with
              | some (3, n) => rx_ck (vp_in i n) (K is L (.int (X.2.2.2.2.2.1 k i.toNatClampNeg) :: st) X)
              | some (4, n) => rx_ck (vp_in i n) (K is L (.int (X.2.2.2.2.2.1 k i.toNatClampNeg) :: st) X)
              | _ => False
      | _ => False) := h
    split at h'
    · rename_i st0 i k st'
      split at h'
      · rename_i n hn2
        obtain ⟨z1, z2, -, -⟩ := rx_arr_spec (tc := tc) (ad := ad) hn2
        exact va_zald hx hb hk hP k 2 (by rw [rx_W_get tc ad X z1, z2]; rfl) rfl h'.1 hd (go L _ ls h'.2 hl)
      · rename_i n hn2
        obtain ⟨z1, z2, -, -⟩ := rx_arr_spec (tc := tc) (ad := ad) hn2
        exact va_bald hx hb hk hP k 3 (by rw [rx_W_get tc ad X z1, z2]; rfl) rfl h'.1 hd (go L _ ls h'.2 hl)
      · exact h'.elim
    · exact h'.elim
  | laload =>
    obtain rfl : len = 1 := by simpa using (show (len == 1) = true from hi2)
    have h' : (match (generalizing := false) st with
      | .int i :: .ref k :: st => match (generalizing := false) rx_arr X k with
              | some (2, n) => rx_ck (vp_in i n) (K is L (.long (X.2.2.2.2.2.2 k i.toNatClampNeg) :: st) X)
              | _ => False
      | _ => False) := h
    split at h'
    · rename_i st0 i k st'
      split at h'
      · rename_i n hn2
        obtain ⟨z1, z2, -, -⟩ := rx_arr_spec (tc := tc) (ad := ad) hn2
        exact va_lald hx hb hk hP k 1 (by rw [rx_W_get tc ad X z1, z2]; rfl) rfl h'.1 hd (go L _ ls h'.2 hl)
      · exact h'.elim
    · exact h'.elim
  | iastore =>
    obtain rfl : len = 1 := by simpa using (show (len == 1) = true from hi2)
    have h' : (match (generalizing := false) st with
      | .int v :: .int i :: .ref k :: st => match (generalizing := false) rx_arr X k with
          | some (1, n) => rx_ck (vp_in i n) (K is L st (rx_aset X k i v))
          | _ => False
      | _ => False) := h
    split at h'
    · rename_i st0 v i k st'
      split at h'
      · rename_i n hn2
        obtain ⟨z1, z2, -, sl, z3⟩ := rx_arr_spec (tc := tc) (ad := ad) hn2
        refine va_iast hx hb hk hP hD hS k 0 (by rw [rx_W_get tc ad X z1, z2]; rfl) rfl h'.1 hd (fun H1 locs1 hP1 hD1 hS1 => ?_)
        have hset : (rx_W tc ad X).set k (ad k, .inl (tc 1, n, .inl (upd (X.2.2.2.2.2.1 k) i.toNatClampNeg v))) = rx_W tc ad (rx_aset X k i v) := rx_W_set rfl z1 (by unfold rx_cell; rw [z3]; show Sum.inl (tc 1, n, Sum.inl ((rx_si X.2.2.2.2.2 k i.toNatClampNeg _).1 k)) = _; rw [rx_si_1]) (fun j _ hj => rx_cell_congr (rx_si_n hj) rx_si_2 (fun _ _ _ _ _ _ => rfl))
        rw [hset] at hP1 hD1
        exact goX L st' _ H1 locs1 h'.2 rfl rfl rfl hP1 hD1 hS1 hl
      · exact h'.elim
    · exact h'.elim
  | bastore =>
    obtain rfl : len = 1 := by simpa using (show (len == 1) = true from hi2)
    have h' : (match (generalizing := false) st with
      | .int v :: .int i :: .ref k :: st => match (generalizing := false) rx_arr X k with
          | some (3, n) => rx_ck (vp_in i n) (K is L st (rx_aset X k i (vp_nar .boolean v)))
          | some (4, n) => rx_ck (vp_in i n) (K is L st (rx_aset X k i (vp_nar .byte v)))
          | _ => False
      | _ => False) := h
    split at h'
    · rename_i st0 v i k st'
      split at h'
      · rename_i n hn2
        obtain ⟨z1, z2, -, sl, z3⟩ := rx_arr_spec (tc := tc) (ad := ad) hn2
        refine va_zast hx hb hk hP hD hS k 2 (by rw [rx_W_get tc ad X z1, z2]; rfl) rfl h'.1 hd (fun H1 locs1 hP1 hD1 hS1 => ?_)
        have hset : (rx_W tc ad X).set k (ad k, .inl (tc 3, n, .inl (upd (X.2.2.2.2.2.1 k) i.toNatClampNeg (vp_nar .boolean v)))) = rx_W tc ad (rx_aset X k i (vp_nar .boolean v)) := rx_W_set rfl z1 (by unfold rx_cell; rw [z3]; show Sum.inl (tc 3, n, Sum.inl ((rx_si X.2.2.2.2.2 k i.toNatClampNeg _).1 k)) = _; rw [rx_si_1]) (fun j _ hj => rx_cell_congr (rx_si_n hj) rx_si_2 (fun _ _ _ _ _ _ => rfl))
        rw [hset] at hP1 hD1
        exact goX L st' _ H1 locs1 h'.2 rfl rfl rfl hP1 hD1 hS1 hl
      · rename_i n hn2
        obtain ⟨z1, z2, -, sl, z3⟩ := rx_arr_spec (tc := tc) (ad := ad) hn2
        refine va_bast hx hb hk hP hD hS k 3 (by rw [rx_W_get tc ad X z1, z2]; rfl) rfl h'.1 hd (fun H1 locs1 hP1 hD1 hS1 => ?_)
        have hset : (rx_W tc ad X).set k (ad k, .inl (tc 4, n, .inl (upd (X.2.2.2.2.2.1 k) i.toNatClampNeg (vp_nar .byte v)))) = rx_W tc ad (rx_aset X k i (vp_nar .byte v)) := rx_W_set rfl z1 (by unfold rx_cell; rw [z3]; show Sum.inl (tc 4, n, Sum.inl ((rx_si X.2.2.2.2.2 k i.toNatClampNeg _).1 k)) = _; rw [rx_si_1]) (fun j _ hj => rx_cell_congr (rx_si_n hj) rx_si_2 (fun _ _ _ _ _ _ => rfl))
        rw [hset] at hP1 hD1
        exact goX L st' _ H1 locs1 h'.2 rfl rfl rfl hP1 hD1 hS1 hl
      · exact h'.elim
    · exact h'.elim
  | lastore =>
    obtain rfl : len = 1 := by simpa using (show (len == 1) = true from hi2)
    have h' : (match (generalizing := false) st with
      | .long v :: .int i :: .ref k :: st => match (generalizing := false) rx_arr X k with
          | some (2, n) => rx_ck (vp_in i n) (K is L st (rx_asetl X k i v))
          | _ => False
      | _ => False) := h
    split at h'
    · rename_i st0 v i k st'
      split at h'
      · rename_i n hn2
        obtain ⟨z1, z2, -, sl, z3⟩ := rx_arr_spec (tc := tc) (ad := ad) hn2
        refine va_last hx hb hk hP hD hS k 1 (by rw [rx_W_get tc ad X z1, z2]; rfl) rfl h'.1 hd (fun H1 locs1 hP1 hD1 hS1 => ?_)
        have hset : (rx_W tc ad X).set k (ad k, .inl (tc 2, n, .inr (.inl (vp_updL (X.2.2.2.2.2.2 k) i.toNatClampNeg v)))) = rx_W tc ad (rx_asetl X k i v) := rx_W_set rfl z1 (by unfold rx_cell; rw [z3]; show Sum.inl (tc 2, n, Sum.inr (Sum.inl ((rx_sl X.2.2.2.2.2 k i.toNatClampNeg v).2 k))) = _; rw [rx_sl_2]) (fun j _ hj => rx_cell_congr rx_sl_1 (rx_sl_n hj) (fun _ _ _ _ _ _ => rfl))
        rw [hset] at hP1 hD1
        exact goX L st' _ H1 locs1 h'.2 rfl rfl rfl hP1 hD1 hS1 hl
      · exact h'.elim
    · exact h'.elim
  | arraylength =>
    obtain rfl : len = 1 := by simpa using (show (len == 1) = true from hi2)
    have h' : (match (generalizing := false) st with
      | .ref k :: st => cond (k == 9999) (match (generalizing := false) S with
          | some q => K is L (.int (Int32.ofNat q.1) :: st) X
          | none => False) (match (generalizing := false) rx_arr X k with
          | some (t, n) => cond (Nat.blt t 5) (K is L (.int (Int32.ofNat n) :: st) X) False
          | none => False)
      | _ => False) := h
    split at h'
    · rename_i st0 k st'
      cases hk9 : k == 9999 with
      | true =>
        rw [hk9] at h'
        have hk9' : k = 9999 := by simpa using hk9
        subst hk9'
        cases S with
        | none => exact h'.elim
        | some q => exact va_slen hx hb hsc.1 hsc.2.1 hsc.2.2 hS hd (go L _ ls h' hl)
      | false =>
        rw [hk9] at h'
        dsimp only [cond_false] at h'
        split at h'
        · rename_i t n hn2
          obtain ⟨h5, h6⟩ := rx_cond_t h'
          have h5' : t < 5 := Nat.le_of_ble_eq_true h5
          obtain ⟨z1, z2, z0, sl, z3⟩ := rx_arr_spec (tc := tc) (ad := ad) hn2
          by_cases ht2 : t = 2
          · subst ht2
            exact va_alen hx hb hk hP k 1 (cA := tc 2) (x := (n, .inr (.inl (X.2.2.2.2.2.2 k)))) (by rw [rx_W_get tc ad X z1, z2]; rfl) (ty := .long) rfl rfl hd (go L _ ls h6 hl)
          · rw [if_neg ht2] at z2
            rcases (show t = 1 ∨ t = 3 ∨ t = 4 by omega) with rfl | rfl | rfl
            · exact va_alen hx hb hk hP k 0 (cA := tc 1) (x := (n, .inl (X.2.2.2.2.2.1 k))) (by rw [rx_W_get tc ad X z1, z2]) (ty := .int) rfl rfl hd (go L _ ls h6 hl)
            · exact va_alen hx hb hk hP k 2 (cA := tc 3) (x := (n, .inl (X.2.2.2.2.2.1 k))) (by rw [rx_W_get tc ad X z1, z2]) (ty := .boolean) rfl rfl hd (go L _ ls h6 hl)
            · exact va_alen hx hb hk hP k 3 (cA := tc 4) (x := (n, .inl (X.2.2.2.2.2.1 k))) (by rw [rx_W_get tc ad X z1, z2]) (ty := .byte) rfl rfl hd (go L _ ls h6 hl)
        · exact h'.elim
    · exact h'.elim
  | ireturn =>
    obtain rfl : len = 1 := by simpa using (show (len == 1) = true from hi2)
    have h' : (match (generalizing := false) st with
      | [.int v] => rx_nar (rx_rt mi) v ∧ out = (some (.int v), X)
      | _ => False) := h
    split at h'
    · rename_i st0 v
      obtain ⟨h1, rfl⟩ := h'
      exact hr H locs ad ls pc (fun _ _ => rfl) hP hD hS hd h1
    · exact h'.elim
  | lreturn =>
    obtain rfl : len = 1 := by simpa using (show (len == 1) = true from hi2)
    have h' : (match (generalizing := false) st with
      | [.long v] => rx_rt mi = some .long ∧ out = (some (.long v), X)
      | _ => False) := h
    split at h'
    · rename_i st0 v
      obtain ⟨h1, rfl⟩ := h'
      exact hr H locs ad ls pc (fun _ _ => rfl) hP hD hS hd h1
    · exact h'.elim
  | return_ =>
    obtain rfl : len = 1 := by simpa using (show (len == 1) = true from hi2)
    have h' : (match (generalizing := false) st with
      | [] => rx_rt mi = none ∧ out = (none, X)
      | _ => False) := h
    split at h'
    · skip
      obtain ⟨h1, rfl⟩ := h'
      exact hr H locs ad ls pc (fun _ _ => rfl) hP hD hS hd h1
    · exact h'.elim
  | new n =>
    sorry
  | newarray t =>
    sorry
  | invokespecial n =>
    sorry
  | invokevirtual n =>
    sorry
  | invokestatic n =>
    sorry
  | _ => exact h.elim
