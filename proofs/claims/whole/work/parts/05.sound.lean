/-! THE STEP IS SOUND: what rx_step asks is enough for the machine -/
def rx_retI : Option Value → Instr
  | none => .return_
  | some (.long _) => .lreturn
  | some _ => .ireturn
def rx_retOK : Option FieldType → Option Value → Prop
  | t, none => t = none
  | t, some (.long _) => t = some .long
  | t, some (.int v) => rx_nar t v
  | _, _ => False
def rx_Cx (S : rx_S) (mi : Nat) (p : Program) (l : Launch) (R : Room) (s : State) (m : MethodId) (args : Array Value) (meth : Method) (c : Code) (D : va_G) (tc : Nat → ClassId) (ad : Nat → Nat) (H0 : Heap) (A : Nat → Prop) : Prop :=
  p.tables.exec = Jvm.exec ∧ c.code = rx_b mi ∧ c.maxLocals = rx_ml mi ∧ s.vm.findClass (rx_own mi) = some m.cls ∧ (∀ w ∈ rx_TS, w.before args s = true) ∧ rx_NW s ∧ va_K D rx_cl (rx_tys tc) s ∧ (rx_fr mi ≤ R.frames ∧ rx_lo mi ≤ R.locals) ∧ (∀ q, H0.size ≤ q → A q) ∧ ((rx_y mi).name = "<init>" → meth.name = "<init>") ∧ rx_Str ad A s H0 ∧
  (match S with
    | none => True
    | some q => (va_X (ad 9999) q.1 q.2.1 s H0 ∧ ad 9999 < H0.size ∧ ¬ A (ad 9999)) ∧ q.2.2 l args s A H0)
def rx_Back (mi : Nat) (p : Program) (l : Launch) (e : Env) (R : Room) (s : State) (m : MethodId) (args : Array Value) (below : List Frame) (meth : Method) (c : Code) (D : va_G) (tc : Nat → ClassId) (H0 : Heap) (A : Nat → Prop) (Q : State → Prop) (kc : Nat) (ad : Nat → Nat) (out : rx_O) : Prop :=
  ∀ (H : Heap) (locs : List Loc) (ad' : Nat → Nat) (ls : Array Slot) (pc : Nat), rx_ag kc ad ad' → va_P D rx_cl (rx_W tc ad' out.2) H → va_D A (rx_W tc ad' out.2) → va_S A H0 H locs → decode (rx_b mi) pc = .ok (rx_retI out.1, 1) → rx_retOK (rx_rt mi) out.1 →
    W p l e R s m args below meth c H locs out.2.2.1 out.2.2.2.1 Q (F0 m pc ls out.1.toList)
def rx_lc (ad : Nat → Nat) (L : rx_L) : List (Nat × Value) := L.map (fun q => (q.1, rx_conc ad q.2))
/-- AT A PLACE of a method: from here it comes to its end, with out -/
def rx_At (S : rx_S) (mi : Nat) (is : List rx_I) (L : rx_L) (st : List Value) (X : rx_X) (out : rx_O) : Prop :=
  ∀ (p : Program) (l : Launch) (e : Env) (R : Room) (s : State) (m : MethodId) (args : Array Value) (below : List Frame) (meth : Method) (c : Code) (D : va_G) (tc : Nat → ClassId) (ad : Nat → Nat) (H0 : Heap) (A : Nat → Prop) (Q : State → Prop) (H : Heap) (locs : List Loc) (ls : Array Slot),
    rx_Cx S mi p l R s m args meth c D tc ad H0 A → (out.2.2.1 ≤ R.cells ∧ out.2.2.2.1 ≤ R.slots) → va_P D rx_cl (rx_W tc ad X) H → va_D A (rx_W tc ad X) → va_S A H0 H locs → lv_has ls (rx_ml mi) (rx_lc ad L) → rx_Back mi p l e R s m args below meth c D tc H0 A Q X.1 ad out →
    W p l e R s m args below meth c H locs X.2.1 X.2.2.1 Q (F0 m (rx_pc is) ls (st.map (rx_conc ad)))
-- lists
theorem rx_chain_app {a b : List rx_I} (h : rx_chain (a ++ b) = true) : rx_chain b = true := by
  induction a with
  | nil => exact h
  | cons i a ih =>
    apply ih
    show rx_chain (a ++ b) = true
    have h' : ((match a ++ b with
      | [] => true
      | j :: _ => i.1 + i.2.2.1 == j.1) && rx_chain (a ++ b)) = true := h
    rw [Bool.and_eq_true] at h'
    exact h'.2
theorem rx_chain_next {i : rx_I} {l : List rx_I} (h : rx_chain (i :: l) = true) : l = [] ∨ rx_pc l = i.1 + i.2.2.1 := by
  cases l with
  | nil => exact Or.inl rfl
  | cons j l =>
    have h' : (i.1 + i.2.2.1 == j.1 && rx_chain (j :: l)) = true := h
    rw [Bool.and_eq_true, beq_iff_eq] at h'
    exact Or.inr h'.1.symm
theorem rx_jump_at (mi a : Nat) : rx_jump mi a = [] ∨ rx_pc (rx_jump mi a) = a := by
  unfold rx_jump
  induction rx_code mi with
  | nil => exact Or.inl rfl
  | cons i l ih =>
    by_cases hi : (i.1 == a) = true
    · rw [List.dropWhile_cons_of_neg (by simp [hi])]
      exact Or.inr (show i.1 = a by simpa using hi)
    · rw [List.dropWhile_cons_of_pos (by simpa using hi)]
      exact ih
theorem rx_jump_in (mi a : Nat) : ∃ pre, rx_code mi = pre ++ rx_jump mi a := ⟨(rx_code mi).takeWhile (fun i => !(i.1 == a)), (List.takeWhile_append_dropWhile).symm⟩
-- the picture
theorem rx_W_get (tc : Nat → ClassId) (ad : Nat → Nat) (X : rx_X) {k : Nat} (hk : k < X.1) : (rx_W tc ad X)[k]? = some (ad k, rx_cell tc ad X.2.2.2.1 X.2.2.2.2.1 X.2.2.2.2.2 k) := by
  unfold rx_W
  rw [List.getElem?_map, List.getElem?_range hk]
  rfl
theorem rx_W_len (tc : Nat → ClassId) (ad : Nat → Nat) (X : rx_X) : (rx_W tc ad X).length = X.1 := by
  unfold rx_W
  rw [List.length_map, List.length_range]
theorem rx_W_set {tc : Nat → ClassId} {ad : Nat → Nat} {X X' : rx_X} {k : Nat} {e : va_E} (h1 : X'.1 = X.1) (hk : k < X.1) (he : rx_cell tc ad X'.2.2.2.1 X'.2.2.2.2.1 X'.2.2.2.2.2 k = e) (ho : ∀ j, j < X.1 → j ≠ k → rx_cell tc ad X'.2.2.2.1 X'.2.2.2.2.1 X'.2.2.2.2.2 j = rx_cell tc ad X.2.2.2.1 X.2.2.2.2.1 X.2.2.2.2.2 j) : (rx_W tc ad X).set k (ad k, e) = rx_W tc ad X' := by
  apply List.ext_getElem?
  intro j
  by_cases hj : j < X.1
  · rw [rx_W_get tc ad X' (by rw [h1]; exact hj)]
    by_cases hjk : j = k
    · subst hjk
      rw [List.getElem?_set_self (by rw [rx_W_len]; exact hj), he]
    · rw [List.getElem?_set_ne (fun q => hjk q.symm), rx_W_get tc ad X hj, ho j hj hjk]
  · rw [List.getElem?_eq_none (by rw [List.length_set, rx_W_len]; omega), List.getElem?_eq_none (by rw [rx_W_len, h1]; omega)]
theorem rx_W_push {tc : Nat → ClassId} {ad ad' : Nat → Nat} {X X' : rx_X} {q : Nat} {e : va_E} (h1 : X'.1 = X.1 + 1) (hq : ad' X.1 = q) (ha : ∀ j, j < X.1 → ad' j = ad j) (he : rx_cell tc ad' X'.2.2.2.1 X'.2.2.2.2.1 X'.2.2.2.2.2 X.1 = e) (ho : ∀ j, j < X.1 → rx_cell tc ad' X'.2.2.2.1 X'.2.2.2.2.1 X'.2.2.2.2.2 j = rx_cell tc ad X.2.2.2.1 X.2.2.2.2.1 X.2.2.2.2.2 j) : rx_W tc ad X ++ [(q, e)] = rx_W tc ad' X' := by
  apply List.ext_getElem?
  intro j
  by_cases hj : j < X.1
  · rw [rx_W_get tc ad' X' (by omega), List.getElem?_append_left (by rw [rx_W_len]; exact hj), rx_W_get tc ad X hj, ho j hj, ha j hj]
  · by_cases hj2 : j = X.1
    · subst hj2
      rw [rx_W_get tc ad' X' (by omega), List.getElem?_append_right (by rw [rx_W_len]; exact Nat.le_refl _), rx_W_len, Nat.sub_self, he, hq]
      rfl
    · rw [List.getElem?_eq_none (by rw [List.length_append, rx_W_len]; show X.1 + 1 ≤ j; omega), List.getElem?_eq_none (by rw [rx_W_len, h1]; omega)]
theorem rx_conc_cat (ad : Nat → Nat) (v : Value) : (rx_conc ad v).category = v.category := by cases v <;> rfl
theorem rx_s1_map (ad : Nat → Nat) (L : rx_L) (i : Nat) (v : Value) : (i, rx_conc ad v) :: (rx_lc ad L).filter (fun q => !(q.1 == i) && !(q.1 + 1 == i && q.2.category == 2)) = rx_lc ad (rx_s1 L i v) := by
  unfold rx_lc rx_s1
  rw [List.map_cons, List.filter_map]
  congr 2
  apply List.filter_congr
  intro q _
  simp only [Function.comp, rx_conc_cat]
theorem rx_s2_map (ad : Nat → Nat) (L : rx_L) (i : Nat) (v : Value) : (i, rx_conc ad v) :: (rx_lc ad L).filter (fun q => !(q.1 == i) && (!(q.1 == i + 1) && !(q.1 + 1 == i && q.2.category == 2))) = rx_lc ad (rx_s2 L i v) := by
  unfold rx_lc rx_s2
  rw [List.map_cons, List.filter_map]
  congr 2
  apply List.filter_congr
  intro q _
  simp only [Function.comp, rx_conc_cat]
theorem rx_look_in {L : rx_L} {i : Nat} {v : Value} (h : rx_look L i = some v) : (i, v) ∈ L := by
  induction L with
  | nil => cases h
  | cons q l ih =>
    have h' : cond (q.1 == i) (some q.2) (rx_look l i) = some v := h
    cases hq : q.1 == i with
    | true =>
      rw [hq] at h'
      cases h'
      have : q.1 = i := by simpa using hq
      subst this
      exact List.mem_cons_self
    | false =>
      rw [hq] at h'
      exact List.mem_cons_of_mem _ (ih h')
theorem rx_lc_in {ad : Nat → Nat} {L : rx_L} {i : Nat} {v : Value} (h : rx_look L i = some v) : (i, rx_conc ad v) ∈ rx_lc ad L := List.mem_map.mpr ⟨(i, v), rx_look_in h, rfl⟩
theorem rx_ld_inv {K : rx_KT} {is : List rx_I} {L : rx_L} {st : List Value} {X : rx_X} {b : Nat} {ok : Value → Bool} (h : rx_ld K is L st X b ok) : ∃ v, rx_look L b = some v ∧ ok v = true ∧ K is L (v :: st) X := by
  unfold rx_ld at h
  split at h
  · rename_i v hv
    cases ho : ok v with
    | true => rw [ho] at h; exact ⟨v, hv, ho, h⟩
    | false => rw [ho] at h; exact h.elim
  · exact h.elim
theorem rx_bin_inv {f : Int32 → Int32 → Int32} {K : rx_KT} {is : List rx_I} {L : rx_L} {st : List Value} {X : rx_X} (h : rx_bin f K is L st X) : ∃ x y st', st = .int y :: .int x :: st' ∧ K is L (.int (f x y) :: st') X := by
  unfold rx_bin at h
  split at h
  · exact ⟨_, _, _, rfl, h⟩
  · exact h.elim
theorem rx_binl_inv {f : Int64 → Int64 → Int64} {K : rx_KT} {is : List rx_I} {L : rx_L} {st : List Value} {X : rx_X} (h : rx_binl f K is L st X) : ∃ x y st', st = .long y :: .long x :: st' ∧ K is L (.long (f x y) :: st') X := by
  unfold rx_binl at h
  split at h
  · exact ⟨_, _, _, rfl, h⟩
  · exact h.elim
theorem rx_div_inv {f : Int32 → Int32 → Int32} {K : rx_KT} {is : List rx_I} {L : rx_L} {st : List Value} {X : rx_X} (h : rx_div f K is L st X) : ∃ x y st', st = .int y :: .int x :: st' ∧ ¬ y = 0 ∧ K is L (.int (f x y) :: st') X := by
  unfold rx_div at h
  split at h
  · exact ⟨_, _, _, rfl, h⟩
  · exact h.elim
theorem rx_st1_inv {K : rx_KT} {is : List rx_I} {L : rx_L} {st : List Value} {X : rx_X} {b : Nat} {ok : Value → Bool} (h : rx_st1 K is L st X b ok) : ∃ v st', st = v :: st' ∧ ok v = true ∧ K is (rx_s1 L b v) st' X := by
  unfold rx_st1 at h
  split at h
  · rename_i v st'
    cases ho : ok v with
    | true => rw [ho] at h; exact ⟨_, _, rfl, ho, h⟩
    | false => rw [ho] at h; exact h.elim
  · exact h.elim
theorem rx_st2_inv {K : rx_KT} {is : List rx_I} {L : rx_L} {st : List Value} {X : rx_X} {b : Nat} (h : rx_st2 K is L st X b) : ∃ v st', st = .long v :: st' ∧ K is (rx_s2 L b (.long v)) st' X := by
  unfold rx_st2 at h
  split at h
  · exact ⟨_, _, rfl, h⟩
  · exact h.elim
theorem rx_isI_inv {v : Value} (h : rx_isI v = true) : ∃ x, v = .int x := by cases v <;> first | exact ⟨_, rfl⟩ | cases h
theorem rx_isL_inv {v : Value} (h : rx_isL v = true) : ∃ x, v = .long x := by cases v <;> first | exact ⟨_, rfl⟩ | cases h
theorem rx_isA_inv {v : Value} (h : rx_isA v = true) : ∃ x, v = .ref x := by cases v <;> first | exact ⟨_, rfl⟩ | cases h
theorem rx_cond_t {b : Bool} {G : Prop} (h : cond b G False) : b = true ∧ G := by
  cases b with
  | true => exact ⟨rfl, h⟩
  | false => exact h.elim
-- places
theorem rx_mapIdx_get {ad : Nat → Nat} {ini : List (Nat × Nat)} {P : List Nat} {f : Nat → Int32} {k b : Nat} {sl : List (Nat × Nat)} : (sl.mapIdx (fun j q => rx_sv ad ini P f k j q))[b]? = (sl[b]?).map (rx_sv ad ini P f k b) := by
  rw [List.getElem?_mapIdx]
theorem rx_slot_spec {tc : Nat → ClassId} {ad : Nat → Nat} {X : rx_X} {k a b : Nat} {v : Value} (h : rx_slot X k a b = some v) : k < X.1 ∧ ∃ fs, rx_cell tc ad X.2.2.2.1 X.2.2.2.2.1 X.2.2.2.2.2 k = .inr (a, fs) ∧ fs[b]? = some (rx_conc ad v) := by
  unfold rx_slot at h
  cases hk : Nat.blt k X.1 with
  | false => rw [hk] at h; cases h
  | true =>
    rw [hk] at h
    have hk' : k < X.1 := Nat.le_of_ble_eq_true hk
    refine ⟨hk', ?_⟩
    unfold rx_cell
    dsimp only [cond_true] at h
    split at h
    · rename_i ci sl hl
      rw [hl]
      cases hc : ci == a with
      | false => rw [hc] at h; cases h
      | true =>
        rw [hc] at h
        have : ci = a := by simpa using hc
        subst this
        refine ⟨_, rfl, ?_⟩
        rw [rx_mapIdx_get]
        dsimp only [cond_true] at h
        split at h
        · rename_i q hq; rw [hq]; cases h; rfl
        · rename_i r hq
          rw [hq]
          cases hc2 : X.2.2.2.1.contains (k, b) with
          | true => rw [hc2] at h; cases h
          | false =>
            rw [hc2] at h; cases h
            show some (rx_sv ad _ _ _ k b (1, r)) = _
            show some (cond (X.2.2.2.1.contains (k, b)) Value.null (Value.ref (ad r))) = _
            rw [hc2]; rfl
        · rename_i t r hn0 hn1 hq
          rw [hq]
          cases hc2 : X.2.2.2.1.contains (k, b) with
          | true => rw [hc2] at h; cases h
          | false =>
            rw [hc2] at h
            dsimp only [cond_false] at h
            split at h
            · rename_i q hpq
              cases h
              show some (rx_sv ad _ _ _ k b (t, r)) = _
              have : rx_sv ad X.2.2.2.1 X.2.2.2.2.1 (X.2.2.2.2.2.1 k) k b (t, r) = cond (X.2.2.2.1.contains (k, b)) Value.null (Value.ref (ad (X.2.2.2.2.1.getD r 0))) := by
                unfold rx_sv
                split
                · rename_i e; exact absurd e (by intro e; exact hn0 (by simpa using e))
                · rename_i e; exact absurd e (by intro e; exact hn1 (by simpa using e))
                · rfl
              rw [this, hc2, List.getD_eq_getElem?_getD, hpq]; rfl
            · cases h
        · cases h
    · cases h
theorem rx_arr_spec {tc : Nat → ClassId} {ad : Nat → Nat} {X : rx_X} {k n : Nat} {t : Nat} (h : rx_arr X k = some (t, n)) : k < X.1 ∧ rx_cell tc ad X.2.2.2.1 X.2.2.2.2.1 X.2.2.2.2.2 k = (if t = 2 then .inl (tc 2, n, .inr (.inl (X.2.2.2.2.2.2 k))) else .inl (tc t, n, .inl (X.2.2.2.2.2.1 k))) ∧ t ≠ 0 ∧ ∃ sl, rx_lay k = (t, n, sl) := by
  unfold rx_arr at h
  cases hk : Nat.blt k X.1 with
  | false => rw [hk] at h; cases h
  | true =>
    rw [hk] at h
    have hk' : k < X.1 := Nat.le_of_ble_eq_true hk
    refine ⟨hk', ?_⟩
    unfold rx_cell
    dsimp only [cond_true] at h
    split at h
    · cases h
    · rename_i t' n' sl h0 hl
      cases h
      have h0' : t ≠ 0 := by
        intro e
        subst e
        exact h0 rfl
      refine ⟨?_, h0', sl, hl⟩
      rw [hl]
      by_cases h2 : t = 2
      · subst h2; rfl
      · rw [if_neg h2]
        split
        · rename_i e; exact absurd (congrArg (fun q => q.1) e) h0'
        · rename_i e; exact absurd (congrArg (fun q => q.1) e) h2
        · rename_i e; cases e; rfl
-- what the tables say of classes
theorem rx_cl_get {a : Nat} (h : a < 13) : rx_cl[a]? = some (rx_R.getD a "", rx_T a, rx_N a) := by
  rcases (show a = 0 ∨ a = 1 ∨ a = 2 ∨ a = 3 ∨ a = 4 ∨ a = 5 ∨ a = 6 ∨ a = 7 ∨ a = 8 ∨ a = 9 ∨ a = 10 ∨ a = 11 ∨ a = 12 by omega) with rfl | rfl | rfl | rfl | rfl | rfl | rfl | rfl | rfl | rfl | rfl | rfl | rfl <;> rfl
theorem rx_C {a : Nat} (h : a < 13) : (∀ w ∈ u_ws (rx_R.getD a "") (rx_T a) (rx_N a), w ∈ rx_TS) ∧ (∀ k, k < rx_N a → parseFieldDescriptor (rx_T a k).2.2.1 = some (rx_ty a k)) ∧ (∀ i, i < rx_N a → ∀ j, j < rx_N a → i ≠ j → (rx_T a i).2.1 ≠ (rx_T a j).2.1) ∧ (¬ a = 4 → Cond.instantiable (rx_R.getD a "") (rx_N a) ∈ rx_TS ∧ Cond.initialized (rx_R.getD a "") ∈ rx_TS) := by
  have h1 := List.all_eq_true.mp rx_okC a (List.mem_range.mpr h)
  unfold rx_chkC at h1
  rw [Bool.and_eq_true, List.all_eq_true] at h1
  obtain ⟨h1, h2⟩ := h1
  have h3 : ∀ k, k < rx_N a → rx_w ((rx_lp[a]?.getD [])[k]?.getD 0) (u_lay (rx_R.getD a "") (rx_T a) k) = true ∧ parseFieldDescriptor (rx_T a k).2.2.1 = some (rx_ty a k) ∧ ∀ j, j < rx_N a → j = k ∨ (rx_T a k).2.1 ≠ (rx_T a j).2.1 := by
    intro k hk
    have h4 := h1 k (List.mem_range.mpr hk)
    simp only [Bool.and_eq_true, decide_eq_true_eq, List.all_eq_true, Bool.or_eq_true, beq_iff_eq, List.mem_range] at h4
    exact ⟨h4.1, h4.2.1, fun j hj => h4.2.2 j hj⟩
  refine ⟨fun w hw => ?_, fun k hk => (h3 k hk).2.1, fun i hi j hj hij => ((h3 i hi).2.2 j hj).resolve_left (fun e => hij e.symm), fun h4 => ?_⟩
  · obtain ⟨k, hk, rfl⟩ := List.mem_map.mp hw
    exact rx_w_in (h3 k (List.mem_range.mp hk)).1
  · simp only [Bool.or_eq_true, beq_iff_eq, Bool.and_eq_true] at h2
    exact ⟨rx_w_in (h2.resolve_left h4).1, rx_w_in (h2.resolve_left h4).2⟩
theorem rx_set_mapIdx {g g' : Nat → Nat × Nat → Value} {sl : List (Nat × Nat)} {b : Nat} {v : Value} (h1 : ∀ q, sl[b]? = some q → g' b q = v) (h2 : ∀ j q, j ≠ b → sl[j]? = some q → g' j q = g j q) : (sl.mapIdx g).set b v = sl.mapIdx g' := by
  apply List.ext_getElem?
  intro j
  rw [List.getElem?_set, List.getElem?_mapIdx, List.getElem?_mapIdx, List.length_mapIdx]
  by_cases hj : b = j
  · subst hj
    rw [if_pos rfl]
    cases hs : sl[b]? with
    | none => rw [if_neg (by have := List.getElem?_eq_none_iff.mp hs; omega)]; rfl
    | some q => rw [if_pos (List.getElem?_eq_some_iff.mp hs).1]; exact congrArg some (h1 q hs).symm
  · rw [if_neg hj]
    cases hs : sl[j]? with
    | none => rfl
    | some q => exact congrArg some (h2 j q (fun e => hj e.symm) hs).symm
theorem rx_era_contains {ini : List (Nat × Nat)} {k b k' b' : Nat} : (rx_era ini k b).contains (k', b') = (ini.contains (k', b') && !(k' == k && b' == b)) := by
  unfold rx_era
  induction ini with
  | nil => rfl
  | cons q l ih =>
    obtain ⟨u, v⟩ := q
    rw [List.filter_cons]
    by_cases hq : (u == k && v == b) = true
    · rw [if_neg (by simp [hq]), ih, List.contains_cons]
      simp only [Bool.and_eq_true, beq_iff_eq] at hq
      obtain ⟨rfl, rfl⟩ := hq
      by_cases e : k' = u ∧ b' = v
      · obtain ⟨rfl, rfl⟩ := e; simp
      · have : ((k', b') == (u, v)) = false := by
          rw [beq_eq_false_iff_ne]; intro z; exact e ⟨congrArg Prod.fst z, congrArg Prod.snd z⟩
        rw [this, Bool.false_or]
    · rw [if_pos (by rw [Bool.not_eq_true']; simpa using hq), List.contains_cons, List.contains_cons, ih]
      by_cases e : k' = u ∧ b' = v
      · obtain ⟨rfl, rfl⟩ := e
        have : (k' == k && b' == b) = false := by simpa using hq
        simp [this]
      · have : ((k', b') == (u, v)) = false := by
          rw [beq_eq_false_iff_ne]; intro z; exact e ⟨congrArg Prod.fst z, congrArg Prod.snd z⟩
        rw [this, Bool.false_or, Bool.false_or]
/-- what the layout's check says of an object's place -/
theorem rx_L_obj {k ci : Nat} {sl : List (Nat × Nat)} (hk : k < rx_NC) (hl : rx_lay k = (0, ci, sl)) : ci < 13 ∧ ¬ ci = 4 ∧ sl.length = rx_N ci ∧ ∀ j q, sl[j]? = some q → (q.1 = 0 ∧ q.2 = 0 ∧ rx_ty ci j = .int) ∨ (q.1 = 0 ∧ ¬ q.2 = 0 ∧ rx_ty ci j = .boolean) ∨ (q.1 = 1 ∧ ((∃ C, rx_ty ci j = .object C) ∨ ∃ C, rx_ty ci j = .array C) ∧ (k, j) ∈ rx_rev q.2 ∧ q.2 < rx_NC) ∨ (q.1 = 2 ∧ (∃ C, rx_ty ci j = .object C) ∧ rx_pt[q.2]? = some (k, j)) := by
  have h := List.all_eq_true.mp rx_okL k (List.mem_range.mpr hk)
  unfold rx_chkL at h
  rw [hl] at h
  simp only [Bool.and_eq_true, List.all_eq_true, List.mem_range, beq_iff_eq, Bool.not_eq_true', beq_eq_false_iff_ne] at h
  obtain ⟨h1, h4, h2, h3⟩ := h
  refine ⟨Nat.le_of_ble_eq_true h1, h4, h2, fun j q hq => ?_⟩
  have h5 := h3 j (List.getElem?_eq_some_iff.mp hq).1
  rw [hq] at h5
  obtain ⟨t, r⟩ := q
  simp only [Option.getD_some] at h5
  split at h5
  · rename_i e; cases e; exact Or.inl ⟨rfl, rfl, of_decide_eq_true h5⟩
  · rename_i r' hn e; cases e; exact Or.inr (Or.inl ⟨rfl, fun z => hn z, of_decide_eq_true h5⟩)
  · rename_i r' e; cases e
    simp only [Bool.and_eq_true] at h5
    refine Or.inr (Or.inr (Or.inl ⟨rfl, ?_, by simpa using h5.2.1, Nat.le_of_ble_eq_true h5.2.2⟩))
    have h6 := h5.1
    split at h6
    · rename_i C hC; exact Or.inl ⟨C, hC⟩
    · rename_i C hC; exact Or.inr ⟨C, hC⟩
    · cases h6
  · rename_i r' e; cases e
    simp only [Bool.and_eq_true, decide_eq_true_eq] at h5
    refine Or.inr (Or.inr (Or.inr ⟨rfl, ?_, h5.2⟩))
    have h6 := h5.1
    split at h6
    · rename_i C hC; exact ⟨C, hC⟩
    · cases h6
  · cases h5
theorem rx_L_arr {k t n : Nat} {sl : List (Nat × Nat)} (hk : k < rx_NC) (hl : rx_lay k = (t, n, sl)) (h0 : t ≠ 0) : 1 ≤ t ∧ t ≤ 4 ∧ n < 100000 := by
  have h := List.all_eq_true.mp rx_okL k (List.mem_range.mpr hk)
  unfold rx_chkL at h
  split at h
  · rename_i e; rw [hl] at e; exact absurd (congrArg (fun q => q.1) e) h0
  · rename_i e; rw [hl] at e; cases e
    simp only [Bool.and_eq_true] at h
    exact ⟨Nat.le_of_ble_eq_true h.1, Nat.le_of_ble_eq_true h.2.1, Nat.le_of_ble_eq_true h.2.2⟩
theorem rx_cell_obj {tc : Nat → ClassId} {ad : Nat → Nat} {ini : List (Nat × Nat)} {P : List Nat} {σ : rx_St} {k ci : Nat} {sl : List (Nat × Nat)} (hl : rx_lay k = (0, ci, sl)) : rx_cell tc ad ini P σ k = .inr (ci, sl.mapIdx (fun j q => rx_sv ad ini P (σ.1 k) k j q)) := by
  unfold rx_cell
  rw [hl]
  rfl
theorem rx_cell_congr {tc : Nat → ClassId} {ad ad' : Nat → Nat} {ini ini' : List (Nat × Nat)} {P P' : List Nat} {σ σ' : rx_St} {k : Nat} (h1 : σ'.1 k = σ.1 k) (h2 : σ'.2 k = σ.2 k) (h3 : ∀ ci sl, rx_lay k = (0, ci, sl) → ∀ j q, sl[j]? = some q → rx_sv ad' ini' P' (σ.1 k) k j q = rx_sv ad ini P (σ.1 k) k j q) : rx_cell tc ad' ini' P' σ' k = rx_cell tc ad ini P σ k := by
  unfold rx_cell
  rw [h1, h2]
  split
  · rename_i ci sl hl
    have : sl.mapIdx (fun j q => rx_sv ad' ini' P' (σ.1 k) k j q) = sl.mapIdx (fun j q => rx_sv ad ini P (σ.1 k) k j q) := by
      apply List.ext_getElem?
      intro j
      rw [List.getElem?_mapIdx, List.getElem?_mapIdx]
      cases hs : sl[j]? with
      | none => rfl
      | some q => exact congrArg some (h3 ci sl hl j q hs)
    rw [this]
  · rfl
  · rfl
theorem rx_si_1 {σ : rx_St} {k b : Nat} {x : Int32} : (rx_si σ k b x).1 k = upd (σ.1 k) b x := by
  unfold rx_si
  simp
theorem rx_si_n {σ : rx_St} {k b j : Nat} {x : Int32} (h : j ≠ k) : (rx_si σ k b x).1 j = σ.1 j := by
  unfold rx_si
  show cond (j == k) _ _ = _
  rw [show (j == k) = false by simpa using h]
  rfl
theorem rx_si_2 {σ : rx_St} {k b j : Nat} {x : Int32} : (rx_si σ k b x).2 j = σ.2 j := rfl
theorem rx_sl_2 {σ : rx_St} {k b : Nat} {x : Int64} : (rx_sl σ k b x).2 k = vp_updL (σ.2 k) b x := by
  unfold rx_sl
  simp
theorem rx_sl_n {σ : rx_St} {k b j : Nat} {x : Int64} (h : j ≠ k) : (rx_sl σ k b x).2 j = σ.2 j := by
  unfold rx_sl
  show cond (j == k) _ _ = _
  rw [show (j == k) = false by simpa using h]
  rfl
theorem rx_sl_1 {σ : rx_St} {k b j : Nat} {x : Int64} : (rx_sl σ k b x).1 j = σ.1 j := rfl
theorem rx_put_inv {X : rx_X} {k a b : Nat} {v : Value} {K : rx_X → Prop} (tc : Nat → ClassId) (ad : Nat → Nat) (hNC : X.1 ≤ rx_NC) (h : rx_put X k a b v K) : ∃ X' fs, K X' ∧ k < X.1 ∧ X'.1 = X.1 ∧ X'.2.1 = X.2.1 ∧ X'.2.2.1 = X.2.2.1 ∧ rx_cell tc ad X.2.2.2.1 X.2.2.2.2.1 X.2.2.2.2.2 k = .inr (a, fs) ∧ b < fs.length ∧ rx_cell tc ad X'.2.2.2.1 X'.2.2.2.2.1 X'.2.2.2.2.2 k = .inr (a, fs.set b (rx_conc ad v)) ∧ (∀ j, j < X.1 → j ≠ k → rx_cell tc ad X'.2.2.2.1 X'.2.2.2.2.1 X'.2.2.2.2.2 j = rx_cell tc ad X.2.2.2.1 X.2.2.2.2.1 X.2.2.2.2.2 j) ∧ narrow (rx_ty a b) (rx_conc ad v) = rx_conc ad v ∧ fits (rx_ty a b) (rx_conc ad v) = true := by
  obtain ⟨kc, c, s, ini, P, σ⟩ := X
  obtain ⟨hk, h1⟩ := rx_cond_t (show cond (Nat.blt k kc) _ False from h)
  clear h
  have hk' : k < kc := Nat.le_of_ble_eq_true hk
  have hkN : k < rx_NC := Nat.lt_of_lt_of_le hk' hNC
  split at h1
  · rename_i ci sl hl
    obtain ⟨hc, h⟩ := rx_cond_t h1
    clear h1
    have hca : ci = a := by simpa using hc
    subst hca
    obtain ⟨-, -, hlen, hpl⟩ := rx_L_obj hkN hl
    split at h
    · rename_i x hb
      have hbl := (List.getElem?_eq_some_iff.mp hb).1
      refine ⟨_, _, h, hk', rfl, rfl, rfl, rx_cell_obj hl, by rw [List.length_mapIdx]; exact hbl, ?_, ?_, ?_⟩
      · rw [rx_cell_obj hl]
        congr 2
        symm
        apply rx_set_mapIdx
        · intro q hq
          rw [hb] at hq; cases hq
          show Value.int ((rx_si σ k b x).1 k b) = Value.int x
          rw [rx_si_1]; simp [upd]
        · intro j q hj hq
          unfold rx_sv
          rw [show (rx_si σ k b x, ()).1.1 k j = (rx_si σ k b x).1 k j from rfl, rx_si_1]
          simp [upd, hj]
      · intro j hj hjk
        exact rx_cell_congr (rx_si_n hjk) rx_si_2 (fun _ _ _ _ _ _ => rfl)
      · rcases hpl b _ hb with ⟨-, -, e⟩ | ⟨-, e, -⟩ | ⟨e, -⟩ | ⟨e, -⟩
        · rw [e]; exact ⟨rfl, rfl⟩
        · exact absurd rfl e
        · cases e
        · cases e
    · rename_i r x hn hb
      have hbl := (List.getElem?_eq_some_iff.mp hb).1
      obtain ⟨hx, h2⟩ := h
      refine ⟨_, _, h2, hk', rfl, rfl, rfl, rx_cell_obj hl, by rw [List.length_mapIdx]; exact hbl, ?_, ?_, ?_⟩
      · rw [rx_cell_obj hl]
        congr 2
        symm
        apply rx_set_mapIdx
        · intro q hq
          rw [hb] at hq; cases hq
          show Value.int ((rx_si σ k b x).1 k b) = Value.int x
          rw [rx_si_1]; simp [upd]
        · intro j q hj hq
          unfold rx_sv
          rw [show (rx_si σ k b x, ()).1.1 k j = (rx_si σ k b x).1 k j from rfl, rx_si_1]
          simp [upd, hj]
      · intro j hj hjk
        exact rx_cell_congr (rx_si_n hjk) rx_si_2 (fun _ _ _ _ _ _ => rfl)
      · rcases hpl b _ hb with ⟨-, e, -⟩ | ⟨-, -, e⟩ | ⟨e, -⟩ | ⟨e, -⟩
        · first | exact (hn e).elim | exact (hn e x rfl).elim | exact absurd rfl (hn e)
        · rw [e]
          rcases hx with rfl | rfl <;> exact ⟨rfl, rfl⟩
        · cases e
        · cases e
    · rename_i r q hb
      have hbl := (List.getElem?_eq_some_iff.mp hb).1
      obtain ⟨hrq, h2⟩ := rx_cond_t h
      have hrq : r = q := by simpa using hrq
      subst hrq
      refine ⟨_, _, h2, hk', rfl, rfl, rfl, rx_cell_obj hl, by rw [List.length_mapIdx]; exact hbl, ?_, ?_, ?_⟩
      · rw [rx_cell_obj hl]
        congr 2
        symm
        apply rx_set_mapIdx
        · intro q hq
          rw [hb] at hq; cases hq
          show cond ((rx_era ini k b).contains (k, b)) _ _ = _
          rw [rx_era_contains]; simp; rfl
        · intro j q hj hq
          unfold rx_sv
          simp only [rx_era_contains]
          have : (j == b) = false := by simpa using hj
          simp [this]
      · intro j hj hjk
        refine rx_cell_congr rfl rfl (fun _ _ _ i q _ => ?_)
        unfold rx_sv
        simp only [rx_era_contains]
        have : (j == k) = false := by simpa using hjk
        simp [this]
      · rcases hpl b _ hb with ⟨e, -⟩ | ⟨e, -⟩ | ⟨-, ⟨C, e⟩ | ⟨C, e⟩, -⟩ | ⟨e, -⟩
        · cases e
        · cases e
        · rw [e]; exact ⟨rfl, rfl⟩
        · rw [e]; exact ⟨rfl, rfl⟩
        · cases e
    · rename_i r q hb
      have hbl := (List.getElem?_eq_some_iff.mp hb).1
      obtain ⟨hrP, h2⟩ := rx_cond_t h
      have hrP : r < P.length := Nat.le_of_ble_eq_true hrP
      have hpt : rx_pt[r]? = some (k, b) := by
        rcases hpl b _ hb with ⟨e, -⟩ | ⟨e, -⟩ | ⟨e, -⟩ | ⟨-, -, e⟩
        · cases e
        · cases e
        · cases e
        · exact e
      refine ⟨_, _, h2, hk', rfl, rfl, rfl, rx_cell_obj hl, by rw [List.length_mapIdx]; exact hbl, ?_, ?_, ?_⟩
      · rw [rx_cell_obj hl]
        congr 2
        symm
        apply rx_set_mapIdx
        · intro q' hq
          rw [hb] at hq; cases hq
          show cond ((rx_era ini k b).contains (k, b)) Value.null (Value.ref (ad ((P.set r q).getD r 0))) = _
          rw [rx_era_contains]
          simp [List.getD, hrP]; rfl
        · intro j q' hj hq
          have hjb : (j == b) = false := by simpa using hj
          unfold rx_sv
          simp only [rx_era_contains, hjb, Bool.and_false, Bool.not_false, Bool.and_true]
          split
          · rfl
          · rfl
          · rename_i e0 e1
            have hne : r ≠ q'.2 := by
              intro e
              rcases hpl j q' hq with ⟨z, -⟩ | ⟨z, -⟩ | ⟨z, -⟩ | ⟨-, -, z⟩
              · exact e0 z
              · exact e0 z
              · exact e1 z
              · rw [← e, hpt] at z; cases z; exact hj rfl
            rw [show (P.set r q).getD q'.2 0 = P.getD q'.2 0 by simp [List.getD, List.getElem?_set_ne hne]]
      · intro j hj hjk
        refine rx_cell_congr rfl rfl (fun cj slj hlj i q' hq => ?_)
        have hjk' : (j == k) = false := by simpa using hjk
        unfold rx_sv
        simp only [rx_era_contains, hjk', Bool.false_and, Bool.not_false, Bool.and_true]
        split
        · rfl
        · rfl
        · rename_i e0 e1
          have hne : r ≠ q'.2 := by
            intro e
            rcases (rx_L_obj (Nat.lt_of_lt_of_le hj hNC) hlj).2.2.2 i q' hq with ⟨z, -⟩ | ⟨z, -⟩ | ⟨z, -⟩ | ⟨-, -, z⟩
            · exact e0 z
            · exact e0 z
            · exact e1 z
            · rw [← e, hpt] at z; cases z; exact hjk rfl
          rw [show (P.set r q).getD q'.2 0 = P.getD q'.2 0 by simp [List.getD, List.getElem?_set_ne hne]]
      · rcases hpl b _ hb with ⟨e, -⟩ | ⟨e, -⟩ | ⟨e, -⟩ | ⟨-, ⟨C, e⟩, -⟩
        · cases e
        · cases e
        · cases e
        · rw [e]; exact ⟨rfl, rfl⟩
    · exact h.elim
  · exact h1.elim
