/-! THE STEP: what an instruction does, as a proposition that can be worked out; nothing of the machine stands here but its instructions -/
def rx_text : String := "set kind end has secret rule if add go give to near pick quit or and not tick here place lot sum all "
abbrev rx_L : Type := List (Nat × Value)
/-- cells made, cells and slots spent, reference places not written yet, pointers, numbers -/
abbrev rx_X : Type := Nat × Nat × Nat × List (Nat × Nat) × List Nat × rx_St
/-- the law's own: its script, and what else it knows of its start -/
abbrev rx_S : Type := Option (Nat × (Nat → Int32) × (Launch → Array Value → State → (Nat → Prop) → Heap → Prop))
abbrev rx_O : Type := Option Value × rx_X
abbrev rx_KT : Type := List rx_I → rx_L → List Value → rx_X → Prop
def rx_si (σ : rx_St) (k j : Nat) (v : Int32) : rx_St := (fun q => cond (q == k) (upd (σ.1 k) j v) (σ.1 q), σ.2)
def rx_sl (σ : rx_St) (k j : Nat) (v : Int64) : rx_St := (σ.1, fun q => cond (q == k) (vp_updL (σ.2 k) j v) (σ.2 q))
def rx_z (σ : rx_St) (k : Nat) : rx_St := (fun q => cond (q == k) (fun _ => 0) (σ.1 q), fun q => cond (q == k) (fun _ => 0) (σ.2 q))
def rx_look : rx_L → Nat → Option Value
  | [], _ => none
  | q :: l, i => cond (q.1 == i) (some q.2) (rx_look l i)
def rx_s1 (L : rx_L) (i : Nat) (v : Value) : rx_L := (i, v) :: L.filter (fun q => !(q.1 == i) && !(q.1 + 1 == i && q.2.category == 2))
def rx_s2 (L : rx_L) (i : Nat) (v : Value) : rx_L := (i, v) :: L.filter (fun q => !(q.1 == i) && (!(q.1 == i + 1) && !(q.1 + 1 == i && q.2.category == 2)))
def rx_ck (c G : Prop) : Prop := c ∧ G
def rx_br (c F G : Prop) : Prop := (c → F) ∧ (¬ c → G)
def rx_brc (c : Jvm.ClassFile.Cond) (x y : Int32) (F G : Prop) : Prop := match c with
  | .eq => rx_br (x = y) F G
  | .ne => rx_br (x = y) G F
  | .lt => rx_br (x < y) F G
  | .ge => rx_br (y ≤ x) F G
  | .gt => rx_br (y < x) F G
  | .le => rx_br (x ≤ y) F G
def rx_sw (x : Int32) (d : Prop) (K : Nat → Prop) : List (Int32 × Nat) → Prop
  | [] => d
  | q :: l => rx_br (x = q.1) (K q.2) (rx_sw x d K l)
/-- a place's content, as the pictures have it: a reference by the number of its cell -/
def rx_slot (X : rx_X) (k a b : Nat) : Option Value :=
  cond (Nat.blt k X.1) (match rx_lay k with
    | (0, ci, sl) => cond (ci == a) (match sl[b]? with
      | some (0, _) => some (.int (X.2.2.2.2.2.1 k b))
      | some (1, r) => cond (X.2.2.2.1.contains (k, b)) none (some (.ref r))
      | some (_, r) => cond (X.2.2.2.1.contains (k, b)) none (match X.2.2.2.2.1[r]? with
        | some q => some (.ref q)
        | none => none)
      | none => none) none
    | _ => none) none
def rx_era (ini : List (Nat × Nat)) (k b : Nat) : List (Nat × Nat) := ini.filter (fun q => !(q.1 == k && q.2 == b))
def rx_put (X : rx_X) (k a b : Nat) (v : Value) (K : rx_X → Prop) : Prop :=
  match X with
  | (kc, c, s, ini, P, σ) => cond (Nat.blt k kc) (match rx_lay k with
    | (0, ci, sl) => cond (ci == a) (match sl[b]?, v with
      | some (0, 0), .int x => K (kc, c, s, ini, P, rx_si σ k b x)
      | some (0, _), .int x => rx_ck (x = 0 ∨ x = 1) (K (kc, c, s, ini, P, rx_si σ k b x))
      | some (1, r), .ref q => cond (r == q) (K (kc, c, s, rx_era ini k b, P, σ)) False
      | some (2, r), .ref q => cond (Nat.blt r P.length) (K (kc, c, s, rx_era ini k b, P.set r q, σ)) False
      | _, _ => False) False
    | _ => False) False
def rx_arr (X : rx_X) (k : Nat) : Option (Nat × Nat) := cond (Nat.blt k X.1) (match rx_lay k with
    | (0, _, _) => none
    | (t, n, _) => some (t, n)) none
def rx_aset (X : rx_X) (k : Nat) (i : Int32) (v : Int32) : rx_X := (X.1, X.2.1, X.2.2.1, X.2.2.2.1, X.2.2.2.2.1, rx_si X.2.2.2.2.2 k i.toNatClampNeg v)
def rx_asetl (X : rx_X) (k : Nat) (i : Int32) (v : Int64) : rx_X := (X.1, X.2.1, X.2.2.1, X.2.2.2.1, X.2.2.2.2.1, rx_sl X.2.2.2.2.2 k i.toNatClampNeg v)
def rx_refs (k : Nat) (sl : List (Nat × Nat)) : List (Nat × Nat) := ((List.range sl.length).filter (fun j => !((sl[j]?.getD (0, 0)).1 == 0))).map (fun j => (k, j))
def rx_jump (mi a : Nat) : List rx_I := (rx_code mi).dropWhile (fun i => !(i.1 == a))
def rx_pc : List rx_I → Nat
  | [] => 0
  | i :: _ => i.1
def rx_nar : Option FieldType → Int32 → Prop
  | some .int, _ => True
  | some .boolean, v => v = 0 ∨ v = 1
  | _, _ => False
def rx_cat (st : List Value) : Bool := Nat.ble ((st.map fun v => v.category).sum) 8
/-- the cells of the world -/
def rx_sv (ad : Nat → Nat) (ini : List (Nat × Nat)) (P : List Nat) (f : Nat → Int32) (k j : Nat) (q : Nat × Nat) : Value :=
  match q.1 with
  | 0 => .int (f j)
  | 1 => cond (ini.contains (k, j)) .null (.ref (ad q.2))
  | _ => cond (ini.contains (k, j)) .null (.ref (ad (P.getD q.2 0)))
def rx_cell (tc : Nat → ClassId) (ad : Nat → Nat) (ini : List (Nat × Nat)) (P : List Nat) (σ : rx_St) (k : Nat) : va_E := match rx_lay k with
  | (0, ci, sl) => .inr (ci, sl.mapIdx (fun j q => rx_sv ad ini P (σ.1 k) k j q))
  | (2, n, _) => .inl (tc 2, n, .inr (.inl (σ.2 k)))
  | (t, n, _) => .inl (tc t, n, .inl (σ.1 k))
def rx_W (tc : Nat → ClassId) (ad : Nat → Nat) (X : rx_X) : va_W := (List.range X.1).map (fun k => (ad k, rx_cell tc ad X.2.2.2.1 X.2.2.2.2.1 X.2.2.2.2.2 k))
def rx_tys (tc : Nat → ClassId) : List (ClassId × FieldType) := [(tc 1, .int), (tc 2, .long), (tc 3, .boolean), (tc 4, .byte)]
def rx_conc (ad : Nat → Nat) : Value → Value
  | .ref k => .ref (ad k)
  | v => v
def rx_ws (mi : Nat) : List Cond := Cond.code (rx_y mi) (rx_b mi) (rx_ml mi) (rx_rt mi) :: rx_TS
def rx_rm (mi mc ms : Nat) : Room := { frames := rx_fr mi, cells := mc, slots := ms, locals := rx_lo mi }
def rx_NW (U : State) : Prop := ∀ q ∈ rx_nest, va_Nw (.methodLinkNest q.1 q.2.1 q.2.2 "MadeTown") U
/-- the same cells at the same places -/
def rx_ag (kc : Nat) (ad ad' : Nat → Nat) : Prop := ∀ q, q < kc ∨ 9000 ≤ q → ad' q = ad q
/-- the text constant that one constructor reads: an old cell, under the number 9998 -/
def rx_Str (ad : Nat → Nat) (A : Nat → Prop) (U : State) (H : Heap) : Prop := (∃ adV : Nat → Nat, vk_R "MadeTown$Tape" 28 rx_text (ad 9998) U ∧ vk_S 1 [rx_txt.length] [rx_txt.map Int32.ofNat] (fun _ => ad 9998) adV A U H) ∧ va_Z "java/lang/String" "COMPACT_STRINGS" "Z" (.int 1) A U H ∧ va_Zq "jdk/internal/util/Preconditions" "SIOOBE_FORMATTER" "Ljava/util/function/BiFunction;" A U H
theorem rx_Str.kept {ad : Nat → Nat} {A : Nat → Prop} {U : State} {H H1 : Heap} (h : rx_Str ad A U H) (hq : ∀ a : Nat, a < H.size → ¬ A a → H1[a]? = H[a]?) : rx_Str ad A U H1 := by
  obtain ⟨⟨adV, h1, h2⟩, h3, h4⟩ := h
  exact ⟨⟨adV, h1, h2.kept hq⟩, h3.kept hq, h4.kept hq⟩
theorem rx_Str.narrow {ad : Nat → Nat} {A B : Nat → Prop} {U : State} {H : Heap} (h : rx_Str ad A U H) (hAB : ∀ q, B q → A q) : rx_Str ad B U H := by
  obtain ⟨⟨adV, h1, h2⟩, h3, h4⟩ := h
  exact ⟨⟨adV, h1, h2.narrow hAB⟩, h3.narrow hAB, h4.narrow hAB⟩
theorem rx_Str.warm {ad : Nat → Nat} {A : Nat → Prop} {s U : State} {H : Heap} (hW : s.WarmedH U.vm) (h : rx_Str ad A s H) : rx_Str ad A U H := by
  obtain ⟨⟨adV, h1, h2⟩, h3, h4⟩ := h
  exact ⟨⟨adV, vk_R.warm hW h1, h2.moved hW.alike⟩, va_Z.moved hW.alike h3, va_Zq.moved hW.alike h4⟩
theorem rx_Str.same {ad : Nat → Nat} {A : Nat → Prop} {u U : State} {H : Heap} (hv : U.vm = u.vm) (h : rx_Str ad A u H) : rx_Str ad A U H := by
  obtain ⟨⟨adV, h1, h2⟩, h3, h4⟩ := h
  have hal : u.vm.Alike U.vm := by rw [hv]; exact Vm.Alike.refl _
  exact ⟨⟨adV, vk_R.same hv h1, h2.moved hal⟩, va_Z.moved hal h3, va_Zq.moved hal h4⟩
theorem rx_Str.ag {ad ad' : Nat → Nat} {A : Nat → Prop} {U : State} {H : Heap} (ha : ad' 9998 = ad 9998) (h : rx_Str ad A U H) : rx_Str ad' A U H := by
  unfold rx_Str
  rw [ha]
  exact h
/-- A METHOD'S CONTRACT: from args and X it returns out -/
def rx_OK (mi : Nat) (args : List Value) (kc : Nat) (ini : List (Nat × Nat)) (P : List Nat) (σ : rx_St) (out : rx_O) : Prop :=
  ∀ (l : Launch) (D : va_G) (tc : Nat → ClassId) (ad : Nat → Nat) (sz : Nat),
    Met l (rx_y mi) (rx_ws mi) (rx_rm mi out.2.2.1 out.2.2.2.1)
      (va_Pc (args.map (rx_conc ad)) (fun U => U.heap.size = sz ∧ va_P D rx_cl (rx_W tc ad (kc, 0, 0, ini, P, σ)) U.heap ∧ va_K D rx_cl (rx_tys tc) U ∧ va_D (fun _ => True) (rx_W tc ad (kc, 0, 0, ini, P, σ)) ∧ rx_NW U ∧ rx_Str ad (va_A (rx_W tc ad (kc, 0, 0, ini, P, σ)) sz) U U.heap))
      (fun _ st oc t => oc = .returned out.1 ∧ (∃ ad', rx_ag kc ad ad' ∧ va_P D rx_cl (rx_W tc ad' out.2) t.heap ∧ va_D (va_A (rx_W tc ad (kc, 0, 0, ini, P, σ)) sz) (rx_W tc ad' out.2)) ∧ va_F (va_A (rx_W tc ad (kc, 0, 0, ini, P, σ)) sz) st t)
      out.2.2.1 out.2.2.2.1 (va_A (rx_W tc ad (kc, 0, 0, ini, P, σ)) sz)
/-- a value's reference stays where it is when cells from kc on are made -/
def rx_old (kc : Nat) : Value → Bool
  | .ref r => Nat.blt r kc || Nat.ble 9000 r
  | _ => true
def rx_olds (kc : Nat) (L : rx_L) (st : List Value) : Bool := L.all (fun q => rx_old kc q.2) && st.all (rx_old kc)
def rx_nr : Option Value → Bool
  | some (.int _) => true
  | some (.long _) => true
  | none => true
  | _ => false
def rx_cl_ (K : rx_KT) (out : rx_O) (a : Nat) (args : List Value) (is : List rx_I) (L : rx_L) (st : List Value) (X : rx_X) : Prop :=
  ∃ (r : Option Value) (kc mc ms : Nat) (ini : List (Nat × Nat)) (P : List Nat) (σ : rx_St), rx_OK a args X.1 X.2.2.2.1 X.2.2.2.2.1 X.2.2.2.2.2 (r, kc, mc, ms, ini, P, σ) ∧ (rx_nr r = true ∧ X.1 ≤ kc ∧ X.2.1 + mc ≤ out.2.2.1 ∧ X.2.2.1 + ms ≤ out.2.2.2.1) ∧ K is L (r.toList ++ st) (kc, X.2.1 + mc, X.2.2.1 + ms, ini, P, σ)
def rx_call (K : rx_KT) (out : rx_O) (a : Nat) (args : List Value) (is : List rx_I) (L : rx_L) (st : List Value) (X : rx_X) : Prop := cond (rx_cat st && (Nat.blt a rx_NM && rx_olds X.1 L st)) (rx_cl_ K out a args is L st X) False
def rx_ld (K : rx_KT) (is : List rx_I) (L : rx_L) (st : List Value) (X : rx_X) (b : Nat) (ok : Value → Bool) : Prop := match rx_look L b with
  | some v => cond (ok v) (K is L (v :: st) X) False
  | none => False
def rx_isI : Value → Bool
  | .int _ => true
  | _ => false
def rx_isL : Value → Bool
  | .long _ => true
  | _ => false
def rx_isA : Value → Bool
  | .ref _ => true
  | _ => false
def rx_bin (f : Int32 → Int32 → Int32) (K : rx_KT) (is : List rx_I) (L : rx_L) (st : List Value) (X : rx_X) : Prop := match st with
  | .int y :: .int x :: st => K is L (.int (f x y) :: st) X
  | _ => False
def rx_binl (f : Int64 → Int64 → Int64) (K : rx_KT) (is : List rx_I) (L : rx_L) (st : List Value) (X : rx_X) : Prop := match st with
  | .long y :: .long x :: st => K is L (.long (f x y) :: st) X
  | _ => False
def rx_div (f : Int32 → Int32 → Int32) (K : rx_KT) (is : List rx_I) (L : rx_L) (st : List Value) (X : rx_X) : Prop := match st with
  | .int y :: .int x :: st => rx_ck (¬ y = 0) (K is L (.int (f x y) :: st) X)
  | _ => False
def rx_st1 (K : rx_KT) (is : List rx_I) (L : rx_L) (st : List Value) (X : rx_X) (b : Nat) (ok : Value → Bool) : Prop := match st with
  | v :: st => cond (ok v) (K is (rx_s1 L b v) st X) False
  | [] => False
def rx_st2 (K : rx_KT) (is : List rx_I) (L : rx_L) (st : List Value) (X : rx_X) (b : Nat) : Prop := match st with
  | .long v :: st => K is (rx_s2 L b (.long v)) st X
  | _ => False
/-- the places that hold the cell kc, of cells that are there, aren't written yet -/
def rx_free (kc : Nat) (ini : List (Nat × Nat)) (P : List Nat) : Bool := (rx_rev kc).all (fun q => Nat.ble kc q.1 || ini.contains q) && P.all (fun q => !(q == kc))
def rx_new (K : rx_KT) (out : rx_O) (is : List rx_I) (L : rx_L) (st : List Value) (X : rx_X) (a : Nat) : Prop := match X with
  | (kc, c, s, ini, P, σ) => match rx_lay kc with
    | (0, ci, sl) => cond (ci == a && (Nat.blt kc rx_NC && (rx_free kc ini P && rx_olds kc L st))) (rx_ck (c + 1 ≤ out.2.2.1 ∧ s + sl.length ≤ out.2.2.2.1) (K is L (.ref kc :: st) (kc + 1, c + 1, s + sl.length, ini ++ rx_refs kc sl, P, rx_z σ kc))) False
    | _ => False
def rx_newa (K : rx_KT) (out : rx_O) (is : List rx_I) (L : rx_L) (st : List Value) (X : rx_X) (a : Nat) : Prop := match X, st with
  | (kc, c, s, ini, P, σ), .int x :: st => match rx_lay kc with
    | (0, _, _) => False
    | (t, n, _) => cond (t == a && (Nat.blt kc rx_NC && (rx_free kc ini P && rx_olds kc L st))) (rx_ck (x = nI n ∧ c + 1 ≤ out.2.2.1 ∧ s + n ≤ out.2.2.2.1) (K is L (.ref kc :: st) (kc + 1, c + 1, s + n, ini, P, rx_z σ kc))) False
  | _, _ => False
def rx_isobj (X : rx_X) (k b : Nat) : Bool := cond (Nat.blt k X.1) (match rx_lay k with
    | (0, ci, _) => ci == b
    | _ => false) false
/-- what is not a plain instruction: text constants and their two methods (in one constructor), the law's setting -/
def rx_stepX (K : rx_KT) (out : rx_O) (is : List rx_I) (L : rx_L) (st : List Value) (X : rx_X) (a : Nat) : Prop := match a, st, X with
  | 9998, st, X => K is L (.ref 9998 :: st) X
  | 9001, .ref 9998 :: st, X => cond (rx_cat st) (rx_ck (X.2.1 ≤ out.2.2.1 ∧ X.2.2.1 ≤ out.2.2.2.1) (K is L (.int (Int32.ofNat rx_txt.length) :: st) X)) False
  | 9002, .int i :: .ref 9998 :: st, X => cond (rx_cat st) (rx_ck (X.2.1 ≤ out.2.2.1 ∧ X.2.2.1 ≤ out.2.2.2.1) (rx_ck (vp_in i rx_txt.length) (K is L (.int (nI (rx_txt.getD i.toNatClampNeg 0)) :: st) X))) False
  | 9003, .ref 161 :: .int i :: .ref 0 :: st, (162, c, s, [], P, σ) => cond (rx_cat st && rx_olds 162 L st) (rx_ck ((c + 1 ≤ out.2.2.1 ∧ s + 6 ≤ out.2.2.2.1) ∧ (P.getD 0 0 = 7 ∨ P.getD 0 0 = 21)) (rx_br (0 ≤ i ∧ i < σ.1 (P.getD 0 0) 0)
      (rx_ck (vp_in i 6) (K is L (.int 0 :: st) (162, c + 1, s + 6, [], P, rx_sl σ 161 0 (σ.1 39 i.toNatClampNeg).toInt64)))
      (K is L (.int 1 :: st) (162, c + 1, s + 6, [], P, σ)))) False
  | _, _, _ => False
def rx_step (S : rx_S) (K : rx_KT) (mi : Nat) (out : rx_O) (is : List rx_I) (L : rx_L) (st : List Value) (X : rx_X) : Prop := match is with
  | [] => False
  | (_, ins, _, a, b, x, y, sw, _) :: is => match ins with
    | .iconst _ | .bipush _ | .sipush _ => K is L (.int x :: st) X
    | .ldc _ | .ldc_w _ => cond (a == 0) (K is L (.int x :: st) X) (rx_stepX K out is L st X a)
    | .lconst _ | .ldc2_w _ => K is L (.long y :: st) X
    | .iload_n _ | .iload _ => rx_ld K is L st X b rx_isI
    | .lload_n _ | .lload _ => rx_ld K is L st X b rx_isL
    | .aload_n _ | .aload _ => rx_ld K is L st X b rx_isA
    | .istore_n _ | .istore _ => rx_st1 K is L st X b rx_isI
    | .astore_n _ | .astore _ => rx_st1 K is L st X b rx_isA
    | .lstore_n _ | .lstore _ => rx_st2 K is L st X b
    | .iinc _ _ => match rx_look L b with
      | some (.int v) => K is (rx_s1 L b (.int (v + x))) st X
      | _ => False
    | .iadd => rx_bin (fun u v => u + v) K is L st X
    | .isub => rx_bin (fun u v => u - v) K is L st X
    | .imul => rx_bin (fun u v => u * v) K is L st X
    | .iand => rx_bin (fun u v => u &&& v) K is L st X
    | .ior => rx_bin (fun u v => u ||| v) K is L st X
    | .ixor => rx_bin (fun u v => u ^^^ v) K is L st X
    | .ishl => rx_bin (fun u v => u <<< (v &&& 31)) K is L st X
    | .ishr => rx_bin (fun u v => u >>> (v &&& 31)) K is L st X
    | .iushr => rx_bin (fun u v => (u.toUInt32 >>> (v.toUInt32 &&& Int32.toUInt32 31)).toInt32) K is L st X
    | .idiv => rx_div (fun u v => u / v) K is L st X
    | .irem => rx_div (fun u v => u - u / v * v) K is L st X
    | .ladd => rx_binl (fun u v => u + v) K is L st X
    | .lsub => rx_binl (fun u v => u - v) K is L st X
    | .lmul => rx_binl (fun u v => u * v) K is L st X
    | .lrem => match st with
      | .long y :: .long x :: st => rx_ck (¬ y = 0) (K is L (.long (x - x / y * y) :: st) X)
      | _ => False
    | .lshl => match st with
      | .int y :: .long x :: st => K is L (.long (x <<< (y.toInt64 &&& 63)) :: st) X
      | _ => False
    | .lcmp => match st with
      | .long y :: .long x :: st => K is L (.int (lg_cmp x y) :: st) X
      | _ => False
    | .ineg => match st with
      | .int x :: st => K is L (.int (-x) :: st) X
      | _ => False
    | .i2l => match st with
      | .int x :: st => K is L (.long x.toInt64 :: st) X
      | _ => False
    | .l2i => match st with
      | .long x :: st => K is L (.int x.toInt32 :: st) X
      | _ => False
    | .i2b => match st with
      | .int x :: st => K is L (.int x.toInt8.toInt32 :: st) X
      | _ => False
    | .dup => match st with
      | v :: st => cond (v.category == 1) (K is L (v :: v :: st) X) False
      | _ => False
    | .dup2 => match st with
      | v :: w :: st => cond (v.category == 1 && w.category == 1) (K is L (v :: w :: v :: w :: st) X) False
      | _ => False
    | .pop => match st with
      | v :: st => cond (v.category == 1) (K is L st X) False
      | _ => False
    | .goto _ => K (rx_jump mi a) L st X
    | .if_icmp c _ => match st with
      | .int y :: .int x :: st => rx_brc c x y (K (rx_jump mi a) L st X) (K is L st X)
      | _ => False
    | .ifCond c _ => match st with
      | .int x :: st => rx_brc c x 0 (K (rx_jump mi a) L st X) (K is L st X)
      | _ => False
    | .tableswitch _ _ _ _ | .lookupswitch _ _ => match st with
      | .int x :: st => rx_sw x (K (rx_jump mi a) L st X) (fun t => K (rx_jump mi t) L st X) sw
      | _ => False
    | .getfield _ => match st with
      | .ref k :: st => match rx_slot X k a b with
        | some v => K is L (v :: st) X
        | none => False
      | _ => False
    | .putfield _ => match st with
      | v :: .ref k :: st => rx_put X k a b v (fun X => K is L st X)
      | _ => False
    | .iaload => match st with
      | .int i :: .ref k :: st => cond (k == 9999) (match S with
          | some q => rx_ck (vp_in i q.1) (K is L (.int (q.2.1 i.toNatClampNeg) :: st) X)
          | none => False) (match rx_arr X k with
          | some (1, n) => rx_ck (vp_in i n) (K is L (.int (X.2.2.2.2.2.1 k i.toNatClampNeg) :: st) X)
          | _ => False)
      | _ => False
    | .baload => match st with
      | .int i :: .ref k :: st => match rx_arr X k with
          | some (3, n) => rx_ck (vp_in i n) (K is L (.int (X.2.2.2.2.2.1 k i.toNatClampNeg) :: st) X)
          | some (4, n) => rx_ck (vp_in i n) (K is L (.int (X.2.2.2.2.2.1 k i.toNatClampNeg) :: st) X)
          | _ => False
      | _ => False
    | .laload => match st with
      | .int i :: .ref k :: st => match rx_arr X k with
          | some (2, n) => rx_ck (vp_in i n) (K is L (.long (X.2.2.2.2.2.2 k i.toNatClampNeg) :: st) X)
          | _ => False
      | _ => False
    | .iastore => match st with
      | .int v :: .int i :: .ref k :: st => match rx_arr X k with
          | some (1, n) => rx_ck (vp_in i n) (K is L st (rx_aset X k i v))
          | _ => False
      | _ => False
    | .bastore => match st with
      | .int v :: .int i :: .ref k :: st => match rx_arr X k with
          | some (3, n) => rx_ck (vp_in i n) (K is L st (rx_aset X k i (vp_nar .boolean v)))
          | some (4, n) => rx_ck (vp_in i n) (K is L st (rx_aset X k i (vp_nar .byte v)))
          | _ => False
      | _ => False
    | .lastore => match st with
      | .long v :: .int i :: .ref k :: st => match rx_arr X k with
          | some (2, n) => rx_ck (vp_in i n) (K is L st (rx_asetl X k i v))
          | _ => False
      | _ => False
    | .arraylength => match st with
      | .ref k :: st => cond (k == 9999) (match S with
          | some q => K is L (.int (Int32.ofNat q.1) :: st) X
          | none => False) (match rx_arr X k with
          | some (t, n) => cond (Nat.blt t 5) (K is L (.int (Int32.ofNat n) :: st) X) False
          | none => False)
      | _ => False
    | .new _ => rx_new K out is L st X a
    | .newarray _ => rx_newa K out is L st X a
    | .invokespecial _ => cond (a == 9000) (match st with
        | .ref _ :: st => cond (rx_cat st) (K is L st X) False
        | _ => False) (match st.drop (rx_np a) with
        | .ref k :: st' => rx_call K out a (.ref k :: (st.take (rx_np a)).reverse) is L st' X
        | _ => False)
    | .invokevirtual _ => cond (Nat.ble 9000 a) (rx_stepX K out is L st X a) (match st.drop (rx_np a) with
        | .ref k :: st' => cond (rx_isobj X k b) (rx_call K out a (.ref k :: (st.take (rx_np a)).reverse) is L st' X) False
        | _ => False)
    | .invokestatic _ => cond (Nat.ble 9000 a) (rx_stepX K out is L st X a) (cond (Nat.ble (rx_np a) st.length) (rx_call K out a ((st.take (rx_np a)).reverse) is L (st.drop (rx_np a)) X) False)
    | .ireturn => match st with
      | [.int v] => rx_nar (rx_rt mi) v ∧ out = (some (.int v), X)
      | _ => False
    | .lreturn => match st with
      | [.long v] => rx_rt mi = some .long ∧ out = (some (.long v), X)
      | _ => False
    | .return_ => match st with
      | [] => rx_rt mi = none ∧ out = (none, X)
      | _ => False
    | _ => False
