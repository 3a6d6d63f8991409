/-! THE CHECKS: what the tables say of this program, decided once -/
/-- words: those that a callee may ask for -/
def rx_TS : List Cond := lw_tbl.filter goodWord
def rx_w (i : Nat) (w : Cond) : Bool := decide (lw_tbl[i]? = some w) && goodWord w
theorem rx_w_in {i : Nat} {w : Cond} (h : rx_w i w = true) : w ∈ rx_TS := by
  unfold rx_w at h
  rw [Bool.and_eq_true, decide_eq_true_eq] at h
  exact List.mem_filter.mpr ⟨List.mem_of_getElem? h.1, h.2⟩
def rx_chain : List rx_I → Bool
  | [] => true
  | i :: l => (match l with
    | [] => true
    | j :: _ => i.1 + i.2.2.1 == j.1) && rx_chain l
def rx_off (pc : Nat) (off : Int) (a : Nat) : Bool := decide ((pc : Int) + off = (a : Int))
def rx_own (mi : Nat) : String := (rx_y mi).cls
def rx_swT (pc : Nat) : Nat → List Int → List (Int32 × Nat) → Bool
  | _, [], [] => true
  | lo, o :: os, q :: r => decide (nI lo = q.1) && (rx_off pc o q.2 && rx_swT pc (lo + 1) os r)
  | _, _, _ => false
def rx_swL (pc : Nat) : List (Int × Int) → List (Int32 × Nat) → Bool
  | [], [] => true
  | o :: os, q :: r => decide (0 ≤ o.1 ∧ o.1 < 10000 ∧ nI o.1.toNat = q.1) && (rx_off pc o.2 q.2 && rx_swL pc os r)
  | _, _ => false
def rx_room (mi a : Nat) : Bool := Nat.ble (rx_fr a + 1) (rx_fr mi) && Nat.ble (8 + (rx_ml a + 11) + rx_lo a) (rx_lo mi)
def rx_chkI (mi : Nat) (i : rx_I) : Bool :=
  decide (decode (rx_b mi) i.1 = .ok (i.2.1, i.2.2.1)) && (match i with
  | (pc, ins, len, a, b, x, y, sw, w) => match ins with
    | .iconst n => len == 1 && decide (Int32.ofInt n = x)
    | .bipush n => len == 2 && decide ((Int8.ofInt n).toInt32 = x)
    | .sipush n => len == 3 && decide ((Int16.ofInt n).toInt32 = x)
    | .ldc k => len == 2 && (!(a == 0) || rx_w w (.constant (rx_own mi) k x))
    | .ldc_w k => len == 3 && (!(a == 0) || rx_w w (.constant (rx_own mi) k x))
    | .lconst n => len == 1 && decide (Int64.ofNat (n : Nat) = y)
    | .ldc2_w k => len == 3 && rx_w w (.constantLong (rx_own mi) k y)
    | .iload_n k => len == 1 && (k : Nat) == b
    | .lload_n k => len == 1 && (k : Nat) == b
    | .aload_n k => len == 1 && (k : Nat) == b
    | .iload k => len == 2 && k == b
    | .lload k => len == 2 && k == b
    | .aload k => len == 2 && k == b
    | .istore_n k => len == 1 && ((k : Nat) == b && Nat.blt b (rx_ml mi))
    | .astore_n k => len == 1 && ((k : Nat) == b && Nat.blt b (rx_ml mi))
    | .lstore_n k => len == 1 && ((k : Nat) == b && Nat.blt (b + 1) (rx_ml mi))
    | .istore k => len == 2 && (k == b && Nat.blt b (rx_ml mi))
    | .astore k => len == 2 && (k == b && Nat.blt b (rx_ml mi))
    | .lstore k => len == 2 && (k == b && Nat.blt (b + 1) (rx_ml mi))
    | .iinc k n => len == 3 && (k == b && (Nat.blt b (rx_ml mi) && decide (Int32.ofInt n = x)))
    | .iadd | .isub | .imul | .iand | .ior | .ixor | .ishl | .ishr | .iushr | .idiv | .irem => len == 1
    | .ladd | .lsub | .lmul | .lrem | .lshl | .lcmp | .ineg | .i2l | .l2i | .i2b | .dup | .dup2 | .pop => len == 1
    | .iaload | .baload | .laload | .iastore | .bastore | .lastore | .arraylength | .ireturn | .lreturn | .return_ => len == 1
    | .goto off => len == 3 && rx_off pc off a
    | .if_icmp _ off => len == 3 && rx_off pc off a
    | .ifCond _ off => len == 3 && rx_off pc off a
    | .tableswitch d lo hi offs => decide (0 ≤ lo ∧ hi < 10000 ∧ (offs.size : Int) = hi - lo + 1) && (rx_off pc d a && rx_swT pc lo.toNat offs.toList sw)
    | .lookupswitch d ps => (ps.toList.zip (ps.toList.drop 1)).all (fun (a, next) => a.1 < next.1) && (rx_off pc d a && rx_swL pc ps.toList sw)
    | .getfield k => len == 3 && (Nat.blt a 13 && (Nat.blt b (rx_N a) && rx_w w (.fieldLink (rx_own mi) k (rx_T a b).1 (rx_T a b).2.1 (rx_T a b).2.2.1)))
    | .putfield k => len == 3 && (Nat.blt a 13 && (Nat.blt b (rx_N a) && (rx_w w (.fieldLink (rx_own mi) k (rx_T a b).1 (rx_T a b).2.1 (rx_T a b).2.2.1) && (!(rx_T a b).2.2.2 || decide ((rx_y mi).name = "<init>" ∧ (rx_T a b).1 = rx_own mi)))))
    | .new k => len == 3 && (!(Nat.blt a 13) || rx_w w (.classLink (rx_own mi) k (rx_R.getD a "")))
    | .newarray t => len == 2 && (rx_w w (.arrayClass (newarray.typeOf t)) && decide ((a = 1 ∧ t = .int) ∨ (a = 2 ∧ t = .long) ∨ (a = 3 ∧ t = .boolean) ∨ (a = 4 ∧ t = .byte)))
    | .invokespecial k => len == 3 && (cond (a == 9000) (rx_w w (.methodLink (rx_own mi) k Lib.objectInit) && (Nat.ble 1 (rx_fr mi) && Nat.ble 20 (rx_lo mi)))
        (!(Nat.blt a rx_NM) || (rx_room mi a && (!(rx_sta a) && (decide ((rx_y a).name = "<init>" ∧ rx_rt a = none) && cond (b == 0) (rx_w w (.methodLink (rx_own mi) k (rx_y a))) (decide ((rx_own mi, k, rx_y a) ∈ rx_nest)))))))
    | .invokevirtual k => len == 3 && (!(Nat.blt a rx_NM) || (rx_room mi a && (!(rx_sta a) && (decide (¬ (rx_y a).name = "<init>" ∧ rx_R[b]? = some (rx_y a).cls) && rx_w w (.methodLink (rx_own mi) k (rx_y a))))))
    | .invokestatic k => len == 3 && (!(Nat.blt a rx_NM) || (rx_room mi a && (rx_sta a && cond (b == 0) (rx_w w (.methodLink (rx_own mi) k (rx_y a))) (decide ((rx_own mi, k, rx_y a) ∈ rx_nest)))))
    | _ => true)
def rx_chkM (mi : Nat) : Bool := plainFor (rx_y mi) && (decide ((rx_y mi).cls ≠ "java/lang/invoke/MethodHandle" ∧ (rx_y mi).cls ≠ "java/lang/invoke/VarHandle") &&
  (decide ((parseMethodDescriptor (rx_y mi).desc).map (fun d => d.parameters.length) = some (rx_np mi)) && (rx_w (rx_m mi).2.2.2.2.2.2.2.2.2.2 (.initialized (rx_y mi).cls) &&
  cond (rx_sta mi) (rx_w (rx_m mi).2.2.2.2.2.2.2.2.1 (.static (rx_y mi))) (rx_w (rx_m mi).2.2.2.2.2.2.2.2.1 (.instanceMethod (rx_y mi)) && (decide ((rx_y mi).name = "<init>") || rx_w (rx_m mi).2.2.2.2.2.2.2.2.2.1 (.selects (rx_y mi).cls (rx_y mi) (rx_y mi)))))))
def rx_chkC (ci : Nat) : Bool := (List.range (rx_N ci)).all (fun k => rx_w ((rx_lp[ci]?.getD [])[k]?.getD 0) (u_lay (rx_R.getD ci "") (rx_T ci) k) && (decide (parseFieldDescriptor (rx_T ci k).2.2.1 = some (rx_ty ci k)) && (List.range (rx_N ci)).all (fun j => j == k || decide ((rx_T ci k).2.1 ≠ (rx_T ci j).2.1)))) &&
  (ci == 4 || (rx_w (rx_ip.getD ci 0) (.instantiable (rx_R.getD ci "") (rx_N ci)) && rx_w (rx_jp.getD ci 0) (.initialized (rx_R.getD ci ""))))
set_option maxRecDepth 100000 in
theorem rx_okC : (List.range 13).all rx_chkC = true := by decide +kernel
set_option maxRecDepth 100000 in
theorem rx_okM1 : (List.range 259).all rx_chkM = true := by decide +kernel
theorem rx_okM2 : rx_chkM 259 = true := by decide +kernel
theorem rx_okM3 : rx_chkM 260 = true := by decide +kernel
theorem rx_okM4 : rx_chkM 261 = true := by decide +kernel
theorem rx_okM5 : rx_chkM 262 = true := by decide +kernel
theorem rx_okM {mi : Nat} (h : mi < 263) : rx_chkM mi = true := by
  by_cases h1 : mi < 259
  · exact List.all_eq_true.mp rx_okM1 mi (List.mem_range.mpr h1)
  · rcases (show mi = 259 ∨ mi = 260 ∨ mi = 261 ∨ mi = 262 by omega) with rfl | rfl | rfl | rfl
    · exact rx_okM2
    · exact rx_okM3
    · exact rx_okM4
    · exact rx_okM5
/-- the layout: kinds, sizes; a place's type; who holds whom -/
def rx_chkL (k : Nat) : Bool := match rx_lay k with
  | (0, ci, sl) => Nat.blt ci 13 && (!(ci == 4) && (sl.length == rx_N ci && ((List.range sl.length).all (fun j => match (sl[j]?.getD (0, 0)) with
    | (0, 0) => decide (rx_ty ci j = .int)
    | (0, _) => decide (rx_ty ci j = .boolean)
    | (1, r) => (match rx_ty ci j with
      | .object _ => true
      | .array _ => true
      | _ => false) && ((rx_rev r).contains (k, j) && Nat.blt r rx_NC)
    | (2, r) => (match rx_ty ci j with
      | .object _ => true
      | _ => false) && decide (rx_pt[r]? = some (k, j))
    | _ => false))))
  | (t, n, _) => Nat.ble 1 t && (Nat.ble t 4 && Nat.blt n 100000)
set_option maxRecDepth 100000 in
theorem rx_okL : (List.range rx_NC).all rx_chkL = true := by decide +kernel
