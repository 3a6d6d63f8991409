/-! Tape(): the text constant's two methods in it, and the loop that packs the words -/
theorem rr_callC {K : rx_KT} {out : rx_O} {r : Option Value} {kc c s kc' mc ms : Nat} {ini ini' : List (Nat × Nat)} {P P' : List Nat} {σ σ' : rx_St} {a : Nat} {args : List Value} {is : List rx_I} {L : rx_L} {st : List Value} (hok : rx_OK a args kc ini P σ (r, kc', mc, ms, ini', P', σ')) (hb : rx_nr r = true ∧ kc ≤ kc' ∧ c + mc ≤ out.2.2.1 ∧ s + ms ≤ out.2.2.2.1) (k : K is L (r.toList ++ st) (kc', c + mc, s + ms, ini', P', σ')) : rx_cl_ K out a args is L st (kc, c, s, ini, P, σ) :=
  ⟨r, kc', mc, ms, ini', P', σ', hok, hb, k⟩

set_option maxRecDepth 100000 in
theorem rt_mem {i : rx_I} (h : i ∈ rx_code 85) (hs : rx_spec i = true) : i = (57, .ldc 28, 2, 9998, 0, 0, 0, [], 0) ∨ i = (59, .invokevirtual 30, 3, 9001, 0, 0, 0, [], 148) ∨ i = (65, .ldc 28, 2, 9998, 0, 0, 0, [], 0) ∨ i = (69, .invokevirtual 36, 3, 9002, 0, 0, 0, [], 158) := by
  have h2 : i ∈ (rx_code 85).filter rx_spec := List.mem_filter.mpr ⟨h, hs⟩
  rw [show (rx_code 85).filter rx_spec = [(57, .ldc 28, 2, 9998, 0, 0, 0, [], 0), (59, .invokevirtual 30, 3, 9001, 0, 0, 0, [], 148), (65, .ldc 28, 2, 9998, 0, 0, 0, [], 0), (69, .invokevirtual 36, 3, 9002, 0, 0, 0, [], 158)] from rfl] at h2
  simp only [List.mem_cons, List.not_mem_nil, or_false] at h2
  exact h2
theorem rt_go {S : rx_S} {K : rx_KT} {mi : Nat} {out : rx_O} {is : List rx_I} {L : rx_L} {rest : List Value} {X : rx_X} {pc : Nat} {stk : List Value} {r : Int32}
    (hK : ∀ is L st X, K is L st X → (∃ pre, rx_code mi = pre ++ is) → rx_At S mi is L st X out) (hpc : ∀ L st X, K is L st X → rx_pc is = pc + 3) (hs2 : ∃ pre, rx_code mi = pre ++ is)
    {p : Program} {l : Launch} {e : Env} {R : Room} {s : State} {m : MethodId} {args : Array Value} {below : List Frame} {meth : Method} {c : Code} {D : va_G} {tc : Nat → ClassId} {ad : Nat → Nat} {H0 : Heap} {A : Nat → Prop} {Q : State → Prop} {H : Heap} {locs : List Loc} {ls : Array Slot}
    (cx : rx_Cx S mi p l R s m args meth c D tc ad H0 A) (hc : out.2.2.1 ≤ R.cells ∧ out.2.2.2.1 ≤ R.slots) (hP : va_P D rx_cl (rx_W tc ad X) H) (hD : va_D A (rx_W tc ad X)) (hS : va_S A H0 H locs) (hl : lv_has ls (rx_ml mi) (rx_lc ad L)) (hr : rx_Back mi p l e R s m args below meth c D tc H0 A Q X.1 ad out)
    {y : MethodName} {b : ByteArray} {ml : Nat} {rt : Option FieldType} {fr lo : Nat} {as : List Value} {q v : Nat} (hM : rs_Met l y b ml rt fr lo as q v (some (.int r))) (hF : rs_F q v A s H0) (h : K is L (.int r :: rest) X)
    (run : ∀ (Pc : Array Value → State → Prop) (Qc : Array Value → State → Outcome → State → Prop) (free : Addr → Prop), Met l y (Cond.code y b ml rt :: rx_TS) (rs_rm fr lo) Pc Qc 0 0 free → PreS s H Pc as → va_Run p l e R s m args below meth c H locs X.2.1 X.2.2.1 0 0 (F0 m pc ls stk) (rest.map (rx_conc ad)) (Qc as.toArray) free) : W p l e R s m args below meth c H locs X.2.1 X.2.2.1 Q (F0 m pc ls stk) := by
  have hA := cx.2.2.2.2.2.2.2.2.1
  refine rx_run_go (run _ _ _ (hM H.size) ⟨fun a U g mk q => ?_, fun U hU hW => ⟨rfl, by rw [hU], ?_⟩⟩) (fun r' st₀ t H' Ls h0 ht hLs hq => ?_)
  · obtain ⟨q0, q1, q2⟩ := q
    exact ⟨q0, q1, rs_F.moved (u := U) (U := U.calling g mk a) (Vm.Alike.refl U.vm) q2⟩
  · rw [hU]
    exact rs_F.moved hW.alike ((hF.kept hS.2.1).narrow (fun z hz => hA z (Nat.le_trans hS.1 hz)))
  · obtain ⟨hv, hF2⟩ := hq
    cases hv
    have hHF : st₀.heap.size ≤ t.heap.size ∧ ∀ q : Nat, q < st₀.heap.size → ¬ H.size ≤ q → t.heap[q]? = st₀.heap[q]? := hF2
    rw [h0, ht] at hHF
    have hS' : va_S A H0 H' (locs ++ Ls) := ⟨Nat.le_trans hS.1 hHF.1, fun q h1 h2 => by
      rw [hHF.2 q (Nat.lt_of_lt_of_le h1 hS.1) (Nat.not_le.mpr (Nat.lt_of_lt_of_le h1 hS.1))]
      exact hS.2.1 q h1 h2, fun q hq => by
      rcases List.mem_append.mp hq with h | h
      · exact hS.2.2 q h
      · exact hA _ (Nat.le_trans hS.1 (hLs q h))⟩
    have hP' : va_P D rx_cl (rx_W tc ad X) H' := hP.kept (fun k q hk => hHF.2 q.1 (hP k q hk).lt (Nat.not_le.mpr (hP k q hk).lt))
    have := hK is L (.int r :: rest) X h hs2 p l e R s m args below meth c D tc ad H0 A Q H' (locs ++ Ls) ls cx hc hP' hD hS' hl hr
    rw [hpc _ _ _ h] at this
    exact this
set_option maxRecDepth 100000 in
set_option maxHeartbeats 4000000 in
theorem rx_e85 : rx_Ext none 85 := by
  intro K out hK hK0 i is L st X hpre hsp h
  obtain ⟨pre, hpre⟩ := hpre
  have hmem : i ∈ rx_code 85 := by rw [hpre]; exact List.mem_append_right _ List.mem_cons_self
  have hn : is = [] ∨ rx_pc is = i.1 + i.2.2.1 := rx_chain_next (i := i) (rx_chain_app (a := pre) (by rw [← hpre]; exact (rx_okI (by decide)).1))
  have hs2 : ∃ pre, rx_code 85 = pre ++ is := ⟨pre ++ [i], by rw [hpre, List.append_assoc]; rfl⟩
  have h4 := rt_mem hmem hsp
  have hi := (rx_okI (mi := 85) (by decide)).2 _ hmem
  clear hmem hpre hsp
  intro p l e R s m args below meth c D tc ad H0 A Q H locs ls cx hc hP hD hS hl hr
  obtain ⟨hx, hb, hml, ho, hts, hnw, hk, hfl, hA, hin, hstr, hsc⟩ := id cx
  have hi1 := (Bool.and_eq_true_iff.mp hi).1
  obtain ⟨v, hF⟩ := rs_of hstr
  obtain ⟨f1, f2, f3, f4, f5, f6⟩ := id hF
  have hld : ∀ {pc : Nat}, decode (rx_b 85) pc = .ok (.ldc 28, 2) → rx_pc is = pc + 2 → K is L (.ref 9998 :: st) X → W p l e R s m args below meth c H locs X.2.1 X.2.2.1 Q (F0 m pc ls (st.map (rx_conc ad))) := by
    intro pc hd hpc h'
    obtain ⟨⟨adV, r1, r2⟩, r3, r4⟩ := hstr
    refine va_ldcS hx hb ho r1 hd ?_
    have := hK is L (.ref 9998 :: st) X h' hs2 p l e R s m args below meth c D tc ad H0 A Q H locs ls cx hc hP hD hS hl hr
    rw [hpc] at this
    exact this
  rcases h4 with rfl | rfl | rfl | rfl
  · have h' : K is L (.ref 9998 :: st) X := h
    exact hld (of_decide_eq_true hi1) (hn.resolve_left (fun e => hK0 L _ X (e ▸ h'))) h'
  · have hd9 : decode (rx_b 85) 59 = .ok (.invokevirtual 30, 3) := of_decide_eq_true hi1
    have h' : (match (generalizing := false) st, X with
      | .ref 9998 :: st, X => cond (rx_cat st) (rx_ck (X.2.1 ≤ out.2.2.1 ∧ X.2.2.1 ≤ out.2.2.2.1) (K is L (.int (Int32.ofNat rx_txt.length) :: st) X)) False
      | _, _ => False) := by
      unfold rx_stepX at h
      split at h <;> first | exact h.elim | skip
      all_goals first | (rename_i e1; cases e1; done) | exact h
    split at h'
    · rename_i st' X
      obtain ⟨hcat, hc0, h3⟩ := rx_cond_t h'
      refine rt_go hK (fun L2 st2 X2 hk2 => hn.resolve_left (fun e => hK0 L2 st2 X2 (e ▸ hk2))) hs2 cx hc hP hD hS hl hr (rs_length l (ad 9998) v) hF h3 (fun Pc Qc free hM hp => va_runV (Ts := rx_TS) (As := []) ⟨hx, hb, hml, ho, hts⟩ hM (cwV (C := "java/lang/String") 0 hts (fun w hw => by
    have hm : w ∈ rx_TS := by
      rcases List.mem_append.mp hw with hw | hw
      · simp only [List.mem_cons, List.not_mem_nil, or_false] at hw
        rcases hw with rfl | rfl | rfl | rfl
        · exact rx_w_in (i := 148) (by decide +kernel)
        · exact rx_w_in (i := 149) (by decide +kernel)
        · exact rx_w_in (i := 150) (by decide +kernel)
        · exact rx_w_in (i := 112) (by decide +kernel)
      · rcases List.mem_cons.mp hw with rfl | hw
        · exact List.mem_filter.mpr ⟨rx_in1 (List.mem_of_getElem? (i := 42) rfl), rfl⟩
        · exact hw
    exact ⟨hm, rx_TS_good hm⟩) rfl rfl rfl (by decide +kernel) ⟨Nat.le_trans (Nat.le_of_ble_eq_true rfl) hfl.1, Nat.le_trans (Nat.le_of_ble_eq_true rfl) hfl.2⟩) ⟨hp.1, (by obtain ⟨cell, g1, g2, g3, -⟩ := f1.kept hS.2.1; exact ⟨cell, g1, g2, g3⟩), hp.2⟩ rfl rfl hl.1 rfl (lv_room (by rw [rx_cat_map]; exact Nat.le_of_ble_eq_true hcat)) hd9 ⟨Nat.le_trans hc0.1 hc.1, Nat.le_trans hc0.2 hc.2⟩)
    · exact h'.elim
  · have h' : K is L (.ref 9998 :: st) X := h
    exact hld (of_decide_eq_true hi1) (hn.resolve_left (fun e => hK0 L _ X (e ▸ h'))) h'
  · have hd9 : decode (rx_b 85) 69 = .ok (.invokevirtual 36, 3) := of_decide_eq_true hi1
    have h' : (match (generalizing := false) st, X with
      | .int i :: .ref 9998 :: st, X => cond (rx_cat st) (rx_ck (X.2.1 ≤ out.2.2.1 ∧ X.2.2.1 ≤ out.2.2.2.1) (rx_ck (vp_in i rx_txt.length) (K is L (.int (nI (rx_txt.getD i.toNatClampNeg 0)) :: st) X))) False
      | _, _ => False) := by
      unfold rx_stepX at h
      split at h <;> first | exact h.elim | skip
      all_goals first | (rename_i e1; cases e1; done) | exact h
    split at h'
    · rename_i X0 iv st'
      obtain ⟨hcat, hc0, hvi, h3⟩ := rx_cond_t h'
      refine rt_go hK (fun L2 st2 X2 hk2 => hn.resolve_left (fun e => hK0 L2 st2 X2 (e ▸ hk2))) hs2 cx hc hP hD hS hl hr (rs_charAt l (ad 9998) v iv hvi) hF h3 (fun Pc Qc free hM hp => va_runV (Ts := rx_TS) (As := [.int iv]) ⟨hx, hb, hml, ho, hts⟩ hM (cwV (C := "java/lang/String") 1 hts (fun w hw => by
    have hm : w ∈ rx_TS := by
      rcases List.mem_append.mp hw with hw | hw
      · simp only [List.mem_cons, List.not_mem_nil, or_false] at hw
        rcases hw with rfl | rfl | rfl | rfl
        · exact rx_w_in (i := 158) (by decide +kernel)
        · exact rx_w_in (i := 159) (by decide +kernel)
        · exact rx_w_in (i := 160) (by decide +kernel)
        · exact rx_w_in (i := 112) (by decide +kernel)
      · rcases List.mem_cons.mp hw with rfl | hw
        · exact List.mem_filter.mpr ⟨rx_in1 (List.mem_of_getElem? (i := 52) rfl), rfl⟩
        · exact hw
    exact ⟨hm, rx_TS_good hm⟩) rfl rfl rfl (by decide +kernel) ⟨Nat.le_trans (Nat.le_of_ble_eq_true rfl) hfl.1, Nat.le_trans (Nat.le_of_ble_eq_true rfl) hfl.2⟩) ⟨hp.1, (by obtain ⟨cell, g1, g2, g3, -⟩ := f1.kept hS.2.1; exact ⟨cell, g1, g2, g3⟩), hp.2⟩ rfl rfl hl.1 rfl (lv_room (by rw [rx_cat_map]; exact Nat.le_of_ble_eq_true hcat)) hd9 ⟨Nat.le_trans hc0.1 hc.1, Nat.le_trans hc0.2 hc.2⟩)
    · exact h'.elim
/-! the loop -/
def f_tap_init_55 : Nat → Int32 → Int64 → Int32 → rx_St → Option rx_St
  | 0, _, _, _, _ => none
  | n + 1, v1, v2, v4, σ =>
    if Int32.ofNat rx_txt.length ≤ v4 then some σ
    else rx_g v4 rx_txt.length (
      if nI (rx_txt.getD v4.toNatClampNeg 0) = (32 : Int32) then
        if (23 : Int32) ≤ v1 then f_tap_init_55 n v1 v2 (v4 + (1 : Int32)) σ
        else rx_g v1 23 (f_tap_init_55 n (v1 + (1 : Int32)) (0 : Int64) (v4 + (1 : Int32)) (rx_sl σ 6 v1.toNatClampNeg v2))
      else f_tap_init_55 n v1 (f_tap_pack v2 (nI (rx_txt.getD v4.toNatClampNeg 0))) (v4 + (1 : Int32)) σ)
set_option maxRecDepth 100000 in
set_option maxHeartbeats 4000000 in
theorem f_tap_pack_okc {ini : List (Nat × Nat)} {P : List Nat} {σ : rx_St} {a0 : Int64} {a1 : Int32} : ∀ o, f_tap_pack a0 a1 = o → rx_OK 86 [.long a0, .int a1] 7 ini P σ (some (.long o), (7, 0, 0, ini, P, σ)) := by
  intro o h
  refine rx_OK_of (by decide) (Nat.le_of_ble_eq_true rfl) ?_
  refine rx_walk [] 2000 (by decide) rx_e86 ?_
  unfold f_tap_pack at h
  cases h
  exact And.intro (rfl) rfl
set_option maxRecDepth 100000 in
set_option maxHeartbeats 4000000 in
theorem f_tap_init_55_ok {P : List Nat} {o : rx_St} : ∀ (n : Nat) (v1 : Int32) (v2 : Int64) (v4 : Int32) (σ : rx_St), f_tap_init_55 n v1 v2 v4 σ = some o → rx_AtP none 85 55 [(0, .ref 1), (1, .int v1), (2, .long v2), (4, .int v4)] [] (7, 5, 3529, [(0, 0), (0, 1), (0, 2), (0, 3), (0, 4), (0, 6), (0, 7), (0, 8), (0, 9), (0, 10), (0, 11), (0, 12)], P, σ) (none, 7, 5, 3529, [(0, 0), (0, 1), (0, 2), (0, 3), (0, 4), (0, 6), (0, 7), (0, 8), (0, 9), (0, 10), (0, 11), (0, 12)], P, o) := by
  intro n
  induction n with
  | zero => intro _ _ _ _ h; cases h
  | succ n ih =>
  intro v1 v2 v4 σ h
  refine rx_walk [55] 2000 (by decide) rx_e85 ?_
  rw [f_tap_init_55] at h
  refine rr_ck ⟨Nat.le_refl _, Nat.le_refl _⟩ ?_
  refine rr_if h (fun c6 h => ?_) (fun c6 h => ?_)
  · cases h
    exact And.intro rfl rfl
  · refine rr_ck ⟨Nat.le_refl _, Nat.le_refl _⟩ ?_
    refine rr_g h (fun g1 h => ?_)
    refine rr_if h (fun c7 h => ?_) (fun c7 h => ?_)
    · refine rr_if h (fun c8 h => ?_) (fun c8 h => ?_)
      · exact rx_sub (ih _ _ _ _ h) [2, 3, 4, 0] rfl
      · refine rr_g h (fun g2 h => ?_)
        exact rx_sub (ih _ _ _ _ h) [4, 2, 1, 0] rfl
    · refine rr_callC (f_tap_pack_okc _ rfl) ⟨rfl, Nat.le_refl _, Nat.le_refl _, Nat.le_refl _⟩ ?_
      exact rx_sub (ih _ _ _ _ h) [3, 4, 1, 0] rfl
def rt_g : Nat → Int32 → Int64 → Int32 → Option (List (Nat × Int64))
  | 0, _, _, _ => none
  | n + 1, v1, v2, v4 =>
    if Int32.ofNat rx_txt.length ≤ v4 then some []
    else rx_g v4 rx_txt.length (
      if nI (rx_txt.getD v4.toNatClampNeg 0) = (32 : Int32) then
        if (23 : Int32) ≤ v1 then rt_g n v1 v2 (v4 + (1 : Int32))
        else rx_g v1 23 ((rt_g n (v1 + (1 : Int32)) (0 : Int64) (v4 + (1 : Int32))).map (fun l => (v1.toNatClampNeg, v2) :: l))
      else rt_g n v1 (f_tap_pack v2 (nI (rx_txt.getD v4.toNatClampNeg 0))) (v4 + (1 : Int32)))
def rt_put (σ : rx_St) : List (Nat × Int64) → rx_St
  | [] => σ
  | q :: l => rt_put (rx_sl σ 6 q.1 q.2) l
theorem rt_eq : ∀ (n : Nat) (v1 : Int32) (v2 : Int64) (v4 : Int32) (σ : rx_St), f_tap_init_55 n v1 v2 v4 σ = (rt_g n v1 v2 v4).map (rt_put σ) := by
  intro n
  induction n with
  | zero => intro _ _ _ _; rfl
  | succ n ih =>
    intro v1 v2 v4 σ
    rw [f_tap_init_55, rt_g]
    by_cases c1 : Int32.ofNat rx_txt.length ≤ v4
    · rw [if_pos c1, if_pos c1]; rfl
    · rw [if_neg c1, if_neg c1]
      unfold rx_g
      by_cases c2 : v4 < 0 ∨ rx_txt.length ≤ v4.toNatClampNeg
      · rw [if_pos c2, if_pos c2]; rfl
      · rw [if_neg c2, if_neg c2]
        by_cases c3 : nI (rx_txt.getD v4.toNatClampNeg 0) = (32 : Int32)
        · rw [if_pos c3, if_pos c3]
          by_cases c4 : (23 : Int32) ≤ v1
          · rw [if_pos c4, if_pos c4]; exact ih _ _ _ _
          · rw [if_neg c4, if_neg c4]
            by_cases c5 : v1 < 0 ∨ 23 ≤ v1.toNatClampNeg
            · rw [if_pos c5, if_pos c5]; rfl
            · rw [if_neg c5, if_neg c5, ih, Option.map_map]; rfl
        · rw [if_neg c3, if_neg c3]; exact ih _ _ _ _
/-- the words, packed -/
def rt_wl : List (Nat × Int64) := [(0, 19636), (1, 370116), (2, 5572), (3, 8243), (4, 642894004), (5, 611717), (6, 294), (7, 1156), (8, 239), (9, 239301), (10, 655), (11, 463922), (12, 533611), (13, 578868), (14, 498), (15, 1476), (16, 14836), (17, 664683), (18, 267845), (19, 17171557), (20, 12788), (21, 20141), (22, 1420)]
set_option maxRecDepth 100000 in
theorem rt_words : rt_g rx_fu 0 0 0 = some rt_wl := by decide +kernel
def f_tap_init_0 (σ : rx_St) : rx_St := rt_put (rx_z (rx_z (rx_z (rx_z (rx_z σ 2) 3) 4) 5) 6) rt_wl
set_option maxRecDepth 1000000 in
set_option maxHeartbeats 16000000 in
theorem f_tap_init_0_ok (σ : rx_St) : rx_OK 85 [.ref 1] 2 [(0, 0), (0, 1), (0, 2), (0, 3), (0, 4), (0, 6), (0, 7), (0, 8), (0, 9), (0, 10), (0, 11), (0, 12), (1, 0), (1, 2), (1, 3), (1, 4), (1, 6)] [8000, 8000, 8000, 8000, 8000] σ (none, 7, 5, 3529, [(0, 0), (0, 1), (0, 2), (0, 3), (0, 4), (0, 6), (0, 7), (0, 8), (0, 9), (0, 10), (0, 11), (0, 12)], [8000, 8000, 8000, 8000, 8000], f_tap_init_0 σ) := by
  have h : f_tap_init_55 rx_fu 0 0 0 (rx_z (rx_z (rx_z (rx_z (rx_z σ 2) 3) 4) 5) 6) = some (f_tap_init_0 σ) := by
    rw [rt_eq, rt_words]; rfl
  refine rx_OK_of (by decide) (Nat.le_of_ble_eq_true rfl) ?_
  refine rx_walk [55] 3000 (by decide) rx_e85 ?_
  refine rr_ck ⟨rfl, Nat.le_of_ble_eq_true rfl, Nat.le_of_ble_eq_true rfl⟩ ?_
  refine rr_ck ⟨rfl, Nat.le_of_ble_eq_true rfl, Nat.le_of_ble_eq_true rfl⟩ ?_
  refine rr_ck ⟨rfl, Nat.le_of_ble_eq_true rfl, Nat.le_of_ble_eq_true rfl⟩ ?_
  refine rr_ck ⟨rfl, Nat.le_of_ble_eq_true rfl, Nat.le_of_ble_eq_true rfl⟩ ?_
  refine rr_ck ⟨rfl, Nat.le_of_ble_eq_true rfl, Nat.le_of_ble_eq_true rfl⟩ ?_
  exact rx_sub (f_tap_init_55_ok rx_fu _ _ _ _ h) [3, 2, 1, 0] rfl
