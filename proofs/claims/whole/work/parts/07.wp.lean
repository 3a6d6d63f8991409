/-! WALKS: from a place of a method to its end or to the next cut; a method's contract out of the walk from its entry -/
def rx_AtP (S : rx_S) (mi pc : Nat) (L : rx_L) (st : List Value) (X : rx_X) (out : rx_O) : Prop :=
  ∀ (p : Program) (l : Launch) (e : Env) (R : Room) (s : State) (m : MethodId) (args : Array Value) (below : List Frame) (meth : Method) (c : Code) (D : va_G) (tc : Nat → ClassId) (ad : Nat → Nat) (H0 : Heap) (A : Nat → Prop) (Q : State → Prop) (H : Heap) (locs : List Loc) (ls : Array Slot),
    rx_Cx S mi p l R s m args meth c D tc ad H0 A → (out.2.2.1 ≤ R.cells ∧ out.2.2.2.1 ≤ R.slots) → va_P D rx_cl (rx_W tc ad X) H → va_D A (rx_W tc ad X) → va_S A H0 H locs → lv_has ls (rx_ml mi) (rx_lc ad L) → rx_Back mi p l e R s m args below meth c D tc H0 A Q X.1 ad out →
    W p l e R s m args below meth c H locs X.2.1 X.2.2.1 Q (F0 m pc ls (st.map (rx_conc ad)))
def rx_wp (S : rx_S) (cuts : List Nat) (mi : Nat) (out : rx_O) (k : Nat) : rx_KT :=
  Nat.rec (fun _ _ _ _ => False) (fun _ ih is L st X => cond (Nat.ble X.1 rx_NC) (match is with
    | [] => False
    | i :: is => cond (cuts.contains i.1) (rx_AtP S mi i.1 L st X out) (rx_step S ih mi out (i :: is) L st X)) False) k
def rx_go (S : rx_S) (cuts : List Nat) (mi : Nat) (out : rx_O) (k pc : Nat) (L : rx_L) (st : List Value) (X : rx_X) : Prop :=
  cond (Nat.ble X.1 rx_NC) (match rx_jump mi pc with
    | [] => False
    | i :: is => rx_step S (rx_wp S cuts mi out k) mi out (i :: is) L st X) False
theorem rx_wp_nil {S : rx_S} {cuts : List Nat} {mi : Nat} {out : rx_O} (k : Nat) : ∀ L st X, ¬ rx_wp S cuts mi out k [] L st X := by
  intro L st X h
  cases k with
  | zero => exact h
  | succ k => exact (rx_cond_t (G := False) h).2
theorem rx_wp_at {S : rx_S} {cuts : List Nat} {mi : Nat} {out : rx_O} (hm : mi < 264) (hE : rx_Ext S mi) : ∀ k is L st X, rx_wp S cuts mi out k is L st X → (∃ pre, rx_code mi = pre ++ is) → rx_At S mi is L st X out := by
  intro k
  induction k with
  | zero => intro is L st X h; exact h.elim
  | succ k ih =>
    intro is L st X h hs
    cases is with
    | nil => exact absurd h (rx_wp_nil _ _ _ _)
    | cons i is =>
      obtain ⟨hNC, h⟩ := rx_cond_t (G := cond (cuts.contains i.1) (rx_AtP S mi i.1 L st X out) (rx_step S (rx_wp S cuts mi out k) mi out (i :: is) L st X)) h
      cases hc : cuts.contains i.1 with
      | true =>
        rw [hc] at h
        exact h
      | false =>
        rw [hc] at h
        exact rx_step_at hm hE (fun is L st X => ih is L st X) (rx_wp_nil k) (Nat.le_of_ble_eq_true hNC) h hs
theorem rx_walk {S : rx_S} (cuts : List Nat) {mi : Nat} {out : rx_O} (k : Nat) {pc : Nat} {L : rx_L} {st : List Value} {X : rx_X} (hm : mi < 264) (hE : rx_Ext S mi) (h : rx_go S cuts mi out k pc L st X) : rx_AtP S mi pc L st X out := by
  unfold rx_go at h
  obtain ⟨hNC, h⟩ := rx_cond_t h
  have hj := rx_jump_at mi pc
  have hin := rx_jump_in mi pc
  split at h
  · exact h.elim
  · rename_i i is he
    rw [he] at hj hin
    have := rx_step_at hm hE (rx_wp_at (cuts := cuts) hm hE k) (rx_wp_nil k) (Nat.le_of_ble_eq_true hNC) h hin
    have hpc : i.1 = pc := hj.resolve_left (fun e => by cases e)
    subst hpc
    exact this
/-- fewer locals are enough -/
theorem rx_sub {S : rx_S} {mi pc : Nat} {L L' : rx_L} {st : List Value} {X : rx_X} {out : rx_O} (h : rx_AtP S mi pc L' st X out) (ks : List Nat) (hl : lv_pick L ks = L') : rx_AtP S mi pc L st X out := by
  intro p l e R s m args below meth c D tc ad H0 A Q H locs ls cx hc hP hD hS hl2 hr
  refine h p l e R s m args below meth c D tc ad H0 A Q H locs ls cx hc hP hD hS (lv_sub hl2 ks ?_) hr
  rw [← hl]
  unfold lv_pick rx_lc
  rw [List.map_filterMap]
  congr 1
  funext k
  rw [List.getElem?_map]
theorem rx_args_lc (ad : Nat → Nat) : ∀ (vs : List Value) (i : Nat), lv_args i (vs.map (rx_conc ad)) = rx_lc ad (lv_args i vs)
  | [], _ => rfl
  | v :: vs, i => by
    show (i, rx_conc ad v) :: lv_args _ (vs.map (rx_conc ad)) = (i, rx_conc ad v) :: rx_lc ad (lv_args _ vs)
    rw [rx_conc_cat, rx_args_lc ad vs]
theorem rx_sl_len (ad : Nat → Nat) : ∀ (vs : List Value), (lg_sl (vs.map (rx_conc ad))).length = (lg_sl vs).length
  | [] => rfl
  | v :: vs => by
    have ih := rx_sl_len ad vs
    unfold lg_sl at ih ⊢
    rw [List.map_cons, List.flatMap_cons, List.flatMap_cons, List.length_append, List.length_append, ih, rx_conc_cat]
    split <;> rfl
theorem rx_OK_of {mi : Nat} {args : List Value} {kc : Nat} {ini : List (Nat × Nat)} {P : List Nat} {σ : rx_St} {out : rx_O} (hm : mi < 263) (hlen : (lg_sl args).length ≤ rx_ml mi) (h : rx_AtP none mi 0 (lv_args 0 args) [] (kc, 0, 0, ini, P, σ) out) : rx_OK mi args kc ini P σ out := by
  intro l D tc ad sz
  refine va_MetF (cc := rx_b mi) (maxL := rx_ml mi) (ret := rx_rt mi) (rx_M hm).1 rfl ?_
  intro p e s m args' below meth c s₁ B hml hv
  obtain ⟨rfl, hsz, hP, hK, hD0, hnw, hstr⟩ := hv
  subst hsz
  have hts : ∀ w ∈ rx_TS, w.before (args.map (rx_conc ad)).toArray s = true := fun w hw => atoms_spec (ws := rx_ws mi) B.pre w (List.mem_cons_of_mem _ hw)
  have hown : s.vm.findClass (rx_own mi) = some m.cls := findClass_of_methodNamed B.named
  have hlocks := B.notSynchronized
  have hD := hD0.self (sz := s.heap.size)
  have hl := lv_entry (args.map (rx_conc ad)) (n := rx_ml mi) (by rw [rx_sl_len]; exact hlen)
  rw [lg_entry_eq]
  rw [rx_args_lc] at hl
  have hr := B.returns
  refine h p l e _ s m _ below meth c D tc ad s.heap _ _ s.heap [] _ ⟨B.exec, B.bytes, hml, hown, hts, hnw, hK, ⟨Nat.le_refl _, Nat.le_refl _⟩, fun q hq => Or.inr hq, fun hin => (name_of_methodNamed B.named B.method).1.trans hin, hstr, trivial⟩ ⟨Nat.le_refl _, Nat.le_refl _⟩ hP hD va_S.rf hl ?_
  intro H locs ad' ls pc hag hP' hD' hS' hdg hok
  obtain ⟨r, X'⟩ := out
  have hq : ∀ t : State, t.heap = H → s.WarmedH t.vm → (Outcome.returned r = .returned r ∧ (∃ ad', rx_ag kc ad ad' ∧ va_P D rx_cl (rx_W tc ad' X') t.heap ∧ va_D (va_A (rx_W tc ad (kc, 0, 0, ini, P, σ)) s.heap.size) (rx_W tc ad' X')) ∧ va_F (va_A (rx_W tc ad (kc, 0, 0, ini, P, σ)) s.heap.size) s t) :=
    fun t ht _ => ⟨rfl, ⟨ad', hag, by rw [ht]; exact hP', hD'⟩, hS'.F ht⟩
  cases r with
  | none => exact W.vret B.exec B.bytes (hr.trans hok) hq hS'.2.2 hdg
  | some v =>
    cases v with
    | int v =>
      have hok' : rx_nar (rx_rt mi) v := hok
      cases hrt : rx_rt mi with
      | none => rw [hrt] at hok'; exact hok'.elim
      | some ty =>
        rw [hrt] at hok'
        cases ty with
        | int => exact W.zret B.exec B.bytes (hr.trans hrt) rfl hq hS'.2.2 hdg
        | boolean => exact W.zret B.exec B.bytes (hr.trans hrt) (by rcases hok' with rfl | rfl <;> rfl) hq hS'.2.2 hdg
        | _ => exact hok'.elim
    | long v => exact W.lret B.exec B.bytes (hr.trans hok) hq hS'.2.2 hdg
    | _ => exact hok.elim
