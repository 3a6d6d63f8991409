/-! BASE: what a function's answer satisfies; reading and writing of places; loops; numbers as Nats -/
def tw_ok {α : Type} (x : Option α) (Q : α → Prop) : Prop := ∃ a, x = some a ∧ Q a
theorem tw_some {α : Type} {a : α} {Q : α → Prop} : tw_ok (some a) Q ↔ Q a :=
  ⟨fun ⟨_, h, q⟩ => by cases h; exact q, fun q => ⟨a, rfl, q⟩⟩
theorem tw_bind {α β : Type} {x : Option α} {f : α → Option β} {Q : β → Prop} : tw_ok (x.bind f) Q ↔ tw_ok x (fun a => tw_ok (f a) Q) := by
  constructor
  · rintro ⟨b, h, q⟩
    cases x with
    | none => cases h
    | some a => exact ⟨a, rfl, b, h, q⟩
  · rintro ⟨a, rfl, b, h, q⟩
    exact ⟨b, h, q⟩
theorem tw_mono {α : Type} {x : Option α} {Q R : α → Prop} (h : tw_ok x Q) (f : ∀ a, Q a → R a) : tw_ok x R := by
  obtain ⟨a, h, q⟩ := h
  exact ⟨a, h, f a q⟩
theorem tw_b {α β : Type} {x : Option α} {f : α → Option β} {Q : β → Prop} {R : α → Prop} (h : tw_ok x R) (k : ∀ a, R a → tw_ok (f a) Q) : tw_ok (x.bind f) Q := tw_bind.mpr (tw_mono h k)
theorem tw_be {α β : Type} {x : Option α} {f : α → Option β} {Q : β → Prop} {a : α} (h : x = some a) (k : tw_ok (f a) Q) : tw_ok (x.bind f) Q := by
  rw [h]; exact k
theorem tw_ite {α : Type} {c : Prop} [Decidable c] {a b : Option α} {Q : α → Prop} (f : c → tw_ok a Q) (g : ¬ c → tw_ok b Q) : tw_ok (if c then a else b) Q := by
  by_cases h : c
  · rw [if_pos h]; exact f h
  · rw [if_neg h]; exact g h
theorem tw_g {α : Type} {i : Int32} {n : Nat} {x : Option α} {Q : α → Prop} (h : vp_in i n) (k : tw_ok x Q) : tw_ok (rx_g i n x) Q := by
  unfold rx_g; rw [if_neg h]; exact k
theorem tw_c {α : Type} {c : Prop} [Decidable c] {x : Option α} {Q : α → Prop} (h : c) (k : tw_ok x Q) : tw_ok (rx_c c x) Q := by
  unfold rx_c; rw [if_pos h]; exact k
theorem tw_gE {α : Type} {i : Int32} {n : Nat} {x : Option α} (h : vp_in i n) : rx_g i n x = x := by
  unfold rx_g; rw [if_neg h]
/-- the guard of an index, of which the number is known -/
theorem tw_gN {α : Type} {a n : Nat} {x : Option α} (h : a < n) (hn : n < 2147483648) : rx_g (nI a) n x = x := tw_gE (vp_in_nI h hn)
theorem tw_cE {α : Type} {c : Prop} [Decidable c] {x : Option α} (h : c) : rx_c c x = x := by
  unfold rx_c; rw [if_pos h]
theorem tw_L (n : Nat) : (OfNat.ofNat n : Int32) = nI (OfNat.ofNat n) := rfl
theorem tw_cl {a : Nat} (h : a < 2147483648) : (nI a).toNatClampNeg = a := nI_clamp h
theorem tw_le {a b : Nat} (ha : a < 2147483648) (hb : b < 2147483648) : (nI a ≤ nI b) = (a ≤ b) := propext (nI_leI ha hb)
theorem tw_lt {a b : Nat} (ha : a < 2147483648) (hb : b < 2147483648) : (nI a < nI b) = (a < b) := propext (nI_ltI ha hb)
theorem tw_eq {a b : Nat} (ha : a < 2147483648) (hb : b < 2147483648) : (nI a = nI b) = (a = b) := propext (nI_eq ha hb)
theorem tw_sub {a b : Nat} (h : b ≤ a) : nI a - nI b = nI (a - b) := pk_sub h
theorem tw_dec {a : Nat} (h : 1 ≤ a) : nI a + -nI 1 = nI (a - 1) := by
  obtain ⟨b, rfl⟩ : ∃ b, a = b + 1 := ⟨a - 1, by omega⟩
  exact pk_m1 b
theorem tw_div {a d : Nat} (ha : a < 2147483648) (h0 : 0 < d) (hd : d < 2147483648) : nI a / nI d = nI (a / d) := pk_div ha h0 hd
theorem tw_rem {a d : Nat} (ha : a < 2147483648) (h0 : 0 < d) (hd : d < 2147483648) : rx_irem (nI a) (nI d) = nI (a % d) := pk_rem ha h0 hd
theorem tw_m1 {a : Nat} (h : a < 2147483648) : (nI a = -nI 1) = False := by
  refine eq_false (fun e => ?_)
  have := nI_pos' (n := a) h
  rw [e] at this
  exact absurd this (by decide)
theorem tw_nm1 {a : Nat} (h : a < 2147483648) : (-nI 1 = nI a) = False := by
  exact eq_false (fun e => by rw [← (tw_m1 h)]; exact e.symm)
theorem tw_ltm1 {a : Nat} (h : a < 2147483648) : (nI a < nI 0) = False := by
  rw [tw_lt h (by decide)]
  exact eq_false (Nat.not_lt_zero a)
theorem tw_nb0 : vp_nar .boolean (nI 0) = nI 0 := rfl
theorem tw_nb1 : vp_nar .boolean (nI 1) = nI 1 := rfl
/-- a truth value as the machine has it -/
def tw_B (b : Bool) : Int32 := cond b (nI 1) (nI 0)
theorem tw_B0 (b : Bool) : (tw_B b = nI 0) = (b = false) := by cases b <;> simp [tw_B] <;> decide
theorem tw_B1 (b : Bool) : (tw_B b = nI 1) = (b = true) := by cases b <;> simp [tw_B] <;> decide
theorem tw_Bf : tw_B false = nI 0 := rfl
theorem tw_Bt : tw_B true = nI 1 := rfl
/-! places -/
theorem tw_r1 (σ : rx_St) (k j : Nat) (v : Int32) (q i : Nat) : (rx_si σ k j v).1 q i = if q = k ∧ i = j then v else σ.1 q i := by
  show (cond (q == k) (upd (σ.1 k) j v) (σ.1 q)) i = _
  by_cases h : q = k
  · subst h
    rw [beq_self_eq_true, cond_true]
    unfold upd
    by_cases h2 : i = j
    · rw [if_pos h2, if_pos ⟨rfl, h2⟩]
    · rw [if_neg h2, if_neg (fun h => h2 h.2)]
  · rw [beq_false_of_ne h, cond_false, if_neg (fun x => h x.1)]
theorem tw_r1s (σ : rx_St) (k j : Nat) (v : Int32) : (rx_si σ k j v).1 k j = v := by rw [tw_r1, if_pos ⟨rfl, rfl⟩]
theorem tw_r1n (σ : rx_St) {k j : Nat} (v : Int32) {q i : Nat} (h : ¬ (q = k ∧ i = j)) : (rx_si σ k j v).1 q i = σ.1 q i := by rw [tw_r1, if_neg h]
theorem tw_r12 (σ : rx_St) (k j : Nat) (v : Int32) : (rx_si σ k j v).2 = σ.2 := rfl
theorem tw_r2 (σ : rx_St) (k j : Nat) (v : Int64) (q i : Nat) : (rx_sl σ k j v).2 q i = if q = k ∧ i = j then v else σ.2 q i := by
  show (cond (q == k) (vp_updL (σ.2 k) j v) (σ.2 q)) i = _
  by_cases h : q = k
  · subst h
    rw [beq_self_eq_true, cond_true]
    unfold vp_updL
    by_cases h2 : i = j
    · rw [if_pos h2, if_pos ⟨rfl, h2⟩]
    · rw [if_neg h2, if_neg (fun h => h2 h.2)]
  · rw [beq_false_of_ne h, cond_false, if_neg (fun x => h x.1)]
theorem tw_r21 (σ : rx_St) (k j : Nat) (v : Int64) : (rx_sl σ k j v).1 = σ.1 := rfl
/-- nothing but the places S has changed -/
def tw_fr (S : Nat → Nat → Prop) (σ σ' : rx_St) : Prop := ∀ q j, ¬ S q j → σ'.1 q j = σ.1 q j ∧ σ'.2 q j = σ.2 q j
theorem tw_fr.rf {S : Nat → Nat → Prop} {σ : rx_St} : tw_fr S σ σ := fun _ _ _ => ⟨rfl, rfl⟩
theorem tw_fr.tr {S : Nat → Nat → Prop} {σ σ1 σ2 : rx_St} (h : tw_fr S σ σ1) (h2 : tw_fr S σ1 σ2) : tw_fr S σ σ2 :=
  fun q j n => ⟨(h2 q j n).1.trans (h q j n).1, (h2 q j n).2.trans (h q j n).2⟩
theorem tw_fr.mn {S S' : Nat → Nat → Prop} {σ σ' : rx_St} (h : tw_fr S σ σ') (f : ∀ q j, S q j → S' q j) : tw_fr S' σ σ' :=
  fun q j n => h q j (fun s => n (f q j s))
theorem tw_fr.tn {S S1 S2 : Nat → Nat → Prop} {σ σ1 σ2 : rx_St} (h : tw_fr S1 σ σ1) (h2 : tw_fr S2 σ1 σ2) (f1 : ∀ q j, S1 q j → S q j) (f2 : ∀ q j, S2 q j → S q j) : tw_fr S σ σ2 := (h.mn f1).tr (h2.mn f2)
theorem tw_fr.si {S : Nat → Nat → Prop} {σ σ' : rx_St} {k i : Nat} {v : Int32} (h : tw_fr S σ σ') (hs : S k i) : tw_fr S σ (rx_si σ' k i v) :=
  fun q j n => ⟨(tw_r1n σ' v (fun x => n (by rw [x.1, x.2]; exact hs))).trans (h q j n).1, (h q j n).2⟩
theorem tw_fr.sl {S : Nat → Nat → Prop} {σ σ' : rx_St} {k i : Nat} {v : Int64} (h : tw_fr S σ σ') (hs : S k i) : tw_fr S σ (rx_sl σ' k i v) :=
  fun q j n => ⟨(h q j n).1, by
    rw [tw_r2, if_neg (fun x => n (by rw [x.1, x.2]; exact hs))]
    exact (h q j n).2⟩
theorem tw_fr.i {S : Nat → Nat → Prop} {σ σ' : rx_St} (h : tw_fr S σ σ') {q j : Nat} (n : ¬ S q j) : σ'.1 q j = σ.1 q j := (h q j n).1
theorem tw_fr.l {S : Nat → Nat → Prop} {σ σ' : rx_St} (h : tw_fr S σ σ') {q j : Nat} (n : ¬ S q j) : σ'.2 q j = σ.2 q j := (h q j n).2
/-! loops -/
theorem tw_lp {α : Type} (F : Nat → Nat → rx_St → Option α) (I : Nat → rx_St → Prop) (N : Nat) (Q : α → Prop)
    (hs : ∀ n i σ, i < N → I i σ → (∀ σ', I (i + 1) σ' → tw_ok (F n (i + 1) σ') Q) → tw_ok (F (n + 1) i σ) Q)
    (he : ∀ n σ, I N σ → tw_ok (F (n + 1) N σ) Q) : ∀ (fuel i : Nat) (σ : rx_St), N - i < fuel → i ≤ N → I i σ → tw_ok (F fuel i σ) Q := by
  intro fuel
  induction fuel with
  | zero => intro i σ h; exact absurd h (Nat.not_lt_zero _)
  | succ n ih =>
    intro i σ h hi h0
    by_cases e : i = N
    · subst e; exact he n σ h0
    · exact hs n i σ (by omega) h0 (fun σ' h1 => ih (i + 1) σ' (by omega) (by omega) h1)
/-- a loop that counts down, or whose end is told by its state -/
theorem tw_lm {α τ : Type} (F : Nat → τ → Option α) (I : τ → Prop) (m : τ → Nat) (Q : α → Prop)
    (hs : ∀ n x, I x → (∀ y, I y → m y < m x → tw_ok (F n y) Q) → tw_ok (F (n + 1) x) Q) : ∀ (fuel : Nat) (x : τ), m x < fuel → I x → tw_ok (F fuel x) Q := by
  intro fuel
  induction fuel with
  | zero => intro x h; exact absurd h (Nat.not_lt_zero _)
  | succ n ih => exact fun x h h0 => hs n x h0 (fun y h1 h2 => ih y (by omega) h1)
