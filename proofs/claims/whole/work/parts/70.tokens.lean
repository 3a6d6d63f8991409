/-! TOKENS: what a TEXT is cut into -/
/-- kind (the class's number), place, number, letters (the last first) -/
abbrev tw_Tk : Type := Nat × Nat × Nat × List Nat
def qL (n : Nat) : Int64 := Int64.ofNat n
theorem qL_inj {a b : Nat} (ha : a < 9223372036854775808) (hb : b < 9223372036854775808) : (qL a = qL b) = (a = b) := by
  refine propext ⟨fun h => ?_, fun h => by rw [h]⟩
  have := congrArg Int64.toInt h
  unfold qL at this
  rw [Int64.toInt_ofNat_of_lt ha, Int64.toInt_ofNat_of_lt hb] at this
  omega
theorem qL_nI {n : Nat} (h : n < 2147483648) : (nI n).toInt64 = qL n := by
  refine Int64.toInt_inj.mp ?_
  unfold qL
  rw [Int32.toInt_toInt64, nI_toInt h, Int64.toInt_ofNat_of_lt (by omega)]
theorem qL_I {n : Nat} (h : n < 2147483648) : (qL n).toInt32 = nI n := by
  refine Int32.toInt_inj.mp ?_
  unfold qL
  rw [Int64.toInt_toInt32, Int64.toInt_ofNat_of_lt (by omega), nI_toInt h, tw_bm32 (by omega) (by omega)]
theorem lg_cmp0 (a b : Int64) : (lg_cmp a b = (0 : Int32)) = (a = b) := by
  refine propext ⟨fun h => ?_, rw_cmp⟩
  by_cases e : a = b
  · exact e
  · unfold lg_cmp at h
    by_cases l : a > b
    · rw [if_pos l] at h; exact absurd h (by decide)
    · rw [if_neg l, if_neg e] at h; exact absurd h (by decide)
def tw_pk (B : Nat) : List Nat → Nat
  | [] => 0
  | c :: l => tw_pk B l * B + c
def tw_az (l : List Nat) : Prop := ∀ c ∈ l, 1 ≤ c ∧ c ≤ 26
theorem tw_pk_inj {B : Nat} (hB : 26 < B) : ∀ {l l' : List Nat}, tw_az l → tw_az l' → tw_pk B l = tw_pk B l' → l = l'
  | [], [], _, _, _ => rfl
  | [], c :: l', _, h', e => by
    have h1 := h' c List.mem_cons_self
    have e1 : 0 = tw_pk B l' * B + c := e
    omega
  | c :: l, [], h, _, e => by
    have h1 := h c List.mem_cons_self
    have e1 : tw_pk B l * B + c = 0 := e
    omega
  | c :: l, c' :: l', h, h', e => by
    have h1 := h c List.mem_cons_self
    have h2 := h' c' List.mem_cons_self
    have e1 : tw_pk B l * B + c = tw_pk B l' * B + c' := e
    have e2 := congrArg (fun x => x % B) e1
    have e3 : (tw_pk B l * B + c) % B = (tw_pk B l' * B + c') % B := e2
    rw [Nat.mul_add_mod', Nat.mul_add_mod', Nat.mod_eq_of_lt (by omega), Nat.mod_eq_of_lt (by omega)] at e3
    subst e3
    have e4 : tw_pk B l * B = tw_pk B l' * B := by omega
    have e5 := Nat.eq_of_mul_eq_mul_right (by omega) e4
    rw [tw_pk_inj hB (fun x hx => h x (List.mem_cons_of_mem _ hx)) (fun x hx => h' x (List.mem_cons_of_mem _ hx)) e5]
theorem tw_pk_lt {B : Nat} (hB : 26 < B) : ∀ {l : List Nat}, tw_az l → tw_pk B l < B ^ l.length
  | [], _ => by show 0 < 1; omega
  | c :: l, h => by
    have h1 := h c List.mem_cons_self
    have ih := tw_pk_lt hB (l := l) (fun x hx => h x (List.mem_cons_of_mem _ hx))
    rw [List.length_cons, Nat.pow_succ]
    have : (tw_pk B l + 1) * B ≤ B ^ l.length * B := Nat.mul_le_mul_right _ ih
    rw [Nat.add_mul, Nat.one_mul] at this
    show tw_pk B l * B + c < _
    omega
theorem tw_pk8 {B : Nat} (hB : 26 < B) (hB2 : B ≤ 32) {l : List Nat} (h : tw_az l) (h8 : l.length ≤ 8) : tw_pk B l < 9223372036854775808 := by
  have h1 := tw_pk_lt hB h
  have h2 : B ^ l.length ≤ 32 ^ l.length := Nat.pow_le_pow_left hB2 _
  have h3 : 32 ^ l.length ≤ 32 ^ 8 := Nat.pow_le_pow_right (by omega) h8
  have h4 : 32 ^ 8 = 1099511627776 := by decide
  omega
/-- the words, the last letter first -/
def tw_W : List (List Nat) := [[20, 5, 19], [4, 14, 9, 11], [4, 14, 5], [19, 1, 8], [20, 5, 18, 3, 5, 19], [5, 12, 21, 18], [6, 9], [4, 4, 1], [15, 7], [5, 22, 9, 7], [15, 20], [18, 1, 5, 14], [11, 3, 9, 16], [20, 9, 21, 17], [18, 15], [4, 14, 1], [20, 15, 14], [11, 3, 9, 20], [5, 18, 5, 8], [5, 3, 1, 12, 16], [20, 15, 12], [13, 21, 19], [12, 12, 1]]
def tw_word (k : Nat) : List Nat := tw_W.getD k []
theorem tw_word_az : ∀ k, k < 23 → ((tw_word k).all (fun c => decide (1 ≤ c ∧ c ≤ 26)) = true ∧ (tw_word k).length ≤ 6 ∧ ∀ j, j < 23 → tw_word j = tw_word k → j = k) := by decide +kernel
theorem tw_word_ok {k : Nat} (h : k < 23) : tw_az (tw_word k) ∧ (tw_word k).length ≤ 6 := by
  have := tw_word_az k h
  refine ⟨fun c hc => ?_, this.2.1⟩
  have h2 := List.all_eq_true.mp this.1 c hc
  exact of_decide_eq_true h2
/-- which word it is, from 23 - d on; 23: a NAME -/
def tw_kf (L : List Nat) : Nat → Nat
  | 0 => 23
  | d + 1 => if tw_word (23 - (d + 1)) = L then 23 - (d + 1) else tw_kf L d
theorem tw_kf_ok (L : List Nat) : ∀ d, d ≤ 23 → (tw_kf L d < 23 ∧ tw_word (tw_kf L d) = L) ∨ (tw_kf L d = 23 ∧ ∀ k, 23 - d ≤ k → k < 23 → tw_word k ≠ L)
  | 0, _ => Or.inr ⟨rfl, fun k h1 h2 => absurd h1 (by omega)⟩
  | d + 1, h => by
    unfold tw_kf
    by_cases c : tw_word (23 - (d + 1)) = L
    · rw [if_pos c]; exact Or.inl ⟨by omega, c⟩
    · rw [if_neg c]
      rcases tw_kf_ok L d (by omega) with g | ⟨g1, g2⟩
      · exact Or.inl g
      · refine Or.inr ⟨g1, fun k h1 h2 => ?_⟩
        by_cases e : k = 23 - (d + 1)
        · rw [e]; exact c
        · exact g2 k (by omega) h2
theorem tw_kf_le (L : List Nat) : tw_kf L 23 ≤ 23 := by
  rcases tw_kf_ok L 23 (Nat.le_refl _) with ⟨h, -⟩ | ⟨h, -⟩ <;> omega
def tw_isB (c : Nat) : Bool := c == 9 || (c == 10 || (c == 13 || c == 32))
def tw_isL (c : Nat) : Bool := decide (97 ≤ c) && decide (c ≤ 122)
def tw_isD (c : Nat) : Bool := decide (48 ≤ c) && decide (c ≤ 57)
/-- how far such bytes go on -/
def tw_rn (p : Nat → Bool) (b : Nat → Nat) : Nat → Nat → Nat
  | 0, i => i
  | f + 1, i => if p (b i) = true then tw_rn p b f (i + 1) else i
theorem tw_rn_le (p : Nat → Bool) (b : Nat → Nat) : ∀ f i, i ≤ tw_rn p b f i ∧ tw_rn p b f i ≤ i + f
  | 0, i => ⟨Nat.le_refl _, Nat.le_refl _⟩
  | f + 1, i => by
    have := tw_rn_le p b f (i + 1)
    unfold tw_rn
    by_cases c : p (b i) = true
    · rw [if_pos c]; omega
    · rw [if_neg c]; omega
theorem tw_rn_p (p : Nat → Bool) (b : Nat → Nat) : ∀ f i k, i ≤ k → k < tw_rn p b f i → p (b k) = true
  | 0, i, k, h1, h2 => absurd h2 (by unfold tw_rn; omega)
  | f + 1, i, k, h1, h2 => by
    unfold tw_rn at h2
    by_cases c : p (b i) = true
    · rw [if_pos c] at h2
      by_cases e : k = i
      · rw [e]; exact c
      · exact tw_rn_p p b f (i + 1) k (by omega) h2
    · rw [if_neg c] at h2; omega
/-- letters, the last first -/
def tw_ll (b : Nat → Nat) (i : Nat) : Nat → List Nat
  | 0 => []
  | k + 1 => (b (i + k) - 96) :: tw_ll b i k
theorem tw_ll_len (b : Nat → Nat) (i : Nat) : ∀ k, (tw_ll b i k).length = k
  | 0 => rfl
  | k + 1 => by rw [tw_ll, List.length_cons, tw_ll_len b i k]
theorem tw_ll_az (b : Nat → Nat) (i : Nat) : ∀ k, (∀ j, j < k → tw_isL (b (i + j)) = true) → tw_az (tw_ll b i k)
  | 0, _ => fun c hc => by cases hc
  | k + 1, h => fun c hc => by
    rw [tw_ll] at hc
    rcases List.mem_cons.mp hc with rfl | hc
    · have := h k (by omega)
      unfold tw_isL at this
      simp only [Bool.and_eq_true, decide_eq_true_eq] at this
      omega
    · exact tw_ll_az b i k (fun j hj => h j (by omega)) c hc
/-- a number of digits -/
def tw_dv (b : Nat → Nat) (i : Nat) : Nat → Nat
  | 0 => 0
  | k + 1 => tw_dv b i k * 10 + (b (i + k) - 48)
theorem tw_dv_lt (b : Nat → Nat) (i : Nat) : ∀ k, (∀ j, j < k → tw_isD (b (i + j)) = true) → tw_dv b i k < 10 ^ k
  | 0, _ => by show 0 < 1; omega
  | k + 1, h => by
    have ih := tw_dv_lt b i k (fun j hj => h j (by omega))
    have := h k (by omega)
    unfold tw_isD at this
    simp only [Bool.and_eq_true, decide_eq_true_eq] at this
    rw [tw_dv, Nat.pow_succ]
    omega
def tw_sg (c : Nat) : Nat := if c = 40 then 35 else if c = 41 then 36 else if c = 42 then 29 else if c = 43 then 27 else if c = 45 then 28 else if c = 47 then 30 else if c = 59 then 25 else if c = 60 then 33 else if c = 61 then 26 else 38
def tw_dg (c : Nat) : Nat := if c = 33 then 32 else if c = 60 then 34 else if c = 61 then 31 else 38
/-- the TOKEN from a byte on, and the byte behind it -/
def tw_tk (b : Nat → Nat) (n i : Nat) : tw_Tk × Nat :=
  if tw_isL (b i) = true then ((if tw_rn tw_isL b (n - i) i - i ≤ 8 then tw_kf (tw_ll b i (tw_rn tw_isL b (n - i) i - i)) 23 else 38, i, 0, tw_ll b i (tw_rn tw_isL b (n - i) i - i)), tw_rn tw_isL b (n - i) i)
  else if tw_isD (b i) = true then ((if tw_rn tw_isD b (n - i) i - i ≤ 4 then 24 else 38, i, tw_dv b i (tw_rn tw_isD b (n - i) i - i), []), tw_rn tw_isD b (n - i) i)
  else if i + 1 < n ∧ b (i + 1) = 61 ∧ tw_dg (b i) ≠ 38 then ((tw_dg (b i), i, 0, []), i + 2)
  else ((tw_sg (b i), i, 0, []), i + 1)
def tw_sc (b : Nat → Nat) (n : Nat) : Nat → Nat → List tw_Tk
  | 0, _ => []
  | f + 1, i => if n ≤ i then [] else if tw_isB (b i) = true then tw_sc b n f (i + 1) else (tw_tk b n i).1 :: tw_sc b n f (tw_tk b n i).2
theorem tw_tk_gt (b : Nat → Nat) {n i : Nat} (h : i < n) : i < (tw_tk b n i).2 := by
  unfold tw_tk
  obtain ⟨f, hf⟩ : ∃ f, n - i = f + 1 := ⟨n - i - 1, by omega⟩
  by_cases c : tw_isL (b i) = true
  · rw [if_pos c]
    show i < tw_rn tw_isL b (n - i) i
    rw [hf, tw_rn, if_pos c]
    have := tw_rn_le tw_isL b f (i + 1)
    omega
  · rw [if_neg c]
    by_cases d : tw_isD (b i) = true
    · rw [if_pos d]
      show i < tw_rn tw_isD b (n - i) i
      rw [hf, tw_rn, if_pos d]
      have := tw_rn_le tw_isD b f (i + 1)
      omega
    · rw [if_neg d]
      by_cases e : i + 1 < n ∧ b (i + 1) = 61 ∧ tw_dg (b i) ≠ 38
      · rw [if_pos e]; show i < i + 2; omega
      · rw [if_neg e]; show i < i + 1; omega
