/-! THE MODEL READS: all KINDS -/
def ta_kz : List ty_Ki → Nat
  | [] => 0
  | K :: Ks => (ta_rops K.2.2).length + ta_kz Ks
def ta_kC (T : List tw_Tk) (lv : Nat) (SN : List Nat) : Nat → List ty_Ki → List tz_Cd
  | _, [] => []
  | k, K :: Ks => (ta_rops K.2.2).map (ta_oc T (ta_X1 lv SN k K)) ++ ta_kC T lv SN (k + 1) Ks
def ta_kQ (lv : Nat) (SN : List Nat) : Nat → Nat → List ty_Ki → List ta_Qu
  | _, _, [] => []
  | k, p, K :: Ks => ta_rqs (ta_X1 lv SN k K) p 0 K.2.2 ++ ta_kQ lv SN (k + 1) (p + (ta_rops K.2.2).length) Ks
def ta_kE (T : List tw_Tk) (lv : Nat) (SN : List Nat) : List Nat → List ty_Ki → List (Nat × Nat)
  | _, [] => []
  | KN, K :: Ks => (ta_ne T SN KN K.1 ++ (ta_ve T [] K.2.1 ++ K.2.2.flatMap (ta_re T (ta_X1 lv SN KN.length K)))) ++ ta_kE T lv SN (KN ++ [K.1]) Ks
def ta_kL : Nat → List ty_Ki → List ta_Lr
  | _, [] => []
  | p, K :: Ks => ta_rls p K.2.2 ++ ta_kL (p + (ta_rops K.2.2).length) Ks
def ta_kr (lv : Nat) (T : List tw_Tk) (SN : List Nat) (σ : rx_St) : Nat → Nat → Nat → List ty_Ki → Prop
  | _, _, _, [] => True
  | k, p, a, K :: Ks => ta_k1 lv T SN σ k p a K ∧ ta_kr lv T SN σ (k + 1) (p + (ta_rops K.2.2).length) (a + (ta_rls p K.2.2).length) Ks
theorem ta_kC_len (T : List tw_Tk) (lv : Nat) (SN : List Nat) : ∀ (Ks : List ty_Ki) (k : Nat), (ta_kC T lv SN k Ks).length = ta_kz Ks
  | [], _ => rfl
  | K :: Ks, k => by rw [ta_kC, ta_kz, List.length_append, List.length_map, ta_kC_len T lv SN Ks]
theorem ta_kC_app (T : List tw_Tk) (lv : Nat) (SN : List Nat) : ∀ (as bs : List ty_Ki) (k : Nat), ta_kC T lv SN k (as ++ bs) = ta_kC T lv SN k as ++ ta_kC T lv SN (k + as.length) bs
  | [], bs, k => rfl
  | K :: as, bs, k => by rw [List.cons_append, ta_kC, ta_kC, ta_kC_app T lv SN as bs, List.append_assoc, List.length_cons, show k + 1 + as.length = k + (as.length + 1) by omega]
theorem ta_kQ_app (lv : Nat) (SN : List Nat) : ∀ (as bs : List ty_Ki) (k p : Nat), ta_kQ lv SN k p (as ++ bs) = ta_kQ lv SN k p as ++ ta_kQ lv SN (k + as.length) (p + ta_kz as) bs
  | [], bs, k, p => rfl
  | K :: as, bs, k, p => by rw [List.cons_append, ta_kQ, ta_kQ, ta_kQ_app lv SN as bs, List.append_assoc, List.length_cons, show k + 1 + as.length = k + (as.length + 1) by omega, ta_kz, Nat.add_assoc p]
theorem ta_kE_app (T : List tw_Tk) (lv : Nat) (SN : List Nat) : ∀ (as bs : List ty_Ki) (KN : List Nat), ta_kE T lv SN KN (as ++ bs) = ta_kE T lv SN KN as ++ ta_kE T lv SN (KN ++ as.map (fun x => x.1)) bs
  | [], bs, KN => by rw [List.map_nil, List.append_nil]; rfl
  | K :: as, bs, KN => by
    rw [List.cons_append, ta_kE, ta_kE, ta_kE_app T lv SN as bs, ← List.append_assoc, List.map_cons, List.append_assoc KN]
    rfl
theorem ta_kL_app : ∀ (as bs : List ty_Ki) (p : Nat), ta_kL p (as ++ bs) = ta_kL p as ++ ta_kL (p + ta_kz as) bs
  | [], bs, p => rfl
  | K :: as, bs, p => by rw [List.cons_append, ta_kL, ta_kL, ta_kL_app as bs, List.append_assoc, ta_kz, Nat.add_assoc p]
theorem ta_kr_app (lv : Nat) (T : List tw_Tk) (SN : List Nat) (σ : rx_St) : ∀ (as bs : List ty_Ki) (k p a : Nat), ta_kr lv T SN σ k p a (as ++ bs) ↔ ta_kr lv T SN σ k p a as ∧ ta_kr lv T SN σ (k + as.length) (p + ta_kz as) (a + (ta_kL p as).length) bs
  | [], bs, k, p, a => ⟨fun h => ⟨trivial, h⟩, fun h => h.2⟩
  | K :: as, bs, k, p, a => by
    rw [List.cons_append, ta_kr, ta_kr, ta_kr_app lv T SN σ as bs, List.length_cons, show k + 1 + as.length = k + (as.length + 1) by omega, ta_kz, ta_kL, List.length_append, Nat.add_assoc p, Nat.add_assoc a]
    exact ⟨fun h => ⟨⟨h.1, h.2.1⟩, h.2.2⟩, fun h => ⟨h.1.1, h.1.2, h.2⟩⟩
theorem ta_kr.fr {lv : Nat} {T : List tw_Tk} {SN : List Nat} {σ σ' : rx_St} {e : Nat} (f : ∀ q j, (q = 100 ∨ q = 104) ∧ j < 5 * lv + e ∨ (101 ≤ q ∧ q ≤ 103) ∧ j < 6 * (5 * lv + e) ∨ (105 ≤ q ∧ q ≤ 107) ∧ j < 8 * (5 * lv + e) ∨ (q = 108 ∨ q = 109 ∨ q = 112 ∨ q = 113) ∧ j < 48 * (5 * lv + e) → σ'.1 q j = σ.1 q j ∧ σ'.2 q j = σ.2 q j) : ∀ (Ks : List ty_Ki) (k p a : Nat), k + Ks.length = e → ta_kr lv T SN σ k p a Ks → ta_kr lv T SN σ' k p a Ks
  | [], _, _, _, _, _ => trivial
  | K :: Ks, k, p, a, h, ⟨h1, h2⟩ => by
    rw [List.length_cons] at h
    exact ⟨h1.fr (fun q j y => f q j (by omega)), ta_kr.fr f Ks (k + 1) _ _ (by omega) h2⟩
theorem ta_kr_get {lv : Nat} {T : List tw_Tk} {SN : List Nat} {σ : rx_St} : ∀ (Ks : List ty_Ki) (k0 p a k : Nat) (K : ty_Ki), ta_kr lv T SN σ k0 p a Ks → Ks[k]? = some K → ta_k1 lv T SN σ (k0 + k) (p + ta_kz (Ks.take k)) (a + (ta_kL p (Ks.take k)).length) K
  | [], k0, p, a, k, K, _, h => by cases h
  | K0 :: Ks, k0, p, a, 0, K, h, e => by
    cases e
    exact h.1
  | K0 :: Ks, k0, p, a, k + 1, K, h, e => by
    have := ta_kr_get Ks (k0 + 1) _ _ k K h.2 e
    rw [List.take_succ_cons, ta_kz, ta_kL, List.length_append, show k0 + (k + 1) = k0 + 1 + k by omega, ← Nat.add_assoc p, ← Nat.add_assoc a]
    exact this
/-- what a text writes on its side -/
def ta_SH (lv q j : Nat) : Prop := q = 87 ∧ (11 ≤ j ∧ j ≤ 16 ∨ j = 39 ∨ j = 46 ∨ j = 50 ∨ j = 56 ∨ j = 58) ∨ (q = 95 ∨ q = 98) ∧ j = lv ∨ (q = 96 ∨ q = 97) ∧ (6 * lv ≤ j ∧ j < 6 * lv + 6) ∨ (q = 99 ∨ q = 100 ∨ q = 104) ∧ (5 * lv ≤ j ∧ j < 5 * lv + 5) ∨ (101 ≤ q ∧ q ≤ 103) ∧ (30 * lv ≤ j ∧ j < 30 * lv + 30) ∨ (105 ≤ q ∧ q ≤ 107) ∧ (40 * lv ≤ j ∧ j < 40 * lv + 40) ∨ (108 ≤ q ∧ q ≤ 113) ∧ (240 * lv ≤ j ∧ j < 240 * lv + 240) ∨ (114 ≤ q ∧ q ≤ 119) ∧ (250 * lv ≤ j ∧ j < 250 * lv + 250) ∨ (120 ≤ q ∧ q ≤ 122) ∧ (700 * lv ≤ j ∧ j < 700 * lv + 700) ∨ 123 ≤ q ∧ q ≤ 128
/-- what its KINDS write -/
def ta_SJ (lv q j : Nat) : Prop := ta_SH lv q j ∧ q ≠ 97
section TBQ0
variable {lv q j : Nat}
theorem ta_J1 (h : q = 87 ∧ (11 ≤ j ∧ j ≤ 16 ∨ j = 39 ∨ j = 46 ∨ j = 50 ∨ j = 56 ∨ j = 58)) : ta_SJ lv q j := ⟨Or.inl h, by omega⟩
theorem ta_J2 (h : (q = 95 ∨ q = 98) ∧ j = lv) : ta_SJ lv q j := ⟨Or.inr (Or.inl h), by omega⟩
theorem ta_J4 (h : (q = 99 ∨ q = 100 ∨ q = 104) ∧ (5 * lv ≤ j ∧ j < 5 * lv + 5)) : ta_SJ lv q j := ⟨Or.inr (Or.inr (Or.inr (Or.inl h))), by omega⟩
theorem ta_J5 (h : (101 ≤ q ∧ q ≤ 103) ∧ (30 * lv ≤ j ∧ j < 30 * lv + 30)) : ta_SJ lv q j := ⟨Or.inr (Or.inr (Or.inr (Or.inr (Or.inl h)))), by omega⟩
theorem ta_J6 (h : (105 ≤ q ∧ q ≤ 107) ∧ (40 * lv ≤ j ∧ j < 40 * lv + 40)) : ta_SJ lv q j := ⟨Or.inr (Or.inr (Or.inr (Or.inr (Or.inr (Or.inl h))))), by omega⟩
theorem ta_J7 (h : (108 ≤ q ∧ q ≤ 113) ∧ (240 * lv ≤ j ∧ j < 240 * lv + 240)) : ta_SJ lv q j := ⟨Or.inr (Or.inr (Or.inr (Or.inr (Or.inr (Or.inr (Or.inl h)))))), by omega⟩
theorem ta_J8 (h : (114 ≤ q ∧ q ≤ 119) ∧ (250 * lv ≤ j ∧ j < 250 * lv + 250)) : ta_SJ lv q j := ⟨Or.inr (Or.inr (Or.inr (Or.inr (Or.inr (Or.inr (Or.inr (Or.inl h))))))), by omega⟩
theorem ta_J9 (h : (120 ≤ q ∧ q ≤ 122) ∧ (700 * lv ≤ j ∧ j < 700 * lv + 700)) : ta_SJ lv q j := ⟨Or.inr (Or.inr (Or.inr (Or.inr (Or.inr (Or.inr (Or.inr (Or.inr (Or.inl h)))))))), by omega⟩
theorem ta_J10 (h : 123 ≤ q ∧ q ≤ 128) : ta_SJ lv q j := ⟨Or.inr (Or.inr (Or.inr (Or.inr (Or.inr (Or.inr (Or.inr (Or.inr (Or.inr h)))))))), by omega⟩
theorem ta_H3 (h : (q = 96 ∨ q = 97) ∧ (6 * lv ≤ j ∧ j < 6 * lv + 6)) : ta_SH lv q j := Or.inr (Or.inr (Or.inl h))
end TBQ0
theorem ta_S1J (lv : Nat) : ∀ q j, ta_S1 q j → ta_SJ lv q j := fun q j h => by unfold ta_S1 at h; exact ta_J1 (by omega)
theorem ta_S5J (lv : Nat) : ∀ q j, ta_S5 q j → ta_SJ lv q j := fun q j h => by unfold ta_S5 at h; exact ta_J1 (by omega)
theorem ta_S1H (lv : Nat) : ∀ q j, ta_S1 q j → ta_SH lv q j := fun q j h => (ta_S1J lv q j h).1
theorem ta_SSH (lv : Nat) : ∀ q j, ta_SS lv q j → ta_SH lv q j := by
  intro q j h
  rcases h with h | h | h | h
  · exact ta_S1H lv q j h
  · exact (ta_S5J lv q j h).1
  · exact (ta_J2 ⟨Or.inl h.1, h.2⟩).1
  · exact ta_H3 h
theorem ta_SEJ (lv : Nat) : ∀ q j, ta_SE lv q j → ta_SJ lv q j := by
  intro q j h
  rcases h with h | h | h
  · exact ta_J1 (by omega)
  · exact ta_J9 ⟨⟨h.1, h.2.1⟩, h.2.2⟩
  · exact ta_J10 h
theorem ta_SLJ (lv : Nat) : ∀ q j, ta_SL lv q j → ta_SJ lv q j := by
  intro q j h
  rcases h with h | h | h
  · exact ta_SEJ lv q j h
  · exact ta_J1 (by omega)
  · exact ta_J8 ⟨⟨h.1, h.2.1⟩, h.2.2⟩
theorem ta_SKJ {lv k : Nat} (hk : k < 5) (q j : Nat) (h : ta_SK (5 * lv + k) lv q j) : ta_SJ lv q j := by
  rcases h with h | h | h | h
  · exact ta_SLJ lv q j h
  · exact ta_J6 ⟨h.1, by omega⟩
  · exact ta_J7 ⟨h.1, by omega⟩
  · exact ta_J4 ⟨by omega, by omega⟩
theorem ta_SVJ {lv k : Nat} (hk : k < 5) (q j : Nat) (h : ta_SV (5 * lv + k) q j) : ta_SJ lv q j := by
  rcases h with h | h | h | h
  · exact ta_S1J lv q j h
  · exact ta_S5J lv q j h
  · exact ta_J4 ⟨by omega, by omega⟩
  · exact ta_J5 ⟨h.1, by omega⟩
theorem ta_SQH {lv k : Nat} : ∀ q j, ta_SQ lv k q j → ta_SJ lv q j := by
  intro q j h
  rcases h with ⟨hk, h⟩ | h
  · rcases h with h | h | h | h | h
    · exact ta_SKJ hk q j h
    · exact ta_SVJ hk q j h
    · exact ta_J1 (by omega)
    · exact ta_J2 ⟨Or.inr h.1, h.2⟩
    · exact ta_J4 ⟨Or.inl h.1, by omega⟩
  · exact ta_S1J lv q j h
section TBQ
variable {T : List tw_Tk} {n : Nat} {lv : Nat} {SN : List Nat} {acc : Option (Nat × Nat)}
def ta_os (lv : Nat) (T : List tw_Tk) (n : Nat) (s : ty_Ps) (SN : List Nat) (acc : Option (Nat × Nat)) (Ks : List ty_Ki) (σ : rx_St) : Prop := ta_ou lv T n s SN (Ks.map (fun x => x.1)) (ta_kC T lv SN 0 Ks) (ta_kQ lv SN 0 0 Ks) (ty_mn T n acc (ta_kE T lv SN [] Ks)) (ta_kL 0 Ks) σ ∧ (s.1 = 0 → ta_kr lv T SN σ 0 0 0 Ks)
theorem ta_SQ_k {k q j : Nat} (h : (q = 100 ∨ q = 104) ∧ j < 5 * lv + k ∨ (101 ≤ q ∧ q ≤ 103) ∧ j < 6 * (5 * lv + k) ∨ (105 ≤ q ∧ q ≤ 107) ∧ j < 8 * (5 * lv + k) ∨ (q = 108 ∨ q = 109 ∨ q = 112 ∨ q = 113) ∧ j < 48 * (5 * lv + k)) : ¬ ta_SQ lv k q j := by
  intro y
  rcases y with ⟨hk, y⟩ | y
  · rcases y with y | y | y | y | y
    · rcases y with y | y | y | y
      · rcases y with y | y | y
        · unfold ta_SE at y; omega
        · omega
        · omega
      · omega
      · omega
      · omega
    · unfold ta_SV ta_S1 ta_S5 at y; omega
    · omega
    · omega
    · omega
  · unfold ta_S1 at y; omega
theorem ta_os.step {s : ty_Ps} {Ks : List ty_Ki} {w : ty_Ps × ty_Ki} {σ σ' : rx_St} (h : ta_os lv T n s SN acc Ks σ) (hs : s.1 = 0) (g : ta_kd lv T n SN (Ks.map (fun x => x.1)) (ta_kC T lv SN 0 Ks) (ta_kQ lv SN 0 0 Ks) (ty_mn T n acc (ta_kE T lv SN [] Ks)) (ta_kL 0 Ks) σ w σ') : tw_fr (ta_SJ lv) σ σ' ∧ ta_os lv T n w.1 SN acc (Ks ++ [w.2]) σ' := by
  obtain ⟨g1, g2, g3⟩ := g
  rw [List.length_map] at g1 g2 g3
  rw [ta_kC_len] at g2 g3
  refine ⟨g1.mn ta_SQH, ?_, fun z => ?_⟩
  · have e1 : (Ks ++ [w.2]).map (fun x => x.1) = Ks.map (fun x => x.1) ++ [w.2.1] := List.map_append
    have e2 : ta_kC T lv SN 0 (Ks ++ [w.2]) = ta_kC T lv SN 0 Ks ++ (ta_rops w.2.2.2).map (ta_oc T (ta_X1 lv SN Ks.length w.2)) := by rw [ta_kC_app, ta_kC, ta_kC, List.append_nil, Nat.zero_add]
    have e3 : ta_kQ lv SN 0 0 (Ks ++ [w.2]) = ta_kQ lv SN 0 0 Ks ++ ta_rqs (ta_X1 lv SN Ks.length w.2) (ta_kz Ks) 0 w.2.2.2 := by rw [ta_kQ_app, ta_kQ, ta_kQ, List.append_nil, Nat.zero_add, Nat.zero_add]
    have e4 : ty_mn T n acc (ta_kE T lv SN [] (Ks ++ [w.2])) = ty_mn T n (ty_mn T n acc (ta_kE T lv SN [] Ks)) (ta_ne T SN (Ks.map (fun x => x.1)) w.2.1 ++ (ta_ve T [] w.2.2.1 ++ w.2.2.2.flatMap (ta_re T (ta_X1 lv SN Ks.length w.2)))) := by
      rw [ta_kE_app, ta_kE, ta_kE, List.append_nil, List.nil_append, List.length_map, ty_mn_app]
    have e5 : ta_kL 0 (Ks ++ [w.2]) = ta_kL 0 Ks ++ ta_rls (ta_kz Ks) w.2.2.2 := by rw [ta_kL_app, ta_kL, ta_kL, List.append_nil, Nat.zero_add]
    rw [e1, e2, e3, e4, e5]
    exact g2
  · obtain ⟨k5, k1⟩ := g3 z
    rw [ta_kr_app, Nat.zero_add, Nat.zero_add, Nat.zero_add]
    exact ⟨ta_kr.fr (e := Ks.length) (fun q j y => g1 q j (ta_SQ_k y)) Ks 0 0 0 (Nat.zero_add _) (h.2 hs), k1, trivial⟩
/-- all KINDS and the text's end -/
theorem ta_kls {P : Int32 × rx_St → Prop} {σ0 : rx_St} (hP : ∀ i, ty_Pl T n i ≤ 2000) : ∀ (j m : Nat) (Ks : List ty_Ki) (s : ty_Ps) (σ : rx_St), j + Ks.length = 6 → j < m → ta_os lv T n s SN acc Ks σ → tw_fr (ta_SJ lv) σ0 σ →
    (∀ σ', tw_fr (ta_SJ lv) σ0 σ' → ta_os lv T n (ty_end T (ty_ks T j s Ks).1) SN acc (ty_ks T j s Ks).2 σ' → tw_ok (f_m_read_183 rx_fu (0 : Int32) σ') P) → tw_ok (f_m_read_145 m σ) P := by
  intro j
  have stop : ∀ (Ks : List ty_Ki) (s : ty_Ps) (σ : rx_St), ta_os lv T n s SN acc Ks σ → tw_fr (ta_SJ lv) σ0 σ → (∀ σ', tw_fr (ta_SJ lv) σ0 σ' → ta_os lv T n (ty_end T s) SN acc Ks σ' → tw_ok (f_m_read_183 rx_fu (0 : Int32) σ') P) →
      tw_ok (if (σ.1 87 13) = (0 : Int32) then ((f_m_is (0 : Int32) σ).bind fun y2 => if y2 = (0 : Int32) then ((f_m_fail (1 : Int32) σ).bind fun y3 => f_m_read_181 y3) else f_m_read_181 σ) else f_m_read_181 σ) P := by
    intro Ks s σ h f k
    rw [tw_ifE h.1.2.1.z]
    unfold ty_end at k
    by_cases z : s.1 = 0
    · rw [if_pos z, tm_is (m := (0 : Int32)) 37 rfl (by omega) h.1.1 h.1.2.1, Option.bind_some, tm_ifz]
      by_cases c : ty_nx T s = 37
      · rw [if_pos c]
        rw [if_neg (fun y => y.2 c)] at k
        exact k σ f h
      · rw [if_neg c]
        rw [if_pos ⟨z, c⟩] at k
        refine tw_b (tm_fail (m := (1 : Int32)) 1 rfl (by omega) (by omega) h.1.1 h.1.2.1) (fun σ1 g => ?_)
        obtain ⟨g1, g2⟩ := g
        rw [if_pos z] at g2
        exact k σ1 (f.tr (g1.mn (ta_S1J lv))) ⟨h.1.of1 g1 g2 (fun y => absurd (show 1 = 0 from y) (by decide)), fun y => absurd (show 1 = 0 from y) (by decide)⟩
    · rw [if_neg z]
      rw [if_neg (fun y => z y.1)] at k
      exact k σ f h
  induction j with
  | zero =>
    intro m Ks s σ hj hm h f k
    obtain ⟨m, rfl⟩ : ∃ m', m = m' + 1 := ⟨m - 1, by omega⟩
    have z : ¬ s.1 = 0 := fun z => by
      have := (h.1.2.2 z).2.2.1.2.1
      rw [List.length_map] at this
      omega
    unfold f_m_read_145
    rw [tm_is (m := (21 : Int32)) 1 rfl (by omega) h.1.1 h.1.2.1, Option.bind_some, tm_ifz, if_neg (by rw [ty_nx_f z]; omega)]
    exact stop Ks s σ h f k
  | succ j ih =>
    intro m Ks s σ hj hm h f k
    obtain ⟨m, rfl⟩ : ∃ m', m = m' + 1 := ⟨m - 1, by omega⟩
    unfold f_m_read_145
    rw [tm_is (m := (21 : Int32)) 1 rfl (by omega) h.1.1 h.1.2.1, Option.bind_some, tm_ifz]
    unfold ty_ks at k
    by_cases c : ty_nx T s = 1
    · rw [if_pos c]
      rw [if_pos c] at k
      have hs := (ty_nx_0 (T := T) (s := s) (by omega)).1
      have g := ta_K hP c h.1
      rw [List.length_map] at g
      refine tw_b g (fun σ1 g => ?_)
      obtain ⟨g1, g2⟩ := h.step hs g
      exact ih m _ _ σ1 (by rw [List.length_append]; show j + (Ks.length + 1) = 6; omega) (by omega) g2 (f.tr g1) k
    · rw [if_neg c]
      rw [if_neg c] at k
      exact stop Ks s σ h f k
end TBQ
