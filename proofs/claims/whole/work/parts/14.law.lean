/-! THE LAW'S LOOP: a step for each call; the end; and the claim's walk -/
def rw_P (w p2 p3 : Nat) : List Nat := [7 + 14 * w, 21 - 14 * w, p2, p3, 7 + 14 * w]
def rw_L (v : Int32) : rx_L := [(0, .ref 9999), (1, .ref 0), (2, .ref 87), (3, .ref 161), (4, .int v)]
theorem rw_in {i L : Nat} (j : Nat) (hi : i + 8 ≤ L) (hL : L ≤ 4096) (hj : j < 8) : vp_in (nI i + nI j) L := by
  rw [nI_add]
  exact vp_in_nI (by omega) (by omega)
theorem rw_in0 {i L : Nat} (hi : i + 8 ≤ L) (hL : L ≤ 4096) : vp_in (nI i) L := vp_in_nI (by omega) (by omega)
theorem rw_cmp {a b : Int64} (h : a = b) : lg_cmp a b = 0 := by
  subst h
  unfold lg_cmp
  rw [if_neg (fun h : a < a => Int64.lt_irrefl h), if_pos rfl]
/-- one call of the script: v its place, op what is called -/
def rw_s0 (xs : Nat → Int32) (v : Int32) (w p2 p3 : Nat) (σ : rx_St) (w' p2' p3' d : Nat) (σ' : rx_St) : Prop := ∃ o1 o2, f_c_feed (xs (v + (1 : Int32)).toNatClampNeg) (xs (v + (2 : Int32)).toNatClampNeg) (xs (v + (3 : Int32)).toNatClampNeg) (xs (v + (4 : Int32)).toNatClampNeg) (xs (v + (5 : Int32)).toNatClampNeg) σ = some o1 ∧ f_m_feed (xs (v + (1 : Int32)).toNatClampNeg) (xs (v + (2 : Int32)).toNatClampNeg) (xs (v + (3 : Int32)).toNatClampNeg) (xs (v + (4 : Int32)).toNatClampNeg) (xs (v + (5 : Int32)).toNatClampNeg) o1.2 = some o2 ∧ o1.1 = o2.1 ∧ σ' = o2.2 ∧ w' = w ∧ p2' = p2 ∧ p3' = p3 ∧ d = 0
def rw_s1 (xs : Nat → Int32) (v : Int32) (w p2 p3 : Nat) (σ : rx_St) (w' p2' p3' d : Nat) (σ' : rx_St) : Prop := ∃ o1 o2, f_c_back (xs (v + (1 : Int32)).toNatClampNeg) σ = some o1 ∧ f_m_back (xs (v + (1 : Int32)).toNatClampNeg) o1.2 = some o2 ∧ o1.1 = o2.1 ∧ σ' = o2.2 ∧ w' = w ∧ p2' = p2 ∧ p3' = p3 ∧ d = 0
def rw_s2 (xs : Nat → Int32) (v : Int32) (w p2 p3 : Nat) (σ : rx_St) (w' p2' p3' d : Nat) (σ' : rx_St) : Prop := ∃ o1 o2, f_c_read w p3 σ = some o1 ∧ f_m_read o1.2.1 = some o2 ∧ o1.1 = o2.1 ∧ σ' = o2.2 ∧ o1.2.2 = rw_P w' p2' p3' ∧ (w' = 0 ∨ w' = 1) ∧ d = 0
def rw_s3 (xs : Nat → Int32) (v : Int32) (w p2 p3 : Nat) (σ : rx_St) (w' p2' p3' d : Nat) (σ' : rx_St) : Prop := ∃ o2, f_m_place σ = some o2 ∧ f_c_place σ = o2.1 ∧ σ' = o2.2 ∧ w' = w ∧ p2' = p2 ∧ p3' = p3 ∧ d = 0
def rw_s4 (xs : Nat → Int32) (v : Int32) (w p2 p3 : Nat) (σ : rx_St) (w' p2' p3' d : Nat) (σ' : rx_St) : Prop := ∃ o1 o2, f_c_set w (xs (v + (1 : Int32)).toNatClampNeg) (xs (v + (2 : Int32)).toNatClampNeg) σ = some o1 ∧ f_m_set (xs (v + (1 : Int32)).toNatClampNeg) (xs (v + (2 : Int32)).toNatClampNeg) o1.2 = some o2 ∧ o1.1 = o2.1 ∧ σ' = o2.2 ∧ w' = w ∧ p2' = p2 ∧ p3' = p3 ∧ d = 0
def rw_s5 (xs : Nat → Int32) (v : Int32) (w p2 p3 : Nat) (σ : rx_St) (w' p2' p3' d : Nat) (σ' : rx_St) : Prop := (0 ≤ (xs (v + (1 : Int32)).toNatClampNeg) ∧ (xs (v + (1 : Int32)).toNatClampNeg) < σ.1 (7 + 14 * w) 0 → vp_in (xs (v + (1 : Int32)).toNatClampNeg) 6) ∧ ∃ o2, f_m_setting (xs (v + (1 : Int32)).toNatClampNeg) (rv_o (7 + 14 * w) (xs (v + (1 : Int32)).toNatClampNeg) σ) = some o2 ∧ f_m_thrown o2.2 = rv_v (7 + 14 * w) (xs (v + (1 : Int32)).toNatClampNeg) σ ∧ (rv_v (7 + 14 * w) (xs (v + (1 : Int32)).toNatClampNeg) σ = 0 → o2.2.2 161 0 = o2.1.toInt64) ∧ σ' = o2.2 ∧ w' = w ∧ p2' = p2 ∧ p3' = p3 ∧ d = 1
def rw_s6 (xs : Nat → Int32) (v : Int32) (w p2 p3 : Nat) (σ : rx_St) (w' p2' p3' d : Nat) (σ' : rx_St) : Prop := ∃ o1 o2, f_c_one w (xs (v + (1 : Int32)).toNatClampNeg) (xs (v + (2 : Int32)).toNatClampNeg) (xs (v + (3 : Int32)).toNatClampNeg) σ = some o1 ∧ f_m_one (xs (v + (1 : Int32)).toNatClampNeg) (xs (v + (2 : Int32)).toNatClampNeg) (xs (v + (3 : Int32)).toNatClampNeg) o1.2 = some o2 ∧ o1.1 = o2.1 ∧ σ' = o2.2 ∧ w' = w ∧ p2' = p2 ∧ p3' = p3 ∧ d = 0
def rw_s7 (xs : Nat → Int32) (v : Int32) (w p2 p3 : Nat) (σ : rx_St) (w' p2' p3' d : Nat) (σ' : rx_St) : Prop := ∃ o1 o2, f_c_begin w (xs (v + (1 : Int32)).toNatClampNeg) (xs (v + (2 : Int32)).toNatClampNeg) (xs (v + (3 : Int32)).toNatClampNeg) σ = some o1 ∧ f_m_begin (xs (v + (1 : Int32)).toNatClampNeg) (xs (v + (2 : Int32)).toNatClampNeg) (xs (v + (3 : Int32)).toNatClampNeg) o1.2 = some o2 ∧ o1.1 = o2.1 ∧ σ' = o2.2 ∧ w' = w ∧ p2' = p2 ∧ p3' = p3 ∧ d = 0
def rw_s8 (xs : Nat → Int32) (v : Int32) (w p2 p3 : Nat) (σ : rx_St) (w' p2' p3' d : Nat) (σ' : rx_St) : Prop := ∃ o1 o2, f_c_order (if (xs (v + (1 : Int32)).toNatClampNeg) = 0 then 0 else 1) σ = some o1 ∧ f_m_order (if (xs (v + (1 : Int32)).toNatClampNeg) = 0 then 0 else 1) o1 = some o2 ∧ σ' = o2 ∧ w' = w ∧ p2' = p2 ∧ p3' = p3 ∧ d = 0
def rw_s9 (xs : Nat → Int32) (v : Int32) (w p2 p3 : Nat) (σ : rx_St) (w' p2' p3' d : Nat) (σ' : rx_St) : Prop := ∃ o1 o2, f_c_lot (xs (v + (1 : Int32)).toNatClampNeg) (xs (v + (2 : Int32)).toNatClampNeg) (xs (v + (3 : Int32)).toNatClampNeg) (xs (v + (4 : Int32)).toNatClampNeg) (xs (v + (5 : Int32)).toNatClampNeg) = some o1 ∧ f_m_lot (xs (v + (1 : Int32)).toNatClampNeg) (xs (v + (2 : Int32)).toNatClampNeg) (xs (v + (3 : Int32)).toNatClampNeg) (xs (v + (4 : Int32)).toNatClampNeg) (xs (v + (5 : Int32)).toNatClampNeg) σ = some o2 ∧ o1 = o2.1 ∧ σ' = o2.2 ∧ w' = w ∧ p2' = p2 ∧ p3' = p3 ∧ d = 0
def rw_s10 (xs : Nat → Int32) (v : Int32) (w p2 p3 : Nat) (σ : rx_St) (w' p2' p3' d : Nat) (σ' : rx_St) : Prop := ∃ o1 o2, f_c_state w (xs (v + (1 : Int32)).toNatClampNeg) (xs (v + (2 : Int32)).toNatClampNeg) (xs (v + (3 : Int32)).toNatClampNeg) (xs (v + (4 : Int32)).toNatClampNeg) σ = some o1 ∧ f_m_state (xs (v + (1 : Int32)).toNatClampNeg) (xs (v + (2 : Int32)).toNatClampNeg) (xs (v + (3 : Int32)).toNatClampNeg) (xs (v + (4 : Int32)).toNatClampNeg) o1.2 = some o2 ∧ o1.1 = o2.1 ∧ σ' = o2.2 ∧ w' = w ∧ p2' = p2 ∧ p3' = p3 ∧ d = 0
def rw_s11 (xs : Nat → Int32) (v : Int32) (w p2 p3 : Nat) (σ : rx_St) (w' p2' p3' d : Nat) (σ' : rx_St) : Prop := ∃ o1 o2, f_c_at w (xs (v + (1 : Int32)).toNatClampNeg) (xs (v + (2 : Int32)).toNatClampNeg) (xs (v + (3 : Int32)).toNatClampNeg) σ = some o1 ∧ f_m_at2 (xs (v + (1 : Int32)).toNatClampNeg) (xs (v + (2 : Int32)).toNatClampNeg) (xs (v + (3 : Int32)).toNatClampNeg) o1.2 = some o2 ∧ o1.1 = o2.1 ∧ σ' = o2.2 ∧ w' = w ∧ p2' = p2 ∧ p3' = p3 ∧ d = 0
def rw_s12 (xs : Nat → Int32) (v : Int32) (w p2 p3 : Nat) (σ : rx_St) (w' p2' p3' d : Nat) (σ' : rx_St) : Prop := ∃ o1 o2, f_c_figure w (xs (v + (1 : Int32)).toNatClampNeg) (xs (v + (2 : Int32)).toNatClampNeg) (xs (v + (3 : Int32)).toNatClampNeg) (xs (v + (4 : Int32)).toNatClampNeg) σ = some o1 ∧ f_m_figure (xs (v + (1 : Int32)).toNatClampNeg) (xs (v + (2 : Int32)).toNatClampNeg) (xs (v + (3 : Int32)).toNatClampNeg) (xs (v + (4 : Int32)).toNatClampNeg) o1.2 = some o2 ∧ o1.1 = o2.1 ∧ σ' = o2.2 ∧ w' = w ∧ p2' = p2 ∧ p3' = p3 ∧ d = 0
def rw_s13 (xs : Nat → Int32) (v : Int32) (w p2 p3 : Nat) (σ : rx_St) (w' p2' p3' d : Nat) (σ' : rx_St) : Prop := ∃ o1 o2, f_c_wishes w (xs (v + (1 : Int32)).toNatClampNeg) (xs (v + (2 : Int32)).toNatClampNeg) (xs (v + (3 : Int32)).toNatClampNeg) σ = some o1 ∧ f_m_wishes (xs (v + (1 : Int32)).toNatClampNeg) (xs (v + (2 : Int32)).toNatClampNeg) (xs (v + (3 : Int32)).toNatClampNeg) o1.2 = some o2 ∧ o1.1 = o2.1 ∧ σ' = o2.2 ∧ w' = w ∧ p2' = p2 ∧ p3' = p3 ∧ d = 0
def rw_s14 (xs : Nat → Int32) (v : Int32) (w p2 p3 : Nat) (σ : rx_St) (w' p2' p3' d : Nat) (σ' : rx_St) : Prop := ∃ o1 o2, f_c_changed w (xs (v + (1 : Int32)).toNatClampNeg) (xs (v + (2 : Int32)).toNatClampNeg) (xs (v + (3 : Int32)).toNatClampNeg) (xs (v + (4 : Int32)).toNatClampNeg) σ = some o1 ∧ f_m_changed (xs (v + (1 : Int32)).toNatClampNeg) (xs (v + (2 : Int32)).toNatClampNeg) (xs (v + (3 : Int32)).toNatClampNeg) (xs (v + (4 : Int32)).toNatClampNeg) o1.2 = some o2 ∧ o1.1 = o2.1 ∧ σ' = o2.2 ∧ w' = w ∧ p2' = p2 ∧ p3' = p3 ∧ d = 0
def rw_s15 (xs : Nat → Int32) (v : Int32) (w p2 p3 : Nat) (σ : rx_St) (w' p2' p3' d : Nat) (σ' : rx_St) : Prop := ∃ o1 o2, f_c_first w (xs (v + (1 : Int32)).toNatClampNeg) (xs (v + (2 : Int32)).toNatClampNeg) (xs (v + (3 : Int32)).toNatClampNeg) (xs (v + (4 : Int32)).toNatClampNeg) (xs (v + (5 : Int32)).toNatClampNeg) σ = some o1 ∧ f_m_first (xs (v + (1 : Int32)).toNatClampNeg) (xs (v + (2 : Int32)).toNatClampNeg) (xs (v + (3 : Int32)).toNatClampNeg) (xs (v + (4 : Int32)).toNatClampNeg) (xs (v + (5 : Int32)).toNatClampNeg) o1.2 = some o2 ∧ o1.1 = o2.1 ∧ σ' = o2.2 ∧ w' = w ∧ p2' = p2 ∧ p3' = p3 ∧ d = 0
def rw_s16 (xs : Nat → Int32) (v : Int32) (w p2 p3 : Nat) (σ : rx_St) (w' p2' p3' d : Nat) (σ' : rx_St) : Prop := ∃ o1 o2, f_c_cause w (xs (v + (1 : Int32)).toNatClampNeg) (xs (v + (2 : Int32)).toNatClampNeg) σ = some o1 ∧ f_m_cause (xs (v + (1 : Int32)).toNatClampNeg) (xs (v + (2 : Int32)).toNatClampNeg) o1.2 = some o2 ∧ o1.1 = o2.1 ∧ σ' = o2.2 ∧ w' = w ∧ p2' = p2 ∧ p3' = p3 ∧ d = 0
def rw_s17 (xs : Nat → Int32) (v : Int32) (w p2 p3 : Nat) (σ : rx_St) (w' p2' p3' d : Nat) (σ' : rx_St) : Prop := ∃ o1 o2, f_c_clear σ = some o1 ∧ f_m_clear o1.2 = some o2 ∧ o1.1 = o2.1 ∧ σ' = o2.2 ∧ w' = w ∧ p2' = p2 ∧ p3' = p3 ∧ d = 0
def rw_s18 (xs : Nat → Int32) (v : Int32) (w p2 p3 : Nat) (σ : rx_St) (w' p2' p3' d : Nat) (σ' : rx_St) : Prop := ∃ o1 o2, f_c_share w (xs (v + (1 : Int32)).toNatClampNeg) (xs (v + (2 : Int32)).toNatClampNeg) (xs (v + (3 : Int32)).toNatClampNeg) (xs (v + (4 : Int32)).toNatClampNeg) (xs (v + (5 : Int32)).toNatClampNeg) σ = some o1 ∧ f_m_share (xs (v + (1 : Int32)).toNatClampNeg) (xs (v + (2 : Int32)).toNatClampNeg) (xs (v + (3 : Int32)).toNatClampNeg) (xs (v + (4 : Int32)).toNatClampNeg) (xs (v + (5 : Int32)).toNatClampNeg) o1.2 = some o2 ∧ o1.1 = o2.1 ∧ σ' = o2.2 ∧ w' = w ∧ p2' = p2 ∧ p3' = p3 ∧ d = 0
def rw_s19 (xs : Nat → Int32) (v : Int32) (w p2 p3 : Nat) (σ : rx_St) (w' p2' p3' d : Nat) (σ' : rx_St) : Prop := ∃ o1 o2, f_c_seen w (xs (v + (1 : Int32)).toNatClampNeg) (xs (v + (2 : Int32)).toNatClampNeg) (xs (v + (3 : Int32)).toNatClampNeg) (xs (v + (4 : Int32)).toNatClampNeg) (xs (v + (5 : Int32)).toNatClampNeg) σ = some o1 ∧ f_m_seen (xs (v + (1 : Int32)).toNatClampNeg) (xs (v + (2 : Int32)).toNatClampNeg) (xs (v + (3 : Int32)).toNatClampNeg) (xs (v + (4 : Int32)).toNatClampNeg) (xs (v + (5 : Int32)).toNatClampNeg) o1.2 = some o2 ∧ o1.1 = o2.1 ∧ σ' = o2.2 ∧ w' = w ∧ p2' = p2 ∧ p3' = p3 ∧ d = 0
def rw_s20 (xs : Nat → Int32) (v : Int32) (w p2 p3 : Nat) (σ : rx_St) (w' p2' p3' d : Nat) (σ' : rx_St) : Prop := ∃ o1 o2, f_c_span w (xs (v + (1 : Int32)).toNatClampNeg) (xs (v + (2 : Int32)).toNatClampNeg) (xs (v + (3 : Int32)).toNatClampNeg) (xs (v + (4 : Int32)).toNatClampNeg) σ = some o1 ∧ f_m_span (xs (v + (1 : Int32)).toNatClampNeg) (xs (v + (2 : Int32)).toNatClampNeg) (xs (v + (3 : Int32)).toNatClampNeg) (xs (v + (4 : Int32)).toNatClampNeg) o1.2 = some o2 ∧ o1.1 = o2.1 ∧ σ' = o2.2 ∧ w' = w ∧ p2' = p2 ∧ p3' = p3 ∧ d = 0
def rw_s21 (xs : Nat → Int32) (v : Int32) (w p2 p3 : Nat) (σ : rx_St) (w' p2' p3' d : Nat) (σ' : rx_St) : Prop := ∃ o1 o2, f_c_meets w (xs (v + (1 : Int32)).toNatClampNeg) σ = some o1 ∧ f_m_meets (xs (v + (1 : Int32)).toNatClampNeg) o1.2 = some o2 ∧ o1.1 = o2.1 ∧ σ' = o2.2 ∧ w' = w ∧ p2' = p2 ∧ p3' = p3 ∧ d = 0
def rw_s22 (xs : Nat → Int32) (v : Int32) (w p2 p3 : Nat) (σ : rx_St) (w' p2' p3' d : Nat) (σ' : rx_St) : Prop := ∃ o1 o2, f_c_met w (xs (v + (1 : Int32)).toNatClampNeg) (xs (v + (2 : Int32)).toNatClampNeg) (xs (v + (3 : Int32)).toNatClampNeg) σ = some o1 ∧ f_m_met (xs (v + (1 : Int32)).toNatClampNeg) (xs (v + (2 : Int32)).toNatClampNeg) (xs (v + (3 : Int32)).toNatClampNeg) o1.2 = some o2 ∧ o1.1 = o2.1 ∧ σ' = o2.2 ∧ w' = w ∧ p2' = p2 ∧ p3' = p3 ∧ d = 0
def rw_s23 (xs : Nat → Int32) (v : Int32) (w p2 p3 : Nat) (σ : rx_St) (w' p2' p3' d : Nat) (σ' : rx_St) : Prop := ∃ o1 o2, f_c_untold w (xs (v + (1 : Int32)).toNatClampNeg) σ = some o1 ∧ f_m_untold (xs (v + (1 : Int32)).toNatClampNeg) o1.2 = some o2 ∧ o1.1 = o2.1 ∧ σ' = o2.2 ∧ w' = w ∧ p2' = p2 ∧ p3' = p3 ∧ d = 0
def rw_s24 (xs : Nat → Int32) (v : Int32) (w p2 p3 : Nat) (σ : rx_St) (w' p2' p3' d : Nat) (σ' : rx_St) : Prop := ∃ o1 o2, f_c_would w (xs (v + (1 : Int32)).toNatClampNeg) (xs (v + (2 : Int32)).toNatClampNeg) (xs (v + (3 : Int32)).toNatClampNeg) (xs (v + (4 : Int32)).toNatClampNeg) (xs (v + (5 : Int32)).toNatClampNeg) (xs (v + (6 : Int32)).toNatClampNeg) (xs (v + (7 : Int32)).toNatClampNeg) σ = some o1 ∧ f_m_would (xs (v + (1 : Int32)).toNatClampNeg) (xs (v + (2 : Int32)).toNatClampNeg) (xs (v + (3 : Int32)).toNatClampNeg) (xs (v + (4 : Int32)).toNatClampNeg) (xs (v + (5 : Int32)).toNatClampNeg) (xs (v + (6 : Int32)).toNatClampNeg) (xs (v + (7 : Int32)).toNatClampNeg) o1.2 = some o2 ∧ o1.1 = o2.1 ∧ σ' = o2.2 ∧ w' = w ∧ p2' = p2 ∧ p3' = p3 ∧ d = 0
def rw_s25 (xs : Nat → Int32) (v : Int32) (w p2 p3 : Nat) (σ : rx_St) (w' p2' p3' d : Nat) (σ' : rx_St) : Prop := ∃ o1 o2, f_c_tells (xs (v + (1 : Int32)).toNatClampNeg) (xs (v + (2 : Int32)).toNatClampNeg) (xs (v + (3 : Int32)).toNatClampNeg) = some o1 ∧ f_m_tells (xs (v + (1 : Int32)).toNatClampNeg) (xs (v + (2 : Int32)).toNatClampNeg) (xs (v + (3 : Int32)).toNatClampNeg) σ = some o2 ∧ o1 = o2.1 ∧ σ' = o2.2 ∧ w' = w ∧ p2' = p2 ∧ p3' = p3 ∧ d = 0
def rw_s26 (xs : Nat → Int32) (v : Int32) (w p2 p3 : Nat) (σ : rx_St) (w' p2' p3' d : Nat) (σ' : rx_St) : Prop := ∃ o1 o2, f_c_fewest (xs (v + (1 : Int32)).toNatClampNeg) (xs (v + (2 : Int32)).toNatClampNeg) = some o1 ∧ f_m_fewest (xs (v + (1 : Int32)).toNatClampNeg) (xs (v + (2 : Int32)).toNatClampNeg) σ = some o2 ∧ o1 = o2.1 ∧ σ' = o2.2 ∧ w' = w ∧ p2' = p2 ∧ p3' = p3 ∧ d = 0
def rw_s27 (xs : Nat → Int32) (v : Int32) (w p2 p3 : Nat) (σ : rx_St) (w' p2' p3' d : Nat) (σ' : rx_St) : Prop := ∃ o1 o2, f_c_count w (xs (v + (1 : Int32)).toNatClampNeg) σ = some o1 ∧ f_m_count (xs (v + (1 : Int32)).toNatClampNeg) σ = some o2 ∧ o1 = o2.1 ∧ σ' = o2.2 ∧ w' = w ∧ p2' = p2 ∧ p3' = p3 ∧ d = 0
def rw_step (xs : Nat → Int32) (v : Int32) (w p2 p3 : Nat) (σ : rx_St) (w' p2' p3' d : Nat) (σ' : rx_St) : Prop := (w' = 0 ∨ w' = 1) ∧ d ≤ 1 ∧ (xs v.toNatClampNeg &&& (31 : Int32) = (0 : Int32) → rw_s0 xs v w p2 p3 σ w' p2' p3' d σ') ∧ (xs v.toNatClampNeg &&& (31 : Int32) = (1 : Int32) → rw_s1 xs v w p2 p3 σ w' p2' p3' d σ') ∧ (xs v.toNatClampNeg &&& (31 : Int32) = (2 : Int32) → rw_s2 xs v w p2 p3 σ w' p2' p3' d σ') ∧ (xs v.toNatClampNeg &&& (31 : Int32) = (3 : Int32) → rw_s3 xs v w p2 p3 σ w' p2' p3' d σ') ∧ (xs v.toNatClampNeg &&& (31 : Int32) = (4 : Int32) → rw_s4 xs v w p2 p3 σ w' p2' p3' d σ') ∧ (xs v.toNatClampNeg &&& (31 : Int32) = (5 : Int32) → rw_s5 xs v w p2 p3 σ w' p2' p3' d σ') ∧ (xs v.toNatClampNeg &&& (31 : Int32) = (6 : Int32) → rw_s6 xs v w p2 p3 σ w' p2' p3' d σ') ∧ (xs v.toNatClampNeg &&& (31 : Int32) = (7 : Int32) → rw_s7 xs v w p2 p3 σ w' p2' p3' d σ') ∧ (xs v.toNatClampNeg &&& (31 : Int32) = (8 : Int32) → rw_s8 xs v w p2 p3 σ w' p2' p3' d σ') ∧ (xs v.toNatClampNeg &&& (31 : Int32) = (9 : Int32) → rw_s9 xs v w p2 p3 σ w' p2' p3' d σ') ∧ (xs v.toNatClampNeg &&& (31 : Int32) = (10 : Int32) → rw_s10 xs v w p2 p3 σ w' p2' p3' d σ') ∧ (xs v.toNatClampNeg &&& (31 : Int32) = (11 : Int32) → rw_s11 xs v w p2 p3 σ w' p2' p3' d σ') ∧ (xs v.toNatClampNeg &&& (31 : Int32) = (12 : Int32) → rw_s12 xs v w p2 p3 σ w' p2' p3' d σ') ∧ (xs v.toNatClampNeg &&& (31 : Int32) = (13 : Int32) → rw_s13 xs v w p2 p3 σ w' p2' p3' d σ') ∧ (xs v.toNatClampNeg &&& (31 : Int32) = (14 : Int32) → rw_s14 xs v w p2 p3 σ w' p2' p3' d σ') ∧ (xs v.toNatClampNeg &&& (31 : Int32) = (15 : Int32) → rw_s15 xs v w p2 p3 σ w' p2' p3' d σ') ∧ (xs v.toNatClampNeg &&& (31 : Int32) = (16 : Int32) → rw_s16 xs v w p2 p3 σ w' p2' p3' d σ') ∧ (xs v.toNatClampNeg &&& (31 : Int32) = (17 : Int32) → rw_s17 xs v w p2 p3 σ w' p2' p3' d σ') ∧ (xs v.toNatClampNeg &&& (31 : Int32) = (18 : Int32) → rw_s18 xs v w p2 p3 σ w' p2' p3' d σ') ∧ (xs v.toNatClampNeg &&& (31 : Int32) = (19 : Int32) → rw_s19 xs v w p2 p3 σ w' p2' p3' d σ') ∧ (xs v.toNatClampNeg &&& (31 : Int32) = (20 : Int32) → rw_s20 xs v w p2 p3 σ w' p2' p3' d σ') ∧ (xs v.toNatClampNeg &&& (31 : Int32) = (21 : Int32) → rw_s21 xs v w p2 p3 σ w' p2' p3' d σ') ∧ (xs v.toNatClampNeg &&& (31 : Int32) = (22 : Int32) → rw_s22 xs v w p2 p3 σ w' p2' p3' d σ') ∧ (xs v.toNatClampNeg &&& (31 : Int32) = (23 : Int32) → rw_s23 xs v w p2 p3 σ w' p2' p3' d σ') ∧ (xs v.toNatClampNeg &&& (31 : Int32) = (24 : Int32) → rw_s24 xs v w p2 p3 σ w' p2' p3' d σ') ∧ (xs v.toNatClampNeg &&& (31 : Int32) = (25 : Int32) → rw_s25 xs v w p2 p3 σ w' p2' p3' d σ') ∧ (xs v.toNatClampNeg &&& (31 : Int32) = (26 : Int32) → rw_s26 xs v w p2 p3 σ w' p2' p3' d σ') ∧ (xs v.toNatClampNeg &&& (31 : Int32) = (27 : Int32) → rw_s27 xs v w p2 p3 σ w' p2' p3' d σ') ∧ ((∀ j : Nat, j < 28 → xs v.toNatClampNeg &&& (31 : Int32) ≠ nI j) → w' = w ∧ p2' = p2 ∧ p3' = p3 ∧ d = 0 ∧ σ' = σ)
set_option maxRecDepth 1000000 in
set_option maxHeartbeats 4000000 in
theorem rw_c0_0 {L : Nat} {xs : Nat → Int32} {out : rx_O} {c s p2 p3 p2' p3' w' d : Nat} {σ σ' : rx_St} {i : Nat} (hi : i + 8 ≤ L) (hL : L ≤ 4096) (hcc : c + d ≤ out.2.2.1) (hss : s + 6 * d ≤ out.2.2.2.1) (hs : rw_s0 xs (nI i) 0 p2 p3 σ w' p2' p3' d σ') (nx : rx_AtP (rv_S L xs) 263 23 (rw_L (nI i + (8 : Int32))) [] (162, c + d, s + 6 * d, [], rw_P w' p2' p3', σ') out) : rx_AtP (rv_S L xs) 263 168 (rw_L (nI i)) [] (162, c, s, [], rw_P 0 p2 p3, σ) out := by
  obtain ⟨o1, o2, hc, hm, he, rfl, rfl, rfl, rfl, rfl⟩ := hs
  refine rx_walk [23] 3000 (by decide) (rx_e263 L xs) ?_
  refine rr_ck (rw_in 1 hi hL (by decide)) ?_
  refine rr_ck (rw_in 2 hi hL (by decide)) ?_
  refine rr_ck (rw_in 3 hi hL (by decide)) ?_
  refine rr_ck (rw_in 4 hi hL (by decide)) ?_
  refine rr_ck (rw_in 5 hi hL (by decide)) ?_
  refine rr_callC (f_c_feed_ok _ hc) ⟨rfl, Nat.le_refl _, hcc, hss⟩ ?_
  refine rr_ck (rw_in 1 hi hL (by decide)) ?_
  refine rr_ck (rw_in 2 hi hL (by decide)) ?_
  refine rr_ck (rw_in 3 hi hL (by decide)) ?_
  refine rr_ck (rw_in 4 hi hL (by decide)) ?_
  refine rr_ck (rw_in 5 hi hL (by decide)) ?_
  refine rr_callC (f_m_feed_ok _ hm) ⟨rfl, Nat.le_refl _, hcc, hss⟩ ?_
  refine ⟨fun _ => ?_, fun h => absurd he h⟩
  exact rx_sub nx [1, 2, 3, 4, 0] rfl
set_option maxRecDepth 1000000 in
set_option maxHeartbeats 4000000 in
theorem rw_c0_1 {L : Nat} {xs : Nat → Int32} {out : rx_O} {c s p2 p3 p2' p3' w' d : Nat} {σ σ' : rx_St} {i : Nat} (hi : i + 8 ≤ L) (hL : L ≤ 4096) (hcc : c + d ≤ out.2.2.1) (hss : s + 6 * d ≤ out.2.2.2.1) (hs : rw_s0 xs (nI i) 1 p2 p3 σ w' p2' p3' d σ') (nx : rx_AtP (rv_S L xs) 263 23 (rw_L (nI i + (8 : Int32))) [] (162, c + d, s + 6 * d, [], rw_P w' p2' p3', σ') out) : rx_AtP (rv_S L xs) 263 168 (rw_L (nI i)) [] (162, c, s, [], rw_P 1 p2 p3, σ) out := by
  obtain ⟨o1, o2, hc, hm, he, rfl, rfl, rfl, rfl, rfl⟩ := hs
  refine rx_walk [23] 3000 (by decide) (rx_e263 L xs) ?_
  refine rr_ck (rw_in 1 hi hL (by decide)) ?_
  refine rr_ck (rw_in 2 hi hL (by decide)) ?_
  refine rr_ck (rw_in 3 hi hL (by decide)) ?_
  refine rr_ck (rw_in 4 hi hL (by decide)) ?_
  refine rr_ck (rw_in 5 hi hL (by decide)) ?_
  refine rr_callC (f_c_feed_ok _ hc) ⟨rfl, Nat.le_refl _, hcc, hss⟩ ?_
  refine rr_ck (rw_in 1 hi hL (by decide)) ?_
  refine rr_ck (rw_in 2 hi hL (by decide)) ?_
  refine rr_ck (rw_in 3 hi hL (by decide)) ?_
  refine rr_ck (rw_in 4 hi hL (by decide)) ?_
  refine rr_ck (rw_in 5 hi hL (by decide)) ?_
  refine rr_callC (f_m_feed_ok _ hm) ⟨rfl, Nat.le_refl _, hcc, hss⟩ ?_
  refine ⟨fun _ => ?_, fun h => absurd he h⟩
  exact rx_sub nx [1, 2, 3, 4, 0] rfl
set_option maxRecDepth 1000000 in
set_option maxHeartbeats 4000000 in
theorem rw_c1_0 {L : Nat} {xs : Nat → Int32} {out : rx_O} {c s p2 p3 p2' p3' w' d : Nat} {σ σ' : rx_St} {i : Nat} (hi : i + 8 ≤ L) (hL : L ≤ 4096) (hcc : c + d ≤ out.2.2.1) (hss : s + 6 * d ≤ out.2.2.2.1) (hs : rw_s1 xs (nI i) 0 p2 p3 σ w' p2' p3' d σ') (nx : rx_AtP (rv_S L xs) 263 23 (rw_L (nI i + (8 : Int32))) [] (162, c + d, s + 6 * d, [], rw_P w' p2' p3', σ') out) : rx_AtP (rv_S L xs) 263 241 (rw_L (nI i)) [] (162, c, s, [], rw_P 0 p2 p3, σ) out := by
  obtain ⟨o1, o2, hc, hm, he, rfl, rfl, rfl, rfl, rfl⟩ := hs
  refine rx_walk [23] 3000 (by decide) (rx_e263 L xs) ?_
  refine rr_ck (rw_in 1 hi hL (by decide)) ?_
  refine rr_callC (f_c_back_ok _ hc) ⟨rfl, Nat.le_refl _, hcc, hss⟩ ?_
  refine rr_ck (rw_in 1 hi hL (by decide)) ?_
  refine rr_callC (f_m_back_ok _ hm) ⟨rfl, Nat.le_refl _, hcc, hss⟩ ?_
  refine ⟨fun _ => ?_, fun h => absurd he h⟩
  exact rx_sub nx [1, 2, 3, 4, 0] rfl
set_option maxRecDepth 1000000 in
set_option maxHeartbeats 4000000 in
theorem rw_c1_1 {L : Nat} {xs : Nat → Int32} {out : rx_O} {c s p2 p3 p2' p3' w' d : Nat} {σ σ' : rx_St} {i : Nat} (hi : i + 8 ≤ L) (hL : L ≤ 4096) (hcc : c + d ≤ out.2.2.1) (hss : s + 6 * d ≤ out.2.2.2.1) (hs : rw_s1 xs (nI i) 1 p2 p3 σ w' p2' p3' d σ') (nx : rx_AtP (rv_S L xs) 263 23 (rw_L (nI i + (8 : Int32))) [] (162, c + d, s + 6 * d, [], rw_P w' p2' p3', σ') out) : rx_AtP (rv_S L xs) 263 241 (rw_L (nI i)) [] (162, c, s, [], rw_P 1 p2 p3, σ) out := by
  obtain ⟨o1, o2, hc, hm, he, rfl, rfl, rfl, rfl, rfl⟩ := hs
  refine rx_walk [23] 3000 (by decide) (rx_e263 L xs) ?_
  refine rr_ck (rw_in 1 hi hL (by decide)) ?_
  refine rr_callC (f_c_back_ok _ hc) ⟨rfl, Nat.le_refl _, hcc, hss⟩ ?_
  refine rr_ck (rw_in 1 hi hL (by decide)) ?_
  refine rr_callC (f_m_back_ok _ hm) ⟨rfl, Nat.le_refl _, hcc, hss⟩ ?_
  refine ⟨fun _ => ?_, fun h => absurd he h⟩
  exact rx_sub nx [1, 2, 3, 4, 0] rfl
set_option maxRecDepth 1000000 in
set_option maxHeartbeats 4000000 in
theorem rw_c2_0 {L : Nat} {xs : Nat → Int32} {out : rx_O} {c s p2 p3 p2' p3' w' d : Nat} {σ σ' : rx_St} {i : Nat} (hi : i + 8 ≤ L) (hL : L ≤ 4096) (hcc : c + d ≤ out.2.2.1) (hss : s + 6 * d ≤ out.2.2.2.1) (hs : rw_s2 xs (nI i) 0 p2 p3 σ w' p2' p3' d σ') (nx : rx_AtP (rv_S L xs) 263 23 (rw_L (nI i + (8 : Int32))) [] (162, c + d, s + 6 * d, [], rw_P w' p2' p3', σ') out) : rx_AtP (rv_S L xs) 263 266 (rw_L (nI i)) [] (162, c, s, [], rw_P 0 p2 p3, σ) out := by
  obtain ⟨o1, o2, hc, hm, he, rfl, hP, hw, rfl⟩ := hs
  rw [← hP] at nx
  refine rx_walk [23] 3000 (by decide) (rx_e263 L xs) ?_
  refine rr_callC (f_c_read_ok_w0 _ hc) ⟨rfl, Nat.le_refl _, hcc, hss⟩ ?_
  refine rr_callC (f_m_read_ok _ hm) ⟨rfl, Nat.le_refl _, hcc, hss⟩ ?_
  refine ⟨fun _ => ?_, fun h => absurd he h⟩
  exact rx_sub nx [1, 2, 3, 4, 0] rfl
set_option maxRecDepth 1000000 in
set_option maxHeartbeats 4000000 in
theorem rw_c2_1 {L : Nat} {xs : Nat → Int32} {out : rx_O} {c s p2 p3 p2' p3' w' d : Nat} {σ σ' : rx_St} {i : Nat} (hi : i + 8 ≤ L) (hL : L ≤ 4096) (hcc : c + d ≤ out.2.2.1) (hss : s + 6 * d ≤ out.2.2.2.1) (hs : rw_s2 xs (nI i) 1 p2 p3 σ w' p2' p3' d σ') (nx : rx_AtP (rv_S L xs) 263 23 (rw_L (nI i + (8 : Int32))) [] (162, c + d, s + 6 * d, [], rw_P w' p2' p3', σ') out) : rx_AtP (rv_S L xs) 263 266 (rw_L (nI i)) [] (162, c, s, [], rw_P 1 p2 p3, σ) out := by
  obtain ⟨o1, o2, hc, hm, he, rfl, hP, hw, rfl⟩ := hs
  rw [← hP] at nx
  refine rx_walk [23] 3000 (by decide) (rx_e263 L xs) ?_
  refine rr_callC (f_c_read_ok_w1 _ hc) ⟨rfl, Nat.le_refl _, hcc, hss⟩ ?_
  refine rr_callC (f_m_read_ok _ hm) ⟨rfl, Nat.le_refl _, hcc, hss⟩ ?_
  refine ⟨fun _ => ?_, fun h => absurd he h⟩
  exact rx_sub nx [1, 2, 3, 4, 0] rfl
set_option maxRecDepth 1000000 in
set_option maxHeartbeats 4000000 in
theorem rw_c3_0 {L : Nat} {xs : Nat → Int32} {out : rx_O} {c s p2 p3 p2' p3' w' d : Nat} {σ σ' : rx_St} {i : Nat} (hi : i + 8 ≤ L) (hL : L ≤ 4096) (hcc : c + d ≤ out.2.2.1) (hss : s + 6 * d ≤ out.2.2.2.1) (hs : rw_s3 xs (nI i) 0 p2 p3 σ w' p2' p3' d σ') (nx : rx_AtP (rv_S L xs) 263 23 (rw_L (nI i + (8 : Int32))) [] (162, c + d, s + 6 * d, [], rw_P w' p2' p3', σ') out) : rx_AtP (rv_S L xs) 263 279 (rw_L (nI i)) [] (162, c, s, [], rw_P 0 p2 p3, σ) out := by
  obtain ⟨o2, hm, he, rfl, rfl, rfl, rfl, rfl⟩ := hs
  refine rx_walk [23] 3000 (by decide) (rx_e263 L xs) ?_
  refine rr_callC (f_c_place_ok _ rfl) ⟨rfl, Nat.le_refl _, hcc, hss⟩ ?_
  refine rr_callC (f_m_place_ok _ hm) ⟨rfl, Nat.le_refl _, hcc, hss⟩ ?_
  refine ⟨fun _ => ?_, fun h => absurd he h⟩
  exact rx_sub nx [1, 2, 3, 4, 0] rfl
set_option maxRecDepth 1000000 in
set_option maxHeartbeats 4000000 in
theorem rw_c3_1 {L : Nat} {xs : Nat → Int32} {out : rx_O} {c s p2 p3 p2' p3' w' d : Nat} {σ σ' : rx_St} {i : Nat} (hi : i + 8 ≤ L) (hL : L ≤ 4096) (hcc : c + d ≤ out.2.2.1) (hss : s + 6 * d ≤ out.2.2.2.1) (hs : rw_s3 xs (nI i) 1 p2 p3 σ w' p2' p3' d σ') (nx : rx_AtP (rv_S L xs) 263 23 (rw_L (nI i + (8 : Int32))) [] (162, c + d, s + 6 * d, [], rw_P w' p2' p3', σ') out) : rx_AtP (rv_S L xs) 263 279 (rw_L (nI i)) [] (162, c, s, [], rw_P 1 p2 p3, σ) out := by
  obtain ⟨o2, hm, he, rfl, rfl, rfl, rfl, rfl⟩ := hs
  refine rx_walk [23] 3000 (by decide) (rx_e263 L xs) ?_
  refine rr_callC (f_c_place_ok _ rfl) ⟨rfl, Nat.le_refl _, hcc, hss⟩ ?_
  refine rr_callC (f_m_place_ok _ hm) ⟨rfl, Nat.le_refl _, hcc, hss⟩ ?_
  refine ⟨fun _ => ?_, fun h => absurd he h⟩
  exact rx_sub nx [1, 2, 3, 4, 0] rfl
set_option maxRecDepth 1000000 in
set_option maxHeartbeats 4000000 in
theorem rw_c4_0 {L : Nat} {xs : Nat → Int32} {out : rx_O} {c s p2 p3 p2' p3' w' d : Nat} {σ σ' : rx_St} {i : Nat} (hi : i + 8 ≤ L) (hL : L ≤ 4096) (hcc : c + d ≤ out.2.2.1) (hss : s + 6 * d ≤ out.2.2.2.1) (hs : rw_s4 xs (nI i) 0 p2 p3 σ w' p2' p3' d σ') (nx : rx_AtP (rv_S L xs) 263 23 (rw_L (nI i + (8 : Int32))) [] (162, c + d, s + 6 * d, [], rw_P w' p2' p3', σ') out) : rx_AtP (rv_S L xs) 263 292 (rw_L (nI i)) [] (162, c, s, [], rw_P 0 p2 p3, σ) out := by
  obtain ⟨o1, o2, hc, hm, he, rfl, rfl, rfl, rfl, rfl⟩ := hs
  refine rx_walk [23] 3000 (by decide) (rx_e263 L xs) ?_
  refine rr_ck (rw_in 1 hi hL (by decide)) ?_
  refine rr_ck (rw_in 2 hi hL (by decide)) ?_
  refine rr_callC (f_c_set_ok_w0 _ hc) ⟨rfl, Nat.le_refl _, hcc, hss⟩ ?_
  refine rr_ck (rw_in 1 hi hL (by decide)) ?_
  refine rr_ck (rw_in 2 hi hL (by decide)) ?_
  refine rr_callC (f_m_set_ok _ hm) ⟨rfl, Nat.le_refl _, hcc, hss⟩ ?_
  refine ⟨fun _ => ?_, fun h => absurd he h⟩
  exact rx_sub nx [1, 2, 3, 4, 0] rfl
set_option maxRecDepth 1000000 in
set_option maxHeartbeats 4000000 in
theorem rw_c4_1 {L : Nat} {xs : Nat → Int32} {out : rx_O} {c s p2 p3 p2' p3' w' d : Nat} {σ σ' : rx_St} {i : Nat} (hi : i + 8 ≤ L) (hL : L ≤ 4096) (hcc : c + d ≤ out.2.2.1) (hss : s + 6 * d ≤ out.2.2.2.1) (hs : rw_s4 xs (nI i) 1 p2 p3 σ w' p2' p3' d σ') (nx : rx_AtP (rv_S L xs) 263 23 (rw_L (nI i + (8 : Int32))) [] (162, c + d, s + 6 * d, [], rw_P w' p2' p3', σ') out) : rx_AtP (rv_S L xs) 263 292 (rw_L (nI i)) [] (162, c, s, [], rw_P 1 p2 p3, σ) out := by
  obtain ⟨o1, o2, hc, hm, he, rfl, rfl, rfl, rfl, rfl⟩ := hs
  refine rx_walk [23] 3000 (by decide) (rx_e263 L xs) ?_
  refine rr_ck (rw_in 1 hi hL (by decide)) ?_
  refine rr_ck (rw_in 2 hi hL (by decide)) ?_
  refine rr_callC (f_c_set_ok_w1 _ hc) ⟨rfl, Nat.le_refl _, hcc, hss⟩ ?_
  refine rr_ck (rw_in 1 hi hL (by decide)) ?_
  refine rr_ck (rw_in 2 hi hL (by decide)) ?_
  refine rr_callC (f_m_set_ok _ hm) ⟨rfl, Nat.le_refl _, hcc, hss⟩ ?_
  refine ⟨fun _ => ?_, fun h => absurd he h⟩
  exact rx_sub nx [1, 2, 3, 4, 0] rfl
set_option maxRecDepth 1000000 in
set_option maxHeartbeats 4000000 in
theorem rw_c5_0 {L : Nat} {xs : Nat → Int32} {out : rx_O} {c s p2 p3 p2' p3' w' d : Nat} {σ σ' : rx_St} {i : Nat} (hi : i + 8 ≤ L) (hL : L ≤ 4096) (hcc : c + d ≤ out.2.2.1) (hss : s + 6 * d ≤ out.2.2.2.1) (hs : rw_s5 xs (nI i) 0 p2 p3 σ w' p2' p3' d σ') (nx : rx_AtP (rv_S L xs) 263 23 (rw_L (nI i + (8 : Int32))) [] (162, c + d, s + 6 * d, [], rw_P w' p2' p3', σ') out) : rx_AtP (rv_S L xs) 263 329 (rw_L (nI i)) [] (162, c, s, [], rw_P 0 p2 p3, σ) out := by
  obtain ⟨h6, o2, hm, ht, hq, rfl, rfl, rfl, rfl, rfl⟩ := hs
  refine rx_walk [23] 3000 (by decide) (rx_e263 L xs) ?_
  refine rr_ck (rw_in 1 hi hL (by decide)) ?_
  refine rr_ck ⟨⟨hcc, hss⟩, Or.inl rfl⟩ ?_
  have hX : rv_o (7 + 14 * 0) (xs (nI i + (1 : Int32)).toNatClampNeg) σ = if 0 ≤ (xs (nI i + (1 : Int32)).toNatClampNeg) ∧ (xs (nI i + (1 : Int32)).toNatClampNeg) < σ.1 7 0 then rx_sl σ 161 0 (σ.1 39 ((xs (nI i + (1 : Int32)).toNatClampNeg)).toNatClampNeg).toInt64 else σ := rfl
  have hV : rv_v (7 + 14 * 0) (xs (nI i + (1 : Int32)).toNatClampNeg) σ = if 0 ≤ (xs (nI i + (1 : Int32)).toNatClampNeg) ∧ (xs (nI i + (1 : Int32)).toNatClampNeg) < σ.1 7 0 then 0 else 1 := rfl
  refine ⟨fun g => ⟨h6 g, ?_⟩, fun g => ?_⟩
  · have g9 : (0 ≤ (xs (nI i + (1 : Int32)).toNatClampNeg) ∧ (xs (nI i + (1 : Int32)).toNatClampNeg) < σ.1 7 0) := g
    rw [if_pos g9] at hX hV
    rw [hX] at hm
    rw [hV] at ht hq
    refine rr_ck (rw_in 1 hi hL (by decide)) ?_
    refine rr_callC (f_m_setting_ok _ hm) ⟨rfl, Nat.le_refl _, hcc, hss⟩ ?_
    refine rr_callC (f_m_thrown_ok _ rfl) ⟨rfl, Nat.le_refl _, hcc, hss⟩ ?_
    refine ⟨fun _ => ?_, fun h => absurd ht h⟩
    refine ⟨fun _ => ?_, fun h => absurd rfl h⟩
    refine rr_ck (show ¬ ((0 : Int32) < 0 ∨ 1 ≤ (0 : Int32).toNatClampNeg) by decide) ?_
    refine ⟨fun _ => ?_, fun h => absurd (rw_cmp (hq rfl)) h⟩
    exact rx_sub nx [3, 4, 5, 6, 0] rfl
  · have g9 : ¬ (0 ≤ (xs (nI i + (1 : Int32)).toNatClampNeg) ∧ (xs (nI i + (1 : Int32)).toNatClampNeg) < σ.1 7 0) := g
    rw [if_neg g9] at hX hV
    rw [hX] at hm
    rw [hV] at ht hq
    refine rr_ck (rw_in 1 hi hL (by decide)) ?_
    refine rr_callC (f_m_setting_ok _ hm) ⟨rfl, Nat.le_refl _, hcc, hss⟩ ?_
    refine rr_callC (f_m_thrown_ok _ rfl) ⟨rfl, Nat.le_refl _, hcc, hss⟩ ?_
    refine ⟨fun _ => ?_, fun h => absurd ht h⟩
    refine ⟨fun h => absurd h (by decide), fun _ => ?_⟩
    exact rx_sub nx [3, 4, 5, 6, 0] rfl
set_option maxRecDepth 1000000 in
set_option maxHeartbeats 4000000 in
theorem rw_c5_1 {L : Nat} {xs : Nat → Int32} {out : rx_O} {c s p2 p3 p2' p3' w' d : Nat} {σ σ' : rx_St} {i : Nat} (hi : i + 8 ≤ L) (hL : L ≤ 4096) (hcc : c + d ≤ out.2.2.1) (hss : s + 6 * d ≤ out.2.2.2.1) (hs : rw_s5 xs (nI i) 1 p2 p3 σ w' p2' p3' d σ') (nx : rx_AtP (rv_S L xs) 263 23 (rw_L (nI i + (8 : Int32))) [] (162, c + d, s + 6 * d, [], rw_P w' p2' p3', σ') out) : rx_AtP (rv_S L xs) 263 329 (rw_L (nI i)) [] (162, c, s, [], rw_P 1 p2 p3, σ) out := by
  obtain ⟨h6, o2, hm, ht, hq, rfl, rfl, rfl, rfl, rfl⟩ := hs
  refine rx_walk [23] 3000 (by decide) (rx_e263 L xs) ?_
  refine rr_ck (rw_in 1 hi hL (by decide)) ?_
  refine rr_ck ⟨⟨hcc, hss⟩, Or.inr rfl⟩ ?_
  have hX : rv_o (7 + 14 * 1) (xs (nI i + (1 : Int32)).toNatClampNeg) σ = if 0 ≤ (xs (nI i + (1 : Int32)).toNatClampNeg) ∧ (xs (nI i + (1 : Int32)).toNatClampNeg) < σ.1 21 0 then rx_sl σ 161 0 (σ.1 39 ((xs (nI i + (1 : Int32)).toNatClampNeg)).toNatClampNeg).toInt64 else σ := rfl
  have hV : rv_v (7 + 14 * 1) (xs (nI i + (1 : Int32)).toNatClampNeg) σ = if 0 ≤ (xs (nI i + (1 : Int32)).toNatClampNeg) ∧ (xs (nI i + (1 : Int32)).toNatClampNeg) < σ.1 21 0 then 0 else 1 := rfl
  refine ⟨fun g => ⟨h6 g, ?_⟩, fun g => ?_⟩
  · have g9 : (0 ≤ (xs (nI i + (1 : Int32)).toNatClampNeg) ∧ (xs (nI i + (1 : Int32)).toNatClampNeg) < σ.1 21 0) := g
    rw [if_pos g9] at hX hV
    rw [hX] at hm
    rw [hV] at ht hq
    refine rr_ck (rw_in 1 hi hL (by decide)) ?_
    refine rr_callC (f_m_setting_ok _ hm) ⟨rfl, Nat.le_refl _, hcc, hss⟩ ?_
    refine rr_callC (f_m_thrown_ok _ rfl) ⟨rfl, Nat.le_refl _, hcc, hss⟩ ?_
    refine ⟨fun _ => ?_, fun h => absurd ht h⟩
    refine ⟨fun _ => ?_, fun h => absurd rfl h⟩
    refine rr_ck (show ¬ ((0 : Int32) < 0 ∨ 1 ≤ (0 : Int32).toNatClampNeg) by decide) ?_
    refine ⟨fun _ => ?_, fun h => absurd (rw_cmp (hq rfl)) h⟩
    exact rx_sub nx [3, 4, 5, 6, 0] rfl
  · have g9 : ¬ (0 ≤ (xs (nI i + (1 : Int32)).toNatClampNeg) ∧ (xs (nI i + (1 : Int32)).toNatClampNeg) < σ.1 21 0) := g
    rw [if_neg g9] at hX hV
    rw [hX] at hm
    rw [hV] at ht hq
    refine rr_ck (rw_in 1 hi hL (by decide)) ?_
    refine rr_callC (f_m_setting_ok _ hm) ⟨rfl, Nat.le_refl _, hcc, hss⟩ ?_
    refine rr_callC (f_m_thrown_ok _ rfl) ⟨rfl, Nat.le_refl _, hcc, hss⟩ ?_
    refine ⟨fun _ => ?_, fun h => absurd ht h⟩
    refine ⟨fun h => absurd h (by decide), fun _ => ?_⟩
    exact rx_sub nx [3, 4, 5, 6, 0] rfl
set_option maxRecDepth 1000000 in
set_option maxHeartbeats 4000000 in
theorem rw_c6_0 {L : Nat} {xs : Nat → Int32} {out : rx_O} {c s p2 p3 p2' p3' w' d : Nat} {σ σ' : rx_St} {i : Nat} (hi : i + 8 ≤ L) (hL : L ≤ 4096) (hcc : c + d ≤ out.2.2.1) (hss : s + 6 * d ≤ out.2.2.2.1) (hs : rw_s6 xs (nI i) 0 p2 p3 σ w' p2' p3' d σ') (nx : rx_AtP (rv_S L xs) 263 23 (rw_L (nI i + (8 : Int32))) [] (162, c + d, s + 6 * d, [], rw_P w' p2' p3', σ') out) : rx_AtP (rv_S L xs) 263 385 (rw_L (nI i)) [] (162, c, s, [], rw_P 0 p2 p3, σ) out := by
  obtain ⟨o1, o2, hc, hm, he, rfl, rfl, rfl, rfl, rfl⟩ := hs
  refine rx_walk [23] 3000 (by decide) (rx_e263 L xs) ?_
  refine rr_ck (rw_in 1 hi hL (by decide)) ?_
  refine rr_ck (rw_in 2 hi hL (by decide)) ?_
  refine rr_ck (rw_in 3 hi hL (by decide)) ?_
  refine rr_callC (f_c_one_ok_w0 _ hc) ⟨rfl, Nat.le_refl _, hcc, hss⟩ ?_
  refine rr_ck (rw_in 1 hi hL (by decide)) ?_
  refine rr_ck (rw_in 2 hi hL (by decide)) ?_
  refine rr_ck (rw_in 3 hi hL (by decide)) ?_
  refine rr_callC (f_m_one_ok _ hm) ⟨rfl, Nat.le_refl _, hcc, hss⟩ ?_
  refine ⟨fun _ => ?_, fun h => absurd he h⟩
  exact rx_sub nx [1, 2, 3, 4, 0] rfl
set_option maxRecDepth 1000000 in
set_option maxHeartbeats 4000000 in
theorem rw_c6_1 {L : Nat} {xs : Nat → Int32} {out : rx_O} {c s p2 p3 p2' p3' w' d : Nat} {σ σ' : rx_St} {i : Nat} (hi : i + 8 ≤ L) (hL : L ≤ 4096) (hcc : c + d ≤ out.2.2.1) (hss : s + 6 * d ≤ out.2.2.2.1) (hs : rw_s6 xs (nI i) 1 p2 p3 σ w' p2' p3' d σ') (nx : rx_AtP (rv_S L xs) 263 23 (rw_L (nI i + (8 : Int32))) [] (162, c + d, s + 6 * d, [], rw_P w' p2' p3', σ') out) : rx_AtP (rv_S L xs) 263 385 (rw_L (nI i)) [] (162, c, s, [], rw_P 1 p2 p3, σ) out := by
  obtain ⟨o1, o2, hc, hm, he, rfl, rfl, rfl, rfl, rfl⟩ := hs
  refine rx_walk [23] 3000 (by decide) (rx_e263 L xs) ?_
  refine rr_ck (rw_in 1 hi hL (by decide)) ?_
  refine rr_ck (rw_in 2 hi hL (by decide)) ?_
  refine rr_ck (rw_in 3 hi hL (by decide)) ?_
  refine rr_callC (f_c_one_ok_w1 _ hc) ⟨rfl, Nat.le_refl _, hcc, hss⟩ ?_
  refine rr_ck (rw_in 1 hi hL (by decide)) ?_
  refine rr_ck (rw_in 2 hi hL (by decide)) ?_
  refine rr_ck (rw_in 3 hi hL (by decide)) ?_
  refine rr_callC (f_m_one_ok _ hm) ⟨rfl, Nat.le_refl _, hcc, hss⟩ ?_
  refine ⟨fun _ => ?_, fun h => absurd he h⟩
  exact rx_sub nx [1, 2, 3, 4, 0] rfl
set_option maxRecDepth 1000000 in
set_option maxHeartbeats 4000000 in
theorem rw_c7_0 {L : Nat} {xs : Nat → Int32} {out : rx_O} {c s p2 p3 p2' p3' w' d : Nat} {σ σ' : rx_St} {i : Nat} (hi : i + 8 ≤ L) (hL : L ≤ 4096) (hcc : c + d ≤ out.2.2.1) (hss : s + 6 * d ≤ out.2.2.2.1) (hs : rw_s7 xs (nI i) 0 p2 p3 σ w' p2' p3' d σ') (nx : rx_AtP (rv_S L xs) 263 23 (rw_L (nI i + (8 : Int32))) [] (162, c + d, s + 6 * d, [], rw_P w' p2' p3', σ') out) : rx_AtP (rv_S L xs) 263 434 (rw_L (nI i)) [] (162, c, s, [], rw_P 0 p2 p3, σ) out := by
  obtain ⟨o1, o2, hc, hm, he, rfl, rfl, rfl, rfl, rfl⟩ := hs
  refine rx_walk [23] 3000 (by decide) (rx_e263 L xs) ?_
  refine rr_ck (rw_in 1 hi hL (by decide)) ?_
  refine rr_ck (rw_in 2 hi hL (by decide)) ?_
  refine rr_ck (rw_in 3 hi hL (by decide)) ?_
  refine rr_callC (f_c_begin_ok_w0 _ hc) ⟨rfl, Nat.le_refl _, hcc, hss⟩ ?_
  refine rr_ck (rw_in 1 hi hL (by decide)) ?_
  refine rr_ck (rw_in 2 hi hL (by decide)) ?_
  refine rr_ck (rw_in 3 hi hL (by decide)) ?_
  refine rr_callC (f_m_begin_ok _ hm) ⟨rfl, Nat.le_refl _, hcc, hss⟩ ?_
  refine ⟨fun _ => ?_, fun h => absurd he h⟩
  exact rx_sub nx [1, 2, 3, 4, 0] rfl
set_option maxRecDepth 1000000 in
set_option maxHeartbeats 4000000 in
theorem rw_c7_1 {L : Nat} {xs : Nat → Int32} {out : rx_O} {c s p2 p3 p2' p3' w' d : Nat} {σ σ' : rx_St} {i : Nat} (hi : i + 8 ≤ L) (hL : L ≤ 4096) (hcc : c + d ≤ out.2.2.1) (hss : s + 6 * d ≤ out.2.2.2.1) (hs : rw_s7 xs (nI i) 1 p2 p3 σ w' p2' p3' d σ') (nx : rx_AtP (rv_S L xs) 263 23 (rw_L (nI i + (8 : Int32))) [] (162, c + d, s + 6 * d, [], rw_P w' p2' p3', σ') out) : rx_AtP (rv_S L xs) 263 434 (rw_L (nI i)) [] (162, c, s, [], rw_P 1 p2 p3, σ) out := by
  obtain ⟨o1, o2, hc, hm, he, rfl, rfl, rfl, rfl, rfl⟩ := hs
  refine rx_walk [23] 3000 (by decide) (rx_e263 L xs) ?_
  refine rr_ck (rw_in 1 hi hL (by decide)) ?_
  refine rr_ck (rw_in 2 hi hL (by decide)) ?_
  refine rr_ck (rw_in 3 hi hL (by decide)) ?_
  refine rr_callC (f_c_begin_ok_w1 _ hc) ⟨rfl, Nat.le_refl _, hcc, hss⟩ ?_
  refine rr_ck (rw_in 1 hi hL (by decide)) ?_
  refine rr_ck (rw_in 2 hi hL (by decide)) ?_
  refine rr_ck (rw_in 3 hi hL (by decide)) ?_
  refine rr_callC (f_m_begin_ok _ hm) ⟨rfl, Nat.le_refl _, hcc, hss⟩ ?_
  refine ⟨fun _ => ?_, fun h => absurd he h⟩
  exact rx_sub nx [1, 2, 3, 4, 0] rfl
set_option maxRecDepth 1000000 in
set_option maxHeartbeats 4000000 in
theorem rw_c8_0 {L : Nat} {xs : Nat → Int32} {out : rx_O} {c s p2 p3 p2' p3' w' d : Nat} {σ σ' : rx_St} {i : Nat} (hi : i + 8 ≤ L) (hL : L ≤ 4096) (hcc : c + d ≤ out.2.2.1) (hss : s + 6 * d ≤ out.2.2.2.1) (hs : rw_s8 xs (nI i) 0 p2 p3 σ w' p2' p3' d σ') (nx : rx_AtP (rv_S L xs) 263 23 (rw_L (nI i + (8 : Int32))) [] (162, c + d, s + 6 * d, [], rw_P w' p2' p3', σ') out) : rx_AtP (rv_S L xs) 263 483 (rw_L (nI i)) [] (162, c, s, [], rw_P 0 p2 p3, σ) out := by
  obtain ⟨o1, o2, hc, hm, rfl, rfl, rfl, rfl, rfl⟩ := hs
  refine rx_walk [23] 3000 (by decide) (rx_e263 L xs) ?_
  refine rr_ck (rw_in 1 hi hL (by decide)) ?_
  refine ⟨fun g => ?_, fun g => ?_⟩
  · rw [if_pos g] at hc hm
    refine rr_callC (f_c_order_ok _ hc) ⟨rfl, Nat.le_refl _, hcc, hss⟩ ?_
    refine rr_ck (rw_in 1 hi hL (by decide)) ?_
    refine ⟨fun _ => ?_, fun h => absurd g h⟩
    refine rr_callC (f_m_order_ok _ hm) ⟨rfl, Nat.le_refl _, hcc, hss⟩ ?_
    exact rx_sub nx [1, 2, 3, 4, 0] rfl
  · rw [if_neg g] at hc hm
    refine rr_callC (f_c_order_ok _ hc) ⟨rfl, Nat.le_refl _, hcc, hss⟩ ?_
    refine rr_ck (rw_in 1 hi hL (by decide)) ?_
    refine ⟨fun h => absurd h g, fun _ => ?_⟩
    refine rr_callC (f_m_order_ok _ hm) ⟨rfl, Nat.le_refl _, hcc, hss⟩ ?_
    exact rx_sub nx [1, 2, 3, 4, 0] rfl
set_option maxRecDepth 1000000 in
set_option maxHeartbeats 4000000 in
theorem rw_c8_1 {L : Nat} {xs : Nat → Int32} {out : rx_O} {c s p2 p3 p2' p3' w' d : Nat} {σ σ' : rx_St} {i : Nat} (hi : i + 8 ≤ L) (hL : L ≤ 4096) (hcc : c + d ≤ out.2.2.1) (hss : s + 6 * d ≤ out.2.2.2.1) (hs : rw_s8 xs (nI i) 1 p2 p3 σ w' p2' p3' d σ') (nx : rx_AtP (rv_S L xs) 263 23 (rw_L (nI i + (8 : Int32))) [] (162, c + d, s + 6 * d, [], rw_P w' p2' p3', σ') out) : rx_AtP (rv_S L xs) 263 483 (rw_L (nI i)) [] (162, c, s, [], rw_P 1 p2 p3, σ) out := by
  obtain ⟨o1, o2, hc, hm, rfl, rfl, rfl, rfl, rfl⟩ := hs
  refine rx_walk [23] 3000 (by decide) (rx_e263 L xs) ?_
  refine rr_ck (rw_in 1 hi hL (by decide)) ?_
  refine ⟨fun g => ?_, fun g => ?_⟩
  · rw [if_pos g] at hc hm
    refine rr_callC (f_c_order_ok _ hc) ⟨rfl, Nat.le_refl _, hcc, hss⟩ ?_
    refine rr_ck (rw_in 1 hi hL (by decide)) ?_
    refine ⟨fun _ => ?_, fun h => absurd g h⟩
    refine rr_callC (f_m_order_ok _ hm) ⟨rfl, Nat.le_refl _, hcc, hss⟩ ?_
    exact rx_sub nx [1, 2, 3, 4, 0] rfl
  · rw [if_neg g] at hc hm
    refine rr_callC (f_c_order_ok _ hc) ⟨rfl, Nat.le_refl _, hcc, hss⟩ ?_
    refine rr_ck (rw_in 1 hi hL (by decide)) ?_
    refine ⟨fun h => absurd h g, fun _ => ?_⟩
    refine rr_callC (f_m_order_ok _ hm) ⟨rfl, Nat.le_refl _, hcc, hss⟩ ?_
    exact rx_sub nx [1, 2, 3, 4, 0] rfl
set_option maxRecDepth 1000000 in
set_option maxHeartbeats 4000000 in
theorem rw_c9_0 {L : Nat} {xs : Nat → Int32} {out : rx_O} {c s p2 p3 p2' p3' w' d : Nat} {σ σ' : rx_St} {i : Nat} (hi : i + 8 ≤ L) (hL : L ≤ 4096) (hcc : c + d ≤ out.2.2.1) (hss : s + 6 * d ≤ out.2.2.2.1) (hs : rw_s9 xs (nI i) 0 p2 p3 σ w' p2' p3' d σ') (nx : rx_AtP (rv_S L xs) 263 23 (rw_L (nI i + (8 : Int32))) [] (162, c + d, s + 6 * d, [], rw_P w' p2' p3', σ') out) : rx_AtP (rv_S L xs) 263 522 (rw_L (nI i)) [] (162, c, s, [], rw_P 0 p2 p3, σ) out := by
  obtain ⟨o1, o2, hc, hm, he, rfl, rfl, rfl, rfl, rfl⟩ := hs
  refine rx_walk [23] 3000 (by decide) (rx_e263 L xs) ?_
  refine rr_ck (rw_in 1 hi hL (by decide)) ?_
  refine rr_ck (rw_in 2 hi hL (by decide)) ?_
  refine rr_ck (rw_in 3 hi hL (by decide)) ?_
  refine rr_ck (rw_in 4 hi hL (by decide)) ?_
  refine rr_ck (rw_in 5 hi hL (by decide)) ?_
  refine rr_callC (f_c_lot_ok _ hc) ⟨rfl, Nat.le_refl _, hcc, hss⟩ ?_
  refine rr_ck (rw_in 1 hi hL (by decide)) ?_
  refine rr_ck (rw_in 2 hi hL (by decide)) ?_
  refine rr_ck (rw_in 3 hi hL (by decide)) ?_
  refine rr_ck (rw_in 4 hi hL (by decide)) ?_
  refine rr_ck (rw_in 5 hi hL (by decide)) ?_
  refine rr_callC (f_m_lot_ok _ hm) ⟨rfl, Nat.le_refl _, hcc, hss⟩ ?_
  refine ⟨fun _ => ?_, fun h => absurd he h⟩
  exact rx_sub nx [1, 2, 3, 4, 0] rfl
set_option maxRecDepth 1000000 in
set_option maxHeartbeats 4000000 in
theorem rw_c9_1 {L : Nat} {xs : Nat → Int32} {out : rx_O} {c s p2 p3 p2' p3' w' d : Nat} {σ σ' : rx_St} {i : Nat} (hi : i + 8 ≤ L) (hL : L ≤ 4096) (hcc : c + d ≤ out.2.2.1) (hss : s + 6 * d ≤ out.2.2.2.1) (hs : rw_s9 xs (nI i) 1 p2 p3 σ w' p2' p3' d σ') (nx : rx_AtP (rv_S L xs) 263 23 (rw_L (nI i + (8 : Int32))) [] (162, c + d, s + 6 * d, [], rw_P w' p2' p3', σ') out) : rx_AtP (rv_S L xs) 263 522 (rw_L (nI i)) [] (162, c, s, [], rw_P 1 p2 p3, σ) out := by
  obtain ⟨o1, o2, hc, hm, he, rfl, rfl, rfl, rfl, rfl⟩ := hs
  refine rx_walk [23] 3000 (by decide) (rx_e263 L xs) ?_
  refine rr_ck (rw_in 1 hi hL (by decide)) ?_
  refine rr_ck (rw_in 2 hi hL (by decide)) ?_
  refine rr_ck (rw_in 3 hi hL (by decide)) ?_
  refine rr_ck (rw_in 4 hi hL (by decide)) ?_
  refine rr_ck (rw_in 5 hi hL (by decide)) ?_
  refine rr_callC (f_c_lot_ok _ hc) ⟨rfl, Nat.le_refl _, hcc, hss⟩ ?_
  refine rr_ck (rw_in 1 hi hL (by decide)) ?_
  refine rr_ck (rw_in 2 hi hL (by decide)) ?_
  refine rr_ck (rw_in 3 hi hL (by decide)) ?_
  refine rr_ck (rw_in 4 hi hL (by decide)) ?_
  refine rr_ck (rw_in 5 hi hL (by decide)) ?_
  refine rr_callC (f_m_lot_ok _ hm) ⟨rfl, Nat.le_refl _, hcc, hss⟩ ?_
  refine ⟨fun _ => ?_, fun h => absurd he h⟩
  exact rx_sub nx [1, 2, 3, 4, 0] rfl
set_option maxRecDepth 1000000 in
set_option maxHeartbeats 4000000 in
theorem rw_c10_0 {L : Nat} {xs : Nat → Int32} {out : rx_O} {c s p2 p3 p2' p3' w' d : Nat} {σ σ' : rx_St} {i : Nat} (hi : i + 8 ≤ L) (hL : L ≤ 4096) (hcc : c + d ≤ out.2.2.1) (hss : s + 6 * d ≤ out.2.2.2.1) (hs : rw_s10 xs (nI i) 0 p2 p3 σ w' p2' p3' d σ') (nx : rx_AtP (rv_S L xs) 263 23 (rw_L (nI i + (8 : Int32))) [] (162, c + d, s + 6 * d, [], rw_P w' p2' p3', σ') out) : rx_AtP (rv_S L xs) 263 595 (rw_L (nI i)) [] (162, c, s, [], rw_P 0 p2 p3, σ) out := by
  obtain ⟨o1, o2, hc, hm, he, rfl, rfl, rfl, rfl, rfl⟩ := hs
  refine rx_walk [23] 3000 (by decide) (rx_e263 L xs) ?_
  refine rr_ck (rw_in 1 hi hL (by decide)) ?_
  refine rr_ck (rw_in 2 hi hL (by decide)) ?_
  refine rr_ck (rw_in 3 hi hL (by decide)) ?_
  refine rr_ck (rw_in 4 hi hL (by decide)) ?_
  refine rr_callC (f_c_state_ok_w0 _ hc) ⟨rfl, Nat.le_refl _, hcc, hss⟩ ?_
  refine rr_ck (rw_in 1 hi hL (by decide)) ?_
  refine rr_ck (rw_in 2 hi hL (by decide)) ?_
  refine rr_ck (rw_in 3 hi hL (by decide)) ?_
  refine rr_ck (rw_in 4 hi hL (by decide)) ?_
  refine rr_callC (f_m_state_ok _ hm) ⟨rfl, Nat.le_refl _, hcc, hss⟩ ?_
  refine ⟨fun _ => ?_, fun h => absurd he h⟩
  exact rx_sub nx [1, 2, 3, 4, 0] rfl
set_option maxRecDepth 1000000 in
set_option maxHeartbeats 4000000 in
theorem rw_c10_1 {L : Nat} {xs : Nat → Int32} {out : rx_O} {c s p2 p3 p2' p3' w' d : Nat} {σ σ' : rx_St} {i : Nat} (hi : i + 8 ≤ L) (hL : L ≤ 4096) (hcc : c + d ≤ out.2.2.1) (hss : s + 6 * d ≤ out.2.2.2.1) (hs : rw_s10 xs (nI i) 1 p2 p3 σ w' p2' p3' d σ') (nx : rx_AtP (rv_S L xs) 263 23 (rw_L (nI i + (8 : Int32))) [] (162, c + d, s + 6 * d, [], rw_P w' p2' p3', σ') out) : rx_AtP (rv_S L xs) 263 595 (rw_L (nI i)) [] (162, c, s, [], rw_P 1 p2 p3, σ) out := by
  obtain ⟨o1, o2, hc, hm, he, rfl, rfl, rfl, rfl, rfl⟩ := hs
  refine rx_walk [23] 3000 (by decide) (rx_e263 L xs) ?_
  refine rr_ck (rw_in 1 hi hL (by decide)) ?_
  refine rr_ck (rw_in 2 hi hL (by decide)) ?_
  refine rr_ck (rw_in 3 hi hL (by decide)) ?_
  refine rr_ck (rw_in 4 hi hL (by decide)) ?_
  refine rr_callC (f_c_state_ok_w1 _ hc) ⟨rfl, Nat.le_refl _, hcc, hss⟩ ?_
  refine rr_ck (rw_in 1 hi hL (by decide)) ?_
  refine rr_ck (rw_in 2 hi hL (by decide)) ?_
  refine rr_ck (rw_in 3 hi hL (by decide)) ?_
  refine rr_ck (rw_in 4 hi hL (by decide)) ?_
  refine rr_callC (f_m_state_ok _ hm) ⟨rfl, Nat.le_refl _, hcc, hss⟩ ?_
  refine ⟨fun _ => ?_, fun h => absurd he h⟩
  exact rx_sub nx [1, 2, 3, 4, 0] rfl
set_option maxRecDepth 1000000 in
set_option maxHeartbeats 4000000 in
theorem rw_c11_0 {L : Nat} {xs : Nat → Int32} {out : rx_O} {c s p2 p3 p2' p3' w' d : Nat} {σ σ' : rx_St} {i : Nat} (hi : i + 8 ≤ L) (hL : L ≤ 4096) (hcc : c + d ≤ out.2.2.1) (hss : s + 6 * d ≤ out.2.2.2.1) (hs : rw_s11 xs (nI i) 0 p2 p3 σ w' p2' p3' d σ') (nx : rx_AtP (rv_S L xs) 263 23 (rw_L (nI i + (8 : Int32))) [] (162, c + d, s + 6 * d, [], rw_P w' p2' p3', σ') out) : rx_AtP (rv_S L xs) 263 656 (rw_L (nI i)) [] (162, c, s, [], rw_P 0 p2 p3, σ) out := by
  obtain ⟨o1, o2, hc, hm, he, rfl, rfl, rfl, rfl, rfl⟩ := hs
  refine rx_walk [23] 3000 (by decide) (rx_e263 L xs) ?_
  refine rr_ck (rw_in 1 hi hL (by decide)) ?_
  refine rr_ck (rw_in 2 hi hL (by decide)) ?_
  refine rr_ck (rw_in 3 hi hL (by decide)) ?_
  refine rr_callC (f_c_at_ok_w0 _ hc) ⟨rfl, Nat.le_refl _, hcc, hss⟩ ?_
  refine rr_ck (rw_in 1 hi hL (by decide)) ?_
  refine rr_ck (rw_in 2 hi hL (by decide)) ?_
  refine rr_ck (rw_in 3 hi hL (by decide)) ?_
  refine rr_callC (f_m_at2_ok _ hm) ⟨rfl, Nat.le_refl _, hcc, hss⟩ ?_
  refine ⟨fun _ => ?_, fun h => absurd he h⟩
  exact rx_sub nx [1, 2, 3, 4, 0] rfl
set_option maxRecDepth 1000000 in
set_option maxHeartbeats 4000000 in
theorem rw_c11_1 {L : Nat} {xs : Nat → Int32} {out : rx_O} {c s p2 p3 p2' p3' w' d : Nat} {σ σ' : rx_St} {i : Nat} (hi : i + 8 ≤ L) (hL : L ≤ 4096) (hcc : c + d ≤ out.2.2.1) (hss : s + 6 * d ≤ out.2.2.2.1) (hs : rw_s11 xs (nI i) 1 p2 p3 σ w' p2' p3' d σ') (nx : rx_AtP (rv_S L xs) 263 23 (rw_L (nI i + (8 : Int32))) [] (162, c + d, s + 6 * d, [], rw_P w' p2' p3', σ') out) : rx_AtP (rv_S L xs) 263 656 (rw_L (nI i)) [] (162, c, s, [], rw_P 1 p2 p3, σ) out := by
  obtain ⟨o1, o2, hc, hm, he, rfl, rfl, rfl, rfl, rfl⟩ := hs
  refine rx_walk [23] 3000 (by decide) (rx_e263 L xs) ?_
  refine rr_ck (rw_in 1 hi hL (by decide)) ?_
  refine rr_ck (rw_in 2 hi hL (by decide)) ?_
  refine rr_ck (rw_in 3 hi hL (by decide)) ?_
  refine rr_callC (f_c_at_ok_w1 _ hc) ⟨rfl, Nat.le_refl _, hcc, hss⟩ ?_
  refine rr_ck (rw_in 1 hi hL (by decide)) ?_
  refine rr_ck (rw_in 2 hi hL (by decide)) ?_
  refine rr_ck (rw_in 3 hi hL (by decide)) ?_
  refine rr_callC (f_m_at2_ok _ hm) ⟨rfl, Nat.le_refl _, hcc, hss⟩ ?_
  refine ⟨fun _ => ?_, fun h => absurd he h⟩
  exact rx_sub nx [1, 2, 3, 4, 0] rfl
set_option maxRecDepth 1000000 in
set_option maxHeartbeats 4000000 in
theorem rw_c12_0 {L : Nat} {xs : Nat → Int32} {out : rx_O} {c s p2 p3 p2' p3' w' d : Nat} {σ σ' : rx_St} {i : Nat} (hi : i + 8 ≤ L) (hL : L ≤ 4096) (hcc : c + d ≤ out.2.2.1) (hss : s + 6 * d ≤ out.2.2.2.1) (hs : rw_s12 xs (nI i) 0 p2 p3 σ w' p2' p3' d σ') (nx : rx_AtP (rv_S L xs) 263 23 (rw_L (nI i + (8 : Int32))) [] (162, c + d, s + 6 * d, [], rw_P w' p2' p3', σ') out) : rx_AtP (rv_S L xs) 263 705 (rw_L (nI i)) [] (162, c, s, [], rw_P 0 p2 p3, σ) out := by
  obtain ⟨o1, o2, hc, hm, he, rfl, rfl, rfl, rfl, rfl⟩ := hs
  refine rx_walk [23] 3000 (by decide) (rx_e263 L xs) ?_
  refine rr_ck (rw_in 1 hi hL (by decide)) ?_
  refine rr_ck (rw_in 2 hi hL (by decide)) ?_
  refine rr_ck (rw_in 3 hi hL (by decide)) ?_
  refine rr_ck (rw_in 4 hi hL (by decide)) ?_
  refine rr_callC (f_c_figure_ok_w0 _ hc) ⟨rfl, Nat.le_refl _, hcc, hss⟩ ?_
  refine rr_ck (rw_in 1 hi hL (by decide)) ?_
  refine rr_ck (rw_in 2 hi hL (by decide)) ?_
  refine rr_ck (rw_in 3 hi hL (by decide)) ?_
  refine rr_ck (rw_in 4 hi hL (by decide)) ?_
  refine rr_callC (f_m_figure_ok _ hm) ⟨rfl, Nat.le_refl _, hcc, hss⟩ ?_
  refine ⟨fun _ => ?_, fun h => absurd he h⟩
  exact rx_sub nx [1, 2, 3, 4, 0] rfl
set_option maxRecDepth 1000000 in
set_option maxHeartbeats 4000000 in
theorem rw_c12_1 {L : Nat} {xs : Nat → Int32} {out : rx_O} {c s p2 p3 p2' p3' w' d : Nat} {σ σ' : rx_St} {i : Nat} (hi : i + 8 ≤ L) (hL : L ≤ 4096) (hcc : c + d ≤ out.2.2.1) (hss : s + 6 * d ≤ out.2.2.2.1) (hs : rw_s12 xs (nI i) 1 p2 p3 σ w' p2' p3' d σ') (nx : rx_AtP (rv_S L xs) 263 23 (rw_L (nI i + (8 : Int32))) [] (162, c + d, s + 6 * d, [], rw_P w' p2' p3', σ') out) : rx_AtP (rv_S L xs) 263 705 (rw_L (nI i)) [] (162, c, s, [], rw_P 1 p2 p3, σ) out := by
  obtain ⟨o1, o2, hc, hm, he, rfl, rfl, rfl, rfl, rfl⟩ := hs
  refine rx_walk [23] 3000 (by decide) (rx_e263 L xs) ?_
  refine rr_ck (rw_in 1 hi hL (by decide)) ?_
  refine rr_ck (rw_in 2 hi hL (by decide)) ?_
  refine rr_ck (rw_in 3 hi hL (by decide)) ?_
  refine rr_ck (rw_in 4 hi hL (by decide)) ?_
  refine rr_callC (f_c_figure_ok_w1 _ hc) ⟨rfl, Nat.le_refl _, hcc, hss⟩ ?_
  refine rr_ck (rw_in 1 hi hL (by decide)) ?_
  refine rr_ck (rw_in 2 hi hL (by decide)) ?_
  refine rr_ck (rw_in 3 hi hL (by decide)) ?_
  refine rr_ck (rw_in 4 hi hL (by decide)) ?_
  refine rr_callC (f_m_figure_ok _ hm) ⟨rfl, Nat.le_refl _, hcc, hss⟩ ?_
  refine ⟨fun _ => ?_, fun h => absurd he h⟩
  exact rx_sub nx [1, 2, 3, 4, 0] rfl
set_option maxRecDepth 1000000 in
set_option maxHeartbeats 4000000 in
theorem rw_c13_0 {L : Nat} {xs : Nat → Int32} {out : rx_O} {c s p2 p3 p2' p3' w' d : Nat} {σ σ' : rx_St} {i : Nat} (hi : i + 8 ≤ L) (hL : L ≤ 4096) (hcc : c + d ≤ out.2.2.1) (hss : s + 6 * d ≤ out.2.2.2.1) (hs : rw_s13 xs (nI i) 0 p2 p3 σ w' p2' p3' d σ') (nx : rx_AtP (rv_S L xs) 263 23 (rw_L (nI i + (8 : Int32))) [] (162, c + d, s + 6 * d, [], rw_P w' p2' p3', σ') out) : rx_AtP (rv_S L xs) 263 766 (rw_L (nI i)) [] (162, c, s, [], rw_P 0 p2 p3, σ) out := by
  obtain ⟨o1, o2, hc, hm, he, rfl, rfl, rfl, rfl, rfl⟩ := hs
  refine rx_walk [23] 3000 (by decide) (rx_e263 L xs) ?_
  refine rr_ck (rw_in 1 hi hL (by decide)) ?_
  refine rr_ck (rw_in 2 hi hL (by decide)) ?_
  refine rr_ck (rw_in 3 hi hL (by decide)) ?_
  refine rr_callC (f_c_wishes_ok_w0 _ hc) ⟨rfl, Nat.le_refl _, hcc, hss⟩ ?_
  refine rr_ck (rw_in 1 hi hL (by decide)) ?_
  refine rr_ck (rw_in 2 hi hL (by decide)) ?_
  refine rr_ck (rw_in 3 hi hL (by decide)) ?_
  refine rr_callC (f_m_wishes_ok _ hm) ⟨rfl, Nat.le_refl _, hcc, hss⟩ ?_
  refine ⟨fun _ => ?_, fun h => absurd he h⟩
  exact rx_sub nx [1, 2, 3, 4, 0] rfl
set_option maxRecDepth 1000000 in
set_option maxHeartbeats 4000000 in
theorem rw_c13_1 {L : Nat} {xs : Nat → Int32} {out : rx_O} {c s p2 p3 p2' p3' w' d : Nat} {σ σ' : rx_St} {i : Nat} (hi : i + 8 ≤ L) (hL : L ≤ 4096) (hcc : c + d ≤ out.2.2.1) (hss : s + 6 * d ≤ out.2.2.2.1) (hs : rw_s13 xs (nI i) 1 p2 p3 σ w' p2' p3' d σ') (nx : rx_AtP (rv_S L xs) 263 23 (rw_L (nI i + (8 : Int32))) [] (162, c + d, s + 6 * d, [], rw_P w' p2' p3', σ') out) : rx_AtP (rv_S L xs) 263 766 (rw_L (nI i)) [] (162, c, s, [], rw_P 1 p2 p3, σ) out := by
  obtain ⟨o1, o2, hc, hm, he, rfl, rfl, rfl, rfl, rfl⟩ := hs
  refine rx_walk [23] 3000 (by decide) (rx_e263 L xs) ?_
  refine rr_ck (rw_in 1 hi hL (by decide)) ?_
  refine rr_ck (rw_in 2 hi hL (by decide)) ?_
  refine rr_ck (rw_in 3 hi hL (by decide)) ?_
  refine rr_callC (f_c_wishes_ok_w1 _ hc) ⟨rfl, Nat.le_refl _, hcc, hss⟩ ?_
  refine rr_ck (rw_in 1 hi hL (by decide)) ?_
  refine rr_ck (rw_in 2 hi hL (by decide)) ?_
  refine rr_ck (rw_in 3 hi hL (by decide)) ?_
  refine rr_callC (f_m_wishes_ok _ hm) ⟨rfl, Nat.le_refl _, hcc, hss⟩ ?_
  refine ⟨fun _ => ?_, fun h => absurd he h⟩
  exact rx_sub nx [1, 2, 3, 4, 0] rfl
set_option maxRecDepth 1000000 in
set_option maxHeartbeats 4000000 in
theorem rw_c14_0 {L : Nat} {xs : Nat → Int32} {out : rx_O} {c s p2 p3 p2' p3' w' d : Nat} {σ σ' : rx_St} {i : Nat} (hi : i + 8 ≤ L) (hL : L ≤ 4096) (hcc : c + d ≤ out.2.2.1) (hss : s + 6 * d ≤ out.2.2.2.1) (hs : rw_s14 xs (nI i) 0 p2 p3 σ w' p2' p3' d σ') (nx : rx_AtP (rv_S L xs) 263 23 (rw_L (nI i + (8 : Int32))) [] (162, c + d, s + 6 * d, [], rw_P w' p2' p3', σ') out) : rx_AtP (rv_S L xs) 263 815 (rw_L (nI i)) [] (162, c, s, [], rw_P 0 p2 p3, σ) out := by
  obtain ⟨o1, o2, hc, hm, he, rfl, rfl, rfl, rfl, rfl⟩ := hs
  refine rx_walk [23] 3000 (by decide) (rx_e263 L xs) ?_
  refine rr_ck (rw_in 1 hi hL (by decide)) ?_
  refine rr_ck (rw_in 2 hi hL (by decide)) ?_
  refine rr_ck (rw_in 3 hi hL (by decide)) ?_
  refine rr_ck (rw_in 4 hi hL (by decide)) ?_
  refine rr_callC (f_c_changed_ok_w0 _ hc) ⟨rfl, Nat.le_refl _, hcc, hss⟩ ?_
  refine rr_ck (rw_in 1 hi hL (by decide)) ?_
  refine rr_ck (rw_in 2 hi hL (by decide)) ?_
  refine rr_ck (rw_in 3 hi hL (by decide)) ?_
  refine rr_ck (rw_in 4 hi hL (by decide)) ?_
  refine rr_callC (f_m_changed_ok _ hm) ⟨rfl, Nat.le_refl _, hcc, hss⟩ ?_
  refine ⟨fun _ => ?_, fun h => absurd he h⟩
  exact rx_sub nx [1, 2, 3, 4, 0] rfl
set_option maxRecDepth 1000000 in
set_option maxHeartbeats 4000000 in
theorem rw_c14_1 {L : Nat} {xs : Nat → Int32} {out : rx_O} {c s p2 p3 p2' p3' w' d : Nat} {σ σ' : rx_St} {i : Nat} (hi : i + 8 ≤ L) (hL : L ≤ 4096) (hcc : c + d ≤ out.2.2.1) (hss : s + 6 * d ≤ out.2.2.2.1) (hs : rw_s14 xs (nI i) 1 p2 p3 σ w' p2' p3' d σ') (nx : rx_AtP (rv_S L xs) 263 23 (rw_L (nI i + (8 : Int32))) [] (162, c + d, s + 6 * d, [], rw_P w' p2' p3', σ') out) : rx_AtP (rv_S L xs) 263 815 (rw_L (nI i)) [] (162, c, s, [], rw_P 1 p2 p3, σ) out := by
  obtain ⟨o1, o2, hc, hm, he, rfl, rfl, rfl, rfl, rfl⟩ := hs
  refine rx_walk [23] 3000 (by decide) (rx_e263 L xs) ?_
  refine rr_ck (rw_in 1 hi hL (by decide)) ?_
  refine rr_ck (rw_in 2 hi hL (by decide)) ?_
  refine rr_ck (rw_in 3 hi hL (by decide)) ?_
  refine rr_ck (rw_in 4 hi hL (by decide)) ?_
  refine rr_callC (f_c_changed_ok_w1 _ hc) ⟨rfl, Nat.le_refl _, hcc, hss⟩ ?_
  refine rr_ck (rw_in 1 hi hL (by decide)) ?_
  refine rr_ck (rw_in 2 hi hL (by decide)) ?_
  refine rr_ck (rw_in 3 hi hL (by decide)) ?_
  refine rr_ck (rw_in 4 hi hL (by decide)) ?_
  refine rr_callC (f_m_changed_ok _ hm) ⟨rfl, Nat.le_refl _, hcc, hss⟩ ?_
  refine ⟨fun _ => ?_, fun h => absurd he h⟩
  exact rx_sub nx [1, 2, 3, 4, 0] rfl
set_option maxRecDepth 1000000 in
set_option maxHeartbeats 4000000 in
theorem rw_c15_0 {L : Nat} {xs : Nat → Int32} {out : rx_O} {c s p2 p3 p2' p3' w' d : Nat} {σ σ' : rx_St} {i : Nat} (hi : i + 8 ≤ L) (hL : L ≤ 4096) (hcc : c + d ≤ out.2.2.1) (hss : s + 6 * d ≤ out.2.2.2.1) (hs : rw_s15 xs (nI i) 0 p2 p3 σ w' p2' p3' d σ') (nx : rx_AtP (rv_S L xs) 263 23 (rw_L (nI i + (8 : Int32))) [] (162, c + d, s + 6 * d, [], rw_P w' p2' p3', σ') out) : rx_AtP (rv_S L xs) 263 876 (rw_L (nI i)) [] (162, c, s, [], rw_P 0 p2 p3, σ) out := by
  obtain ⟨o1, o2, hc, hm, he, rfl, rfl, rfl, rfl, rfl⟩ := hs
  refine rx_walk [23] 3000 (by decide) (rx_e263 L xs) ?_
  refine rr_ck (rw_in 1 hi hL (by decide)) ?_
  refine rr_ck (rw_in 2 hi hL (by decide)) ?_
  refine rr_ck (rw_in 3 hi hL (by decide)) ?_
  refine rr_ck (rw_in 4 hi hL (by decide)) ?_
  refine rr_ck (rw_in 5 hi hL (by decide)) ?_
  refine rr_callC (f_c_first_ok_w0 _ hc) ⟨rfl, Nat.le_refl _, hcc, hss⟩ ?_
  refine rr_ck (rw_in 1 hi hL (by decide)) ?_
  refine rr_ck (rw_in 2 hi hL (by decide)) ?_
  refine rr_ck (rw_in 3 hi hL (by decide)) ?_
  refine rr_ck (rw_in 4 hi hL (by decide)) ?_
  refine rr_ck (rw_in 5 hi hL (by decide)) ?_
  refine rr_callC (f_m_first_ok _ hm) ⟨rfl, Nat.le_refl _, hcc, hss⟩ ?_
  refine ⟨fun _ => ?_, fun h => absurd he h⟩
  exact rx_sub nx [1, 2, 3, 4, 0] rfl
set_option maxRecDepth 1000000 in
set_option maxHeartbeats 4000000 in
theorem rw_c15_1 {L : Nat} {xs : Nat → Int32} {out : rx_O} {c s p2 p3 p2' p3' w' d : Nat} {σ σ' : rx_St} {i : Nat} (hi : i + 8 ≤ L) (hL : L ≤ 4096) (hcc : c + d ≤ out.2.2.1) (hss : s + 6 * d ≤ out.2.2.2.1) (hs : rw_s15 xs (nI i) 1 p2 p3 σ w' p2' p3' d σ') (nx : rx_AtP (rv_S L xs) 263 23 (rw_L (nI i + (8 : Int32))) [] (162, c + d, s + 6 * d, [], rw_P w' p2' p3', σ') out) : rx_AtP (rv_S L xs) 263 876 (rw_L (nI i)) [] (162, c, s, [], rw_P 1 p2 p3, σ) out := by
  obtain ⟨o1, o2, hc, hm, he, rfl, rfl, rfl, rfl, rfl⟩ := hs
  refine rx_walk [23] 3000 (by decide) (rx_e263 L xs) ?_
  refine rr_ck (rw_in 1 hi hL (by decide)) ?_
  refine rr_ck (rw_in 2 hi hL (by decide)) ?_
  refine rr_ck (rw_in 3 hi hL (by decide)) ?_
  refine rr_ck (rw_in 4 hi hL (by decide)) ?_
  refine rr_ck (rw_in 5 hi hL (by decide)) ?_
  refine rr_callC (f_c_first_ok_w1 _ hc) ⟨rfl, Nat.le_refl _, hcc, hss⟩ ?_
  refine rr_ck (rw_in 1 hi hL (by decide)) ?_
  refine rr_ck (rw_in 2 hi hL (by decide)) ?_
  refine rr_ck (rw_in 3 hi hL (by decide)) ?_
  refine rr_ck (rw_in 4 hi hL (by decide)) ?_
  refine rr_ck (rw_in 5 hi hL (by decide)) ?_
  refine rr_callC (f_m_first_ok _ hm) ⟨rfl, Nat.le_refl _, hcc, hss⟩ ?_
  refine ⟨fun _ => ?_, fun h => absurd he h⟩
  exact rx_sub nx [1, 2, 3, 4, 0] rfl
set_option maxRecDepth 1000000 in
set_option maxHeartbeats 4000000 in
theorem rw_c16_0 {L : Nat} {xs : Nat → Int32} {out : rx_O} {c s p2 p3 p2' p3' w' d : Nat} {σ σ' : rx_St} {i : Nat} (hi : i + 8 ≤ L) (hL : L ≤ 4096) (hcc : c + d ≤ out.2.2.1) (hss : s + 6 * d ≤ out.2.2.2.1) (hs : rw_s16 xs (nI i) 0 p2 p3 σ w' p2' p3' d σ') (nx : rx_AtP (rv_S L xs) 263 23 (rw_L (nI i + (8 : Int32))) [] (162, c + d, s + 6 * d, [], rw_P w' p2' p3', σ') out) : rx_AtP (rv_S L xs) 263 949 (rw_L (nI i)) [] (162, c, s, [], rw_P 0 p2 p3, σ) out := by
  obtain ⟨o1, o2, hc, hm, he, rfl, rfl, rfl, rfl, rfl⟩ := hs
  refine rx_walk [23] 3000 (by decide) (rx_e263 L xs) ?_
  refine rr_ck (rw_in 1 hi hL (by decide)) ?_
  refine rr_ck (rw_in 2 hi hL (by decide)) ?_
  refine rr_callC (f_c_cause_ok_w0 _ hc) ⟨rfl, Nat.le_refl _, hcc, hss⟩ ?_
  refine rr_ck (rw_in 1 hi hL (by decide)) ?_
  refine rr_ck (rw_in 2 hi hL (by decide)) ?_
  refine rr_callC (f_m_cause_ok _ hm) ⟨rfl, Nat.le_refl _, hcc, hss⟩ ?_
  refine ⟨fun _ => ?_, fun h => absurd he h⟩
  exact rx_sub nx [1, 2, 3, 4, 0] rfl
set_option maxRecDepth 1000000 in
set_option maxHeartbeats 4000000 in
theorem rw_c16_1 {L : Nat} {xs : Nat → Int32} {out : rx_O} {c s p2 p3 p2' p3' w' d : Nat} {σ σ' : rx_St} {i : Nat} (hi : i + 8 ≤ L) (hL : L ≤ 4096) (hcc : c + d ≤ out.2.2.1) (hss : s + 6 * d ≤ out.2.2.2.1) (hs : rw_s16 xs (nI i) 1 p2 p3 σ w' p2' p3' d σ') (nx : rx_AtP (rv_S L xs) 263 23 (rw_L (nI i + (8 : Int32))) [] (162, c + d, s + 6 * d, [], rw_P w' p2' p3', σ') out) : rx_AtP (rv_S L xs) 263 949 (rw_L (nI i)) [] (162, c, s, [], rw_P 1 p2 p3, σ) out := by
  obtain ⟨o1, o2, hc, hm, he, rfl, rfl, rfl, rfl, rfl⟩ := hs
  refine rx_walk [23] 3000 (by decide) (rx_e263 L xs) ?_
  refine rr_ck (rw_in 1 hi hL (by decide)) ?_
  refine rr_ck (rw_in 2 hi hL (by decide)) ?_
  refine rr_callC (f_c_cause_ok_w1 _ hc) ⟨rfl, Nat.le_refl _, hcc, hss⟩ ?_
  refine rr_ck (rw_in 1 hi hL (by decide)) ?_
  refine rr_ck (rw_in 2 hi hL (by decide)) ?_
  refine rr_callC (f_m_cause_ok _ hm) ⟨rfl, Nat.le_refl _, hcc, hss⟩ ?_
  refine ⟨fun _ => ?_, fun h => absurd he h⟩
  exact rx_sub nx [1, 2, 3, 4, 0] rfl
set_option maxRecDepth 1000000 in
set_option maxHeartbeats 4000000 in
theorem rw_c17_0 {L : Nat} {xs : Nat → Int32} {out : rx_O} {c s p2 p3 p2' p3' w' d : Nat} {σ σ' : rx_St} {i : Nat} (hi : i + 8 ≤ L) (hL : L ≤ 4096) (hcc : c + d ≤ out.2.2.1) (hss : s + 6 * d ≤ out.2.2.2.1) (hs : rw_s17 xs (nI i) 0 p2 p3 σ w' p2' p3' d σ') (nx : rx_AtP (rv_S L xs) 263 23 (rw_L (nI i + (8 : Int32))) [] (162, c + d, s + 6 * d, [], rw_P w' p2' p3', σ') out) : rx_AtP (rv_S L xs) 263 986 (rw_L (nI i)) [] (162, c, s, [], rw_P 0 p2 p3, σ) out := by
  obtain ⟨o1, o2, hc, hm, he, rfl, rfl, rfl, rfl, rfl⟩ := hs
  refine rx_walk [23] 3000 (by decide) (rx_e263 L xs) ?_
  refine rr_callC (f_c_clear_ok _ hc) ⟨rfl, Nat.le_refl _, hcc, hss⟩ ?_
  refine rr_callC (f_m_clear_ok _ hm) ⟨rfl, Nat.le_refl _, hcc, hss⟩ ?_
  refine ⟨fun _ => ?_, fun h => absurd he h⟩
  exact rx_sub nx [1, 2, 3, 4, 0] rfl
set_option maxRecDepth 1000000 in
set_option maxHeartbeats 4000000 in
theorem rw_c17_1 {L : Nat} {xs : Nat → Int32} {out : rx_O} {c s p2 p3 p2' p3' w' d : Nat} {σ σ' : rx_St} {i : Nat} (hi : i + 8 ≤ L) (hL : L ≤ 4096) (hcc : c + d ≤ out.2.2.1) (hss : s + 6 * d ≤ out.2.2.2.1) (hs : rw_s17 xs (nI i) 1 p2 p3 σ w' p2' p3' d σ') (nx : rx_AtP (rv_S L xs) 263 23 (rw_L (nI i + (8 : Int32))) [] (162, c + d, s + 6 * d, [], rw_P w' p2' p3', σ') out) : rx_AtP (rv_S L xs) 263 986 (rw_L (nI i)) [] (162, c, s, [], rw_P 1 p2 p3, σ) out := by
  obtain ⟨o1, o2, hc, hm, he, rfl, rfl, rfl, rfl, rfl⟩ := hs
  refine rx_walk [23] 3000 (by decide) (rx_e263 L xs) ?_
  refine rr_callC (f_c_clear_ok _ hc) ⟨rfl, Nat.le_refl _, hcc, hss⟩ ?_
  refine rr_callC (f_m_clear_ok _ hm) ⟨rfl, Nat.le_refl _, hcc, hss⟩ ?_
  refine ⟨fun _ => ?_, fun h => absurd he h⟩
  exact rx_sub nx [1, 2, 3, 4, 0] rfl
set_option maxRecDepth 1000000 in
set_option maxHeartbeats 4000000 in
theorem rw_c18_0 {L : Nat} {xs : Nat → Int32} {out : rx_O} {c s p2 p3 p2' p3' w' d : Nat} {σ σ' : rx_St} {i : Nat} (hi : i + 8 ≤ L) (hL : L ≤ 4096) (hcc : c + d ≤ out.2.2.1) (hss : s + 6 * d ≤ out.2.2.2.1) (hs : rw_s18 xs (nI i) 0 p2 p3 σ w' p2' p3' d σ') (nx : rx_AtP (rv_S L xs) 263 23 (rw_L (nI i + (8 : Int32))) [] (162, c + d, s + 6 * d, [], rw_P w' p2' p3', σ') out) : rx_AtP (rv_S L xs) 263 999 (rw_L (nI i)) [] (162, c, s, [], rw_P 0 p2 p3, σ) out := by
  obtain ⟨o1, o2, hc, hm, he, rfl, rfl, rfl, rfl, rfl⟩ := hs
  refine rx_walk [23] 3000 (by decide) (rx_e263 L xs) ?_
  refine rr_ck (rw_in 1 hi hL (by decide)) ?_
  refine rr_ck (rw_in 2 hi hL (by decide)) ?_
  refine rr_ck (rw_in 3 hi hL (by decide)) ?_
  refine rr_ck (rw_in 4 hi hL (by decide)) ?_
  refine rr_ck (rw_in 5 hi hL (by decide)) ?_
  refine rr_callC (f_c_share_ok_w0 _ hc) ⟨rfl, Nat.le_refl _, hcc, hss⟩ ?_
  refine rr_ck (rw_in 1 hi hL (by decide)) ?_
  refine rr_ck (rw_in 2 hi hL (by decide)) ?_
  refine rr_ck (rw_in 3 hi hL (by decide)) ?_
  refine rr_ck (rw_in 4 hi hL (by decide)) ?_
  refine rr_ck (rw_in 5 hi hL (by decide)) ?_
  refine rr_callC (f_m_share_ok _ hm) ⟨rfl, Nat.le_refl _, hcc, hss⟩ ?_
  refine ⟨fun _ => ?_, fun h => absurd (rw_cmp he) h⟩
  exact rx_sub nx [1, 2, 3, 4, 0] rfl
set_option maxRecDepth 1000000 in
set_option maxHeartbeats 4000000 in
theorem rw_c18_1 {L : Nat} {xs : Nat → Int32} {out : rx_O} {c s p2 p3 p2' p3' w' d : Nat} {σ σ' : rx_St} {i : Nat} (hi : i + 8 ≤ L) (hL : L ≤ 4096) (hcc : c + d ≤ out.2.2.1) (hss : s + 6 * d ≤ out.2.2.2.1) (hs : rw_s18 xs (nI i) 1 p2 p3 σ w' p2' p3' d σ') (nx : rx_AtP (rv_S L xs) 263 23 (rw_L (nI i + (8 : Int32))) [] (162, c + d, s + 6 * d, [], rw_P w' p2' p3', σ') out) : rx_AtP (rv_S L xs) 263 999 (rw_L (nI i)) [] (162, c, s, [], rw_P 1 p2 p3, σ) out := by
  obtain ⟨o1, o2, hc, hm, he, rfl, rfl, rfl, rfl, rfl⟩ := hs
  refine rx_walk [23] 3000 (by decide) (rx_e263 L xs) ?_
  refine rr_ck (rw_in 1 hi hL (by decide)) ?_
  refine rr_ck (rw_in 2 hi hL (by decide)) ?_
  refine rr_ck (rw_in 3 hi hL (by decide)) ?_
  refine rr_ck (rw_in 4 hi hL (by decide)) ?_
  refine rr_ck (rw_in 5 hi hL (by decide)) ?_
  refine rr_callC (f_c_share_ok_w1 _ hc) ⟨rfl, Nat.le_refl _, hcc, hss⟩ ?_
  refine rr_ck (rw_in 1 hi hL (by decide)) ?_
  refine rr_ck (rw_in 2 hi hL (by decide)) ?_
  refine rr_ck (rw_in 3 hi hL (by decide)) ?_
  refine rr_ck (rw_in 4 hi hL (by decide)) ?_
  refine rr_ck (rw_in 5 hi hL (by decide)) ?_
  refine rr_callC (f_m_share_ok _ hm) ⟨rfl, Nat.le_refl _, hcc, hss⟩ ?_
  refine ⟨fun _ => ?_, fun h => absurd (rw_cmp he) h⟩
  exact rx_sub nx [1, 2, 3, 4, 0] rfl
set_option maxRecDepth 1000000 in
set_option maxHeartbeats 4000000 in
theorem rw_c19_0 {L : Nat} {xs : Nat → Int32} {out : rx_O} {c s p2 p3 p2' p3' w' d : Nat} {σ σ' : rx_St} {i : Nat} (hi : i + 8 ≤ L) (hL : L ≤ 4096) (hcc : c + d ≤ out.2.2.1) (hss : s + 6 * d ≤ out.2.2.2.1) (hs : rw_s19 xs (nI i) 0 p2 p3 σ w' p2' p3' d σ') (nx : rx_AtP (rv_S L xs) 263 23 (rw_L (nI i + (8 : Int32))) [] (162, c + d, s + 6 * d, [], rw_P w' p2' p3', σ') out) : rx_AtP (rv_S L xs) 263 1073 (rw_L (nI i)) [] (162, c, s, [], rw_P 0 p2 p3, σ) out := by
  obtain ⟨o1, o2, hc, hm, he, rfl, rfl, rfl, rfl, rfl⟩ := hs
  refine rx_walk [23] 3000 (by decide) (rx_e263 L xs) ?_
  refine rr_ck (rw_in 1 hi hL (by decide)) ?_
  refine rr_ck (rw_in 2 hi hL (by decide)) ?_
  refine rr_ck (rw_in 3 hi hL (by decide)) ?_
  refine rr_ck (rw_in 4 hi hL (by decide)) ?_
  refine rr_ck (rw_in 5 hi hL (by decide)) ?_
  refine rr_callC (f_c_seen_ok_w0 _ hc) ⟨rfl, Nat.le_refl _, hcc, hss⟩ ?_
  refine rr_ck (rw_in 1 hi hL (by decide)) ?_
  refine rr_ck (rw_in 2 hi hL (by decide)) ?_
  refine rr_ck (rw_in 3 hi hL (by decide)) ?_
  refine rr_ck (rw_in 4 hi hL (by decide)) ?_
  refine rr_ck (rw_in 5 hi hL (by decide)) ?_
  refine rr_callC (f_m_seen_ok _ hm) ⟨rfl, Nat.le_refl _, hcc, hss⟩ ?_
  refine ⟨fun _ => ?_, fun h => absurd he h⟩
  exact rx_sub nx [1, 2, 3, 4, 0] rfl
set_option maxRecDepth 1000000 in
set_option maxHeartbeats 4000000 in
theorem rw_c19_1 {L : Nat} {xs : Nat → Int32} {out : rx_O} {c s p2 p3 p2' p3' w' d : Nat} {σ σ' : rx_St} {i : Nat} (hi : i + 8 ≤ L) (hL : L ≤ 4096) (hcc : c + d ≤ out.2.2.1) (hss : s + 6 * d ≤ out.2.2.2.1) (hs : rw_s19 xs (nI i) 1 p2 p3 σ w' p2' p3' d σ') (nx : rx_AtP (rv_S L xs) 263 23 (rw_L (nI i + (8 : Int32))) [] (162, c + d, s + 6 * d, [], rw_P w' p2' p3', σ') out) : rx_AtP (rv_S L xs) 263 1073 (rw_L (nI i)) [] (162, c, s, [], rw_P 1 p2 p3, σ) out := by
  obtain ⟨o1, o2, hc, hm, he, rfl, rfl, rfl, rfl, rfl⟩ := hs
  refine rx_walk [23] 3000 (by decide) (rx_e263 L xs) ?_
  refine rr_ck (rw_in 1 hi hL (by decide)) ?_
  refine rr_ck (rw_in 2 hi hL (by decide)) ?_
  refine rr_ck (rw_in 3 hi hL (by decide)) ?_
  refine rr_ck (rw_in 4 hi hL (by decide)) ?_
  refine rr_ck (rw_in 5 hi hL (by decide)) ?_
  refine rr_callC (f_c_seen_ok_w1 _ hc) ⟨rfl, Nat.le_refl _, hcc, hss⟩ ?_
  refine rr_ck (rw_in 1 hi hL (by decide)) ?_
  refine rr_ck (rw_in 2 hi hL (by decide)) ?_
  refine rr_ck (rw_in 3 hi hL (by decide)) ?_
  refine rr_ck (rw_in 4 hi hL (by decide)) ?_
  refine rr_ck (rw_in 5 hi hL (by decide)) ?_
  refine rr_callC (f_m_seen_ok _ hm) ⟨rfl, Nat.le_refl _, hcc, hss⟩ ?_
  refine ⟨fun _ => ?_, fun h => absurd he h⟩
  exact rx_sub nx [1, 2, 3, 4, 0] rfl
set_option maxRecDepth 1000000 in
set_option maxHeartbeats 4000000 in
theorem rw_c20_0 {L : Nat} {xs : Nat → Int32} {out : rx_O} {c s p2 p3 p2' p3' w' d : Nat} {σ σ' : rx_St} {i : Nat} (hi : i + 8 ≤ L) (hL : L ≤ 4096) (hcc : c + d ≤ out.2.2.1) (hss : s + 6 * d ≤ out.2.2.2.1) (hs : rw_s20 xs (nI i) 0 p2 p3 σ w' p2' p3' d σ') (nx : rx_AtP (rv_S L xs) 263 23 (rw_L (nI i + (8 : Int32))) [] (162, c + d, s + 6 * d, [], rw_P w' p2' p3', σ') out) : rx_AtP (rv_S L xs) 263 1146 (rw_L (nI i)) [] (162, c, s, [], rw_P 0 p2 p3, σ) out := by
  obtain ⟨o1, o2, hc, hm, he, rfl, rfl, rfl, rfl, rfl⟩ := hs
  refine rx_walk [23] 3000 (by decide) (rx_e263 L xs) ?_
  refine rr_ck (rw_in 1 hi hL (by decide)) ?_
  refine rr_ck (rw_in 2 hi hL (by decide)) ?_
  refine rr_ck (rw_in 3 hi hL (by decide)) ?_
  refine rr_ck (rw_in 4 hi hL (by decide)) ?_
  refine rr_callC (f_c_span_ok_w0 _ hc) ⟨rfl, Nat.le_refl _, hcc, hss⟩ ?_
  refine rr_ck (rw_in 1 hi hL (by decide)) ?_
  refine rr_ck (rw_in 2 hi hL (by decide)) ?_
  refine rr_ck (rw_in 3 hi hL (by decide)) ?_
  refine rr_ck (rw_in 4 hi hL (by decide)) ?_
  refine rr_callC (f_m_span_ok _ hm) ⟨rfl, Nat.le_refl _, hcc, hss⟩ ?_
  refine ⟨fun _ => ?_, fun h => absurd he h⟩
  exact rx_sub nx [1, 2, 3, 4, 0] rfl
set_option maxRecDepth 1000000 in
set_option maxHeartbeats 4000000 in
theorem rw_c20_1 {L : Nat} {xs : Nat → Int32} {out : rx_O} {c s p2 p3 p2' p3' w' d : Nat} {σ σ' : rx_St} {i : Nat} (hi : i + 8 ≤ L) (hL : L ≤ 4096) (hcc : c + d ≤ out.2.2.1) (hss : s + 6 * d ≤ out.2.2.2.1) (hs : rw_s20 xs (nI i) 1 p2 p3 σ w' p2' p3' d σ') (nx : rx_AtP (rv_S L xs) 263 23 (rw_L (nI i + (8 : Int32))) [] (162, c + d, s + 6 * d, [], rw_P w' p2' p3', σ') out) : rx_AtP (rv_S L xs) 263 1146 (rw_L (nI i)) [] (162, c, s, [], rw_P 1 p2 p3, σ) out := by
  obtain ⟨o1, o2, hc, hm, he, rfl, rfl, rfl, rfl, rfl⟩ := hs
  refine rx_walk [23] 3000 (by decide) (rx_e263 L xs) ?_
  refine rr_ck (rw_in 1 hi hL (by decide)) ?_
  refine rr_ck (rw_in 2 hi hL (by decide)) ?_
  refine rr_ck (rw_in 3 hi hL (by decide)) ?_
  refine rr_ck (rw_in 4 hi hL (by decide)) ?_
  refine rr_callC (f_c_span_ok_w1 _ hc) ⟨rfl, Nat.le_refl _, hcc, hss⟩ ?_
  refine rr_ck (rw_in 1 hi hL (by decide)) ?_
  refine rr_ck (rw_in 2 hi hL (by decide)) ?_
  refine rr_ck (rw_in 3 hi hL (by decide)) ?_
  refine rr_ck (rw_in 4 hi hL (by decide)) ?_
  refine rr_callC (f_m_span_ok _ hm) ⟨rfl, Nat.le_refl _, hcc, hss⟩ ?_
  refine ⟨fun _ => ?_, fun h => absurd he h⟩
  exact rx_sub nx [1, 2, 3, 4, 0] rfl
set_option maxRecDepth 1000000 in
set_option maxHeartbeats 4000000 in
theorem rw_c21_0 {L : Nat} {xs : Nat → Int32} {out : rx_O} {c s p2 p3 p2' p3' w' d : Nat} {σ σ' : rx_St} {i : Nat} (hi : i + 8 ≤ L) (hL : L ≤ 4096) (hcc : c + d ≤ out.2.2.1) (hss : s + 6 * d ≤ out.2.2.2.1) (hs : rw_s21 xs (nI i) 0 p2 p3 σ w' p2' p3' d σ') (nx : rx_AtP (rv_S L xs) 263 23 (rw_L (nI i + (8 : Int32))) [] (162, c + d, s + 6 * d, [], rw_P w' p2' p3', σ') out) : rx_AtP (rv_S L xs) 263 1207 (rw_L (nI i)) [] (162, c, s, [], rw_P 0 p2 p3, σ) out := by
  obtain ⟨o1, o2, hc, hm, he, rfl, rfl, rfl, rfl, rfl⟩ := hs
  refine rx_walk [23] 3000 (by decide) (rx_e263 L xs) ?_
  refine rr_ck (rw_in 1 hi hL (by decide)) ?_
  refine rr_callC (f_c_meets_ok_w0 _ hc) ⟨rfl, Nat.le_refl _, hcc, hss⟩ ?_
  refine rr_ck (rw_in 1 hi hL (by decide)) ?_
  refine rr_callC (f_m_meets_ok _ hm) ⟨rfl, Nat.le_refl _, hcc, hss⟩ ?_
  refine ⟨fun _ => ?_, fun h => absurd he h⟩
  exact rx_sub nx [1, 2, 3, 4, 0] rfl
set_option maxRecDepth 1000000 in
set_option maxHeartbeats 4000000 in
theorem rw_c21_1 {L : Nat} {xs : Nat → Int32} {out : rx_O} {c s p2 p3 p2' p3' w' d : Nat} {σ σ' : rx_St} {i : Nat} (hi : i + 8 ≤ L) (hL : L ≤ 4096) (hcc : c + d ≤ out.2.2.1) (hss : s + 6 * d ≤ out.2.2.2.1) (hs : rw_s21 xs (nI i) 1 p2 p3 σ w' p2' p3' d σ') (nx : rx_AtP (rv_S L xs) 263 23 (rw_L (nI i + (8 : Int32))) [] (162, c + d, s + 6 * d, [], rw_P w' p2' p3', σ') out) : rx_AtP (rv_S L xs) 263 1207 (rw_L (nI i)) [] (162, c, s, [], rw_P 1 p2 p3, σ) out := by
  obtain ⟨o1, o2, hc, hm, he, rfl, rfl, rfl, rfl, rfl⟩ := hs
  refine rx_walk [23] 3000 (by decide) (rx_e263 L xs) ?_
  refine rr_ck (rw_in 1 hi hL (by decide)) ?_
  refine rr_callC (f_c_meets_ok_w1 _ hc) ⟨rfl, Nat.le_refl _, hcc, hss⟩ ?_
  refine rr_ck (rw_in 1 hi hL (by decide)) ?_
  refine rr_callC (f_m_meets_ok _ hm) ⟨rfl, Nat.le_refl _, hcc, hss⟩ ?_
  refine ⟨fun _ => ?_, fun h => absurd he h⟩
  exact rx_sub nx [1, 2, 3, 4, 0] rfl
set_option maxRecDepth 1000000 in
set_option maxHeartbeats 4000000 in
theorem rw_c22_0 {L : Nat} {xs : Nat → Int32} {out : rx_O} {c s p2 p3 p2' p3' w' d : Nat} {σ σ' : rx_St} {i : Nat} (hi : i + 8 ≤ L) (hL : L ≤ 4096) (hcc : c + d ≤ out.2.2.1) (hss : s + 6 * d ≤ out.2.2.2.1) (hs : rw_s22 xs (nI i) 0 p2 p3 σ w' p2' p3' d σ') (nx : rx_AtP (rv_S L xs) 263 23 (rw_L (nI i + (8 : Int32))) [] (162, c + d, s + 6 * d, [], rw_P w' p2' p3', σ') out) : rx_AtP (rv_S L xs) 263 1232 (rw_L (nI i)) [] (162, c, s, [], rw_P 0 p2 p3, σ) out := by
  obtain ⟨o1, o2, hc, hm, he, rfl, rfl, rfl, rfl, rfl⟩ := hs
  refine rx_walk [23] 3000 (by decide) (rx_e263 L xs) ?_
  refine rr_ck (rw_in 1 hi hL (by decide)) ?_
  refine rr_ck (rw_in 2 hi hL (by decide)) ?_
  refine rr_ck (rw_in 3 hi hL (by decide)) ?_
  refine rr_callC (f_c_met_ok_w0 _ hc) ⟨rfl, Nat.le_refl _, hcc, hss⟩ ?_
  refine rr_ck (rw_in 1 hi hL (by decide)) ?_
  refine rr_ck (rw_in 2 hi hL (by decide)) ?_
  refine rr_ck (rw_in 3 hi hL (by decide)) ?_
  refine rr_callC (f_m_met_ok _ hm) ⟨rfl, Nat.le_refl _, hcc, hss⟩ ?_
  refine ⟨fun _ => ?_, fun h => absurd he h⟩
  exact rx_sub nx [1, 2, 3, 4, 0] rfl
set_option maxRecDepth 1000000 in
set_option maxHeartbeats 4000000 in
theorem rw_c22_1 {L : Nat} {xs : Nat → Int32} {out : rx_O} {c s p2 p3 p2' p3' w' d : Nat} {σ σ' : rx_St} {i : Nat} (hi : i + 8 ≤ L) (hL : L ≤ 4096) (hcc : c + d ≤ out.2.2.1) (hss : s + 6 * d ≤ out.2.2.2.1) (hs : rw_s22 xs (nI i) 1 p2 p3 σ w' p2' p3' d σ') (nx : rx_AtP (rv_S L xs) 263 23 (rw_L (nI i + (8 : Int32))) [] (162, c + d, s + 6 * d, [], rw_P w' p2' p3', σ') out) : rx_AtP (rv_S L xs) 263 1232 (rw_L (nI i)) [] (162, c, s, [], rw_P 1 p2 p3, σ) out := by
  obtain ⟨o1, o2, hc, hm, he, rfl, rfl, rfl, rfl, rfl⟩ := hs
  refine rx_walk [23] 3000 (by decide) (rx_e263 L xs) ?_
  refine rr_ck (rw_in 1 hi hL (by decide)) ?_
  refine rr_ck (rw_in 2 hi hL (by decide)) ?_
  refine rr_ck (rw_in 3 hi hL (by decide)) ?_
  refine rr_callC (f_c_met_ok_w1 _ hc) ⟨rfl, Nat.le_refl _, hcc, hss⟩ ?_
  refine rr_ck (rw_in 1 hi hL (by decide)) ?_
  refine rr_ck (rw_in 2 hi hL (by decide)) ?_
  refine rr_ck (rw_in 3 hi hL (by decide)) ?_
  refine rr_callC (f_m_met_ok _ hm) ⟨rfl, Nat.le_refl _, hcc, hss⟩ ?_
  refine ⟨fun _ => ?_, fun h => absurd he h⟩
  exact rx_sub nx [1, 2, 3, 4, 0] rfl
set_option maxRecDepth 1000000 in
set_option maxHeartbeats 4000000 in
theorem rw_c23_0 {L : Nat} {xs : Nat → Int32} {out : rx_O} {c s p2 p3 p2' p3' w' d : Nat} {σ σ' : rx_St} {i : Nat} (hi : i + 8 ≤ L) (hL : L ≤ 4096) (hcc : c + d ≤ out.2.2.1) (hss : s + 6 * d ≤ out.2.2.2.1) (hs : rw_s23 xs (nI i) 0 p2 p3 σ w' p2' p3' d σ') (nx : rx_AtP (rv_S L xs) 263 23 (rw_L (nI i + (8 : Int32))) [] (162, c + d, s + 6 * d, [], rw_P w' p2' p3', σ') out) : rx_AtP (rv_S L xs) 263 1281 (rw_L (nI i)) [] (162, c, s, [], rw_P 0 p2 p3, σ) out := by
  obtain ⟨o1, o2, hc, hm, he, rfl, rfl, rfl, rfl, rfl⟩ := hs
  refine rx_walk [23] 3000 (by decide) (rx_e263 L xs) ?_
  refine rr_ck (rw_in 1 hi hL (by decide)) ?_
  refine rr_callC (f_c_untold_ok_w0 _ hc) ⟨rfl, Nat.le_refl _, hcc, hss⟩ ?_
  refine rr_ck (rw_in 1 hi hL (by decide)) ?_
  refine rr_callC (f_m_untold_ok _ hm) ⟨rfl, Nat.le_refl _, hcc, hss⟩ ?_
  refine ⟨fun _ => ?_, fun h => absurd he h⟩
  exact rx_sub nx [1, 2, 3, 4, 0] rfl
set_option maxRecDepth 1000000 in
set_option maxHeartbeats 4000000 in
theorem rw_c23_1 {L : Nat} {xs : Nat → Int32} {out : rx_O} {c s p2 p3 p2' p3' w' d : Nat} {σ σ' : rx_St} {i : Nat} (hi : i + 8 ≤ L) (hL : L ≤ 4096) (hcc : c + d ≤ out.2.2.1) (hss : s + 6 * d ≤ out.2.2.2.1) (hs : rw_s23 xs (nI i) 1 p2 p3 σ w' p2' p3' d σ') (nx : rx_AtP (rv_S L xs) 263 23 (rw_L (nI i + (8 : Int32))) [] (162, c + d, s + 6 * d, [], rw_P w' p2' p3', σ') out) : rx_AtP (rv_S L xs) 263 1281 (rw_L (nI i)) [] (162, c, s, [], rw_P 1 p2 p3, σ) out := by
  obtain ⟨o1, o2, hc, hm, he, rfl, rfl, rfl, rfl, rfl⟩ := hs
  refine rx_walk [23] 3000 (by decide) (rx_e263 L xs) ?_
  refine rr_ck (rw_in 1 hi hL (by decide)) ?_
  refine rr_callC (f_c_untold_ok_w1 _ hc) ⟨rfl, Nat.le_refl _, hcc, hss⟩ ?_
  refine rr_ck (rw_in 1 hi hL (by decide)) ?_
  refine rr_callC (f_m_untold_ok _ hm) ⟨rfl, Nat.le_refl _, hcc, hss⟩ ?_
  refine ⟨fun _ => ?_, fun h => absurd he h⟩
  exact rx_sub nx [1, 2, 3, 4, 0] rfl
set_option maxRecDepth 1000000 in
set_option maxHeartbeats 4000000 in
theorem rw_c24_0 {L : Nat} {xs : Nat → Int32} {out : rx_O} {c s p2 p3 p2' p3' w' d : Nat} {σ σ' : rx_St} {i : Nat} (hi : i + 8 ≤ L) (hL : L ≤ 4096) (hcc : c + d ≤ out.2.2.1) (hss : s + 6 * d ≤ out.2.2.2.1) (hs : rw_s24 xs (nI i) 0 p2 p3 σ w' p2' p3' d σ') (nx : rx_AtP (rv_S L xs) 263 23 (rw_L (nI i + (8 : Int32))) [] (162, c + d, s + 6 * d, [], rw_P w' p2' p3', σ') out) : rx_AtP (rv_S L xs) 263 1306 (rw_L (nI i)) [] (162, c, s, [], rw_P 0 p2 p3, σ) out := by
  obtain ⟨o1, o2, hc, hm, he, rfl, rfl, rfl, rfl, rfl⟩ := hs
  refine rx_walk [23] 3000 (by decide) (rx_e263 L xs) ?_
  refine rr_ck (rw_in 1 hi hL (by decide)) ?_
  refine rr_ck (rw_in 2 hi hL (by decide)) ?_
  refine rr_ck (rw_in 3 hi hL (by decide)) ?_
  refine rr_ck (rw_in 4 hi hL (by decide)) ?_
  refine rr_ck (rw_in 5 hi hL (by decide)) ?_
  refine rr_ck (rw_in 6 hi hL (by decide)) ?_
  refine rr_ck (rw_in 7 hi hL (by decide)) ?_
  refine rr_callC (f_c_would_ok_w0 _ hc) ⟨rfl, Nat.le_refl _, hcc, hss⟩ ?_
  refine rr_ck (rw_in 1 hi hL (by decide)) ?_
  refine rr_ck (rw_in 2 hi hL (by decide)) ?_
  refine rr_ck (rw_in 3 hi hL (by decide)) ?_
  refine rr_ck (rw_in 4 hi hL (by decide)) ?_
  refine rr_ck (rw_in 5 hi hL (by decide)) ?_
  refine rr_ck (rw_in 6 hi hL (by decide)) ?_
  refine rr_ck (rw_in 7 hi hL (by decide)) ?_
  refine rr_callC (f_m_would_ok _ hm) ⟨rfl, Nat.le_refl _, hcc, hss⟩ ?_
  refine ⟨fun _ => ?_, fun h => absurd he h⟩
  exact rx_sub nx [1, 2, 3, 4, 0] rfl
set_option maxRecDepth 1000000 in
set_option maxHeartbeats 4000000 in
theorem rw_c24_1 {L : Nat} {xs : Nat → Int32} {out : rx_O} {c s p2 p3 p2' p3' w' d : Nat} {σ σ' : rx_St} {i : Nat} (hi : i + 8 ≤ L) (hL : L ≤ 4096) (hcc : c + d ≤ out.2.2.1) (hss : s + 6 * d ≤ out.2.2.2.1) (hs : rw_s24 xs (nI i) 1 p2 p3 σ w' p2' p3' d σ') (nx : rx_AtP (rv_S L xs) 263 23 (rw_L (nI i + (8 : Int32))) [] (162, c + d, s + 6 * d, [], rw_P w' p2' p3', σ') out) : rx_AtP (rv_S L xs) 263 1306 (rw_L (nI i)) [] (162, c, s, [], rw_P 1 p2 p3, σ) out := by
  obtain ⟨o1, o2, hc, hm, he, rfl, rfl, rfl, rfl, rfl⟩ := hs
  refine rx_walk [23] 3000 (by decide) (rx_e263 L xs) ?_
  refine rr_ck (rw_in 1 hi hL (by decide)) ?_
  refine rr_ck (rw_in 2 hi hL (by decide)) ?_
  refine rr_ck (rw_in 3 hi hL (by decide)) ?_
  refine rr_ck (rw_in 4 hi hL (by decide)) ?_
  refine rr_ck (rw_in 5 hi hL (by decide)) ?_
  refine rr_ck (rw_in 6 hi hL (by decide)) ?_
  refine rr_ck (rw_in 7 hi hL (by decide)) ?_
  refine rr_callC (f_c_would_ok_w1 _ hc) ⟨rfl, Nat.le_refl _, hcc, hss⟩ ?_
  refine rr_ck (rw_in 1 hi hL (by decide)) ?_
  refine rr_ck (rw_in 2 hi hL (by decide)) ?_
  refine rr_ck (rw_in 3 hi hL (by decide)) ?_
  refine rr_ck (rw_in 4 hi hL (by decide)) ?_
  refine rr_ck (rw_in 5 hi hL (by decide)) ?_
  refine rr_ck (rw_in 6 hi hL (by decide)) ?_
  refine rr_ck (rw_in 7 hi hL (by decide)) ?_
  refine rr_callC (f_m_would_ok _ hm) ⟨rfl, Nat.le_refl _, hcc, hss⟩ ?_
  refine ⟨fun _ => ?_, fun h => absurd he h⟩
  exact rx_sub nx [1, 2, 3, 4, 0] rfl
set_option maxRecDepth 1000000 in
set_option maxHeartbeats 4000000 in
theorem rw_c25_0 {L : Nat} {xs : Nat → Int32} {out : rx_O} {c s p2 p3 p2' p3' w' d : Nat} {σ σ' : rx_St} {i : Nat} (hi : i + 8 ≤ L) (hL : L ≤ 4096) (hcc : c + d ≤ out.2.2.1) (hss : s + 6 * d ≤ out.2.2.2.1) (hs : rw_s25 xs (nI i) 0 p2 p3 σ w' p2' p3' d σ') (nx : rx_AtP (rv_S L xs) 263 23 (rw_L (nI i + (8 : Int32))) [] (162, c + d, s + 6 * d, [], rw_P w' p2' p3', σ') out) : rx_AtP (rv_S L xs) 263 1407 (rw_L (nI i)) [] (162, c, s, [], rw_P 0 p2 p3, σ) out := by
  obtain ⟨o1, o2, hc, hm, he, rfl, rfl, rfl, rfl, rfl⟩ := hs
  refine rx_walk [23] 3000 (by decide) (rx_e263 L xs) ?_
  refine rr_ck (rw_in 1 hi hL (by decide)) ?_
  refine rr_ck (rw_in 2 hi hL (by decide)) ?_
  refine rr_ck (rw_in 3 hi hL (by decide)) ?_
  refine rr_callC (f_c_tells_ok _ hc) ⟨rfl, Nat.le_refl _, hcc, hss⟩ ?_
  refine rr_ck (rw_in 1 hi hL (by decide)) ?_
  refine rr_ck (rw_in 2 hi hL (by decide)) ?_
  refine rr_ck (rw_in 3 hi hL (by decide)) ?_
  refine rr_callC (f_m_tells_ok _ hm) ⟨rfl, Nat.le_refl _, hcc, hss⟩ ?_
  refine ⟨fun _ => ?_, fun h => absurd he h⟩
  exact rx_sub nx [1, 2, 3, 4, 0] rfl
set_option maxRecDepth 1000000 in
set_option maxHeartbeats 4000000 in
theorem rw_c25_1 {L : Nat} {xs : Nat → Int32} {out : rx_O} {c s p2 p3 p2' p3' w' d : Nat} {σ σ' : rx_St} {i : Nat} (hi : i + 8 ≤ L) (hL : L ≤ 4096) (hcc : c + d ≤ out.2.2.1) (hss : s + 6 * d ≤ out.2.2.2.1) (hs : rw_s25 xs (nI i) 1 p2 p3 σ w' p2' p3' d σ') (nx : rx_AtP (rv_S L xs) 263 23 (rw_L (nI i + (8 : Int32))) [] (162, c + d, s + 6 * d, [], rw_P w' p2' p3', σ') out) : rx_AtP (rv_S L xs) 263 1407 (rw_L (nI i)) [] (162, c, s, [], rw_P 1 p2 p3, σ) out := by
  obtain ⟨o1, o2, hc, hm, he, rfl, rfl, rfl, rfl, rfl⟩ := hs
  refine rx_walk [23] 3000 (by decide) (rx_e263 L xs) ?_
  refine rr_ck (rw_in 1 hi hL (by decide)) ?_
  refine rr_ck (rw_in 2 hi hL (by decide)) ?_
  refine rr_ck (rw_in 3 hi hL (by decide)) ?_
  refine rr_callC (f_c_tells_ok _ hc) ⟨rfl, Nat.le_refl _, hcc, hss⟩ ?_
  refine rr_ck (rw_in 1 hi hL (by decide)) ?_
  refine rr_ck (rw_in 2 hi hL (by decide)) ?_
  refine rr_ck (rw_in 3 hi hL (by decide)) ?_
  refine rr_callC (f_m_tells_ok _ hm) ⟨rfl, Nat.le_refl _, hcc, hss⟩ ?_
  refine ⟨fun _ => ?_, fun h => absurd he h⟩
  exact rx_sub nx [1, 2, 3, 4, 0] rfl
set_option maxRecDepth 1000000 in
set_option maxHeartbeats 4000000 in
theorem rw_c26_0 {L : Nat} {xs : Nat → Int32} {out : rx_O} {c s p2 p3 p2' p3' w' d : Nat} {σ σ' : rx_St} {i : Nat} (hi : i + 8 ≤ L) (hL : L ≤ 4096) (hcc : c + d ≤ out.2.2.1) (hss : s + 6 * d ≤ out.2.2.2.1) (hs : rw_s26 xs (nI i) 0 p2 p3 σ w' p2' p3' d σ') (nx : rx_AtP (rv_S L xs) 263 23 (rw_L (nI i + (8 : Int32))) [] (162, c + d, s + 6 * d, [], rw_P w' p2' p3', σ') out) : rx_AtP (rv_S L xs) 263 1456 (rw_L (nI i)) [] (162, c, s, [], rw_P 0 p2 p3, σ) out := by
  obtain ⟨o1, o2, hc, hm, he, rfl, rfl, rfl, rfl, rfl⟩ := hs
  refine rx_walk [23] 3000 (by decide) (rx_e263 L xs) ?_
  refine rr_ck (rw_in 1 hi hL (by decide)) ?_
  refine rr_ck (rw_in 2 hi hL (by decide)) ?_
  refine rr_callC (f_c_fewest_ok _ hc) ⟨rfl, Nat.le_refl _, hcc, hss⟩ ?_
  refine rr_ck (rw_in 1 hi hL (by decide)) ?_
  refine rr_ck (rw_in 2 hi hL (by decide)) ?_
  refine rr_callC (f_m_fewest_ok _ hm) ⟨rfl, Nat.le_refl _, hcc, hss⟩ ?_
  refine ⟨fun _ => ?_, fun h => absurd he h⟩
  exact rx_sub nx [1, 2, 3, 4, 0] rfl
set_option maxRecDepth 1000000 in
set_option maxHeartbeats 4000000 in
theorem rw_c26_1 {L : Nat} {xs : Nat → Int32} {out : rx_O} {c s p2 p3 p2' p3' w' d : Nat} {σ σ' : rx_St} {i : Nat} (hi : i + 8 ≤ L) (hL : L ≤ 4096) (hcc : c + d ≤ out.2.2.1) (hss : s + 6 * d ≤ out.2.2.2.1) (hs : rw_s26 xs (nI i) 1 p2 p3 σ w' p2' p3' d σ') (nx : rx_AtP (rv_S L xs) 263 23 (rw_L (nI i + (8 : Int32))) [] (162, c + d, s + 6 * d, [], rw_P w' p2' p3', σ') out) : rx_AtP (rv_S L xs) 263 1456 (rw_L (nI i)) [] (162, c, s, [], rw_P 1 p2 p3, σ) out := by
  obtain ⟨o1, o2, hc, hm, he, rfl, rfl, rfl, rfl, rfl⟩ := hs
  refine rx_walk [23] 3000 (by decide) (rx_e263 L xs) ?_
  refine rr_ck (rw_in 1 hi hL (by decide)) ?_
  refine rr_ck (rw_in 2 hi hL (by decide)) ?_
  refine rr_callC (f_c_fewest_ok _ hc) ⟨rfl, Nat.le_refl _, hcc, hss⟩ ?_
  refine rr_ck (rw_in 1 hi hL (by decide)) ?_
  refine rr_ck (rw_in 2 hi hL (by decide)) ?_
  refine rr_callC (f_m_fewest_ok _ hm) ⟨rfl, Nat.le_refl _, hcc, hss⟩ ?_
  refine ⟨fun _ => ?_, fun h => absurd he h⟩
  exact rx_sub nx [1, 2, 3, 4, 0] rfl
set_option maxRecDepth 1000000 in
set_option maxHeartbeats 4000000 in
theorem rw_c27_0 {L : Nat} {xs : Nat → Int32} {out : rx_O} {c s p2 p3 p2' p3' w' d : Nat} {σ σ' : rx_St} {i : Nat} (hi : i + 8 ≤ L) (hL : L ≤ 4096) (hcc : c + d ≤ out.2.2.1) (hss : s + 6 * d ≤ out.2.2.2.1) (hs : rw_s27 xs (nI i) 0 p2 p3 σ w' p2' p3' d σ') (nx : rx_AtP (rv_S L xs) 263 23 (rw_L (nI i + (8 : Int32))) [] (162, c + d, s + 6 * d, [], rw_P w' p2' p3', σ') out) : rx_AtP (rv_S L xs) 263 1493 (rw_L (nI i)) [] (162, c, s, [], rw_P 0 p2 p3, σ) out := by
  obtain ⟨o1, o2, hc, hm, he, rfl, rfl, rfl, rfl, rfl⟩ := hs
  refine rx_walk [23] 3000 (by decide) (rx_e263 L xs) ?_
  refine rr_ck (rw_in 1 hi hL (by decide)) ?_
  refine rr_callC (f_c_count_ok_w0 _ hc) ⟨rfl, Nat.le_refl _, hcc, hss⟩ ?_
  refine rr_ck (rw_in 1 hi hL (by decide)) ?_
  refine rr_callC (f_m_count_ok _ hm) ⟨rfl, Nat.le_refl _, hcc, hss⟩ ?_
  refine ⟨fun _ => ?_, fun h => absurd he h⟩
  exact rx_sub nx [1, 2, 3, 4, 0] rfl
set_option maxRecDepth 1000000 in
set_option maxHeartbeats 4000000 in
theorem rw_c27_1 {L : Nat} {xs : Nat → Int32} {out : rx_O} {c s p2 p3 p2' p3' w' d : Nat} {σ σ' : rx_St} {i : Nat} (hi : i + 8 ≤ L) (hL : L ≤ 4096) (hcc : c + d ≤ out.2.2.1) (hss : s + 6 * d ≤ out.2.2.2.1) (hs : rw_s27 xs (nI i) 1 p2 p3 σ w' p2' p3' d σ') (nx : rx_AtP (rv_S L xs) 263 23 (rw_L (nI i + (8 : Int32))) [] (162, c + d, s + 6 * d, [], rw_P w' p2' p3', σ') out) : rx_AtP (rv_S L xs) 263 1493 (rw_L (nI i)) [] (162, c, s, [], rw_P 1 p2 p3, σ) out := by
  obtain ⟨o1, o2, hc, hm, he, rfl, rfl, rfl, rfl, rfl⟩ := hs
  refine rx_walk [23] 3000 (by decide) (rx_e263 L xs) ?_
  refine rr_ck (rw_in 1 hi hL (by decide)) ?_
  refine rr_callC (f_c_count_ok_w1 _ hc) ⟨rfl, Nat.le_refl _, hcc, hss⟩ ?_
  refine rr_ck (rw_in 1 hi hL (by decide)) ?_
  refine rr_callC (f_m_count_ok _ hm) ⟨rfl, Nat.le_refl _, hcc, hss⟩ ?_
  refine ⟨fun _ => ?_, fun h => absurd he h⟩
  exact rx_sub nx [1, 2, 3, 4, 0] rfl
set_option maxRecDepth 1000000 in
set_option maxHeartbeats 4000000 in
theorem rw_end {L : Nat} {xs : Nat → Int32} {c s : Nat} {P : List Nat} {σ : rx_St} {i : Nat} (hi : L < i + 8) (hi2 : i ≤ L) (hL : L ≤ 4096) : rx_AtP (rv_S L xs) 263 23 (rw_L (nI i)) [] (162, c, s, [], P, σ) (some (.int 1), (162, c, s, [], P, σ)) := by
  refine rx_walk [] 3000 (by decide) (rx_e263 L xs) ?_
  refine ⟨fun _ => And.intro (Or.inr rfl) rfl, fun h => absurd ?_ h⟩
  show Int32.ofNat L - 8 < nI i
  rw [Int32.lt_iff_toInt_lt, show Int32.ofNat L - (8 : Int32) = nI L - nI 8 from rfl, pk_sub_toInt (by omega) (by omega), nI_toInt (by omega)]
  omega
set_option maxRecDepth 1000000 in
set_option maxHeartbeats 4000000 in
theorem rw_head {L : Nat} {xs : Nat → Int32} {out : rx_O} {c s : Nat} {P : List Nat} {σ : rx_St} {i : Nat} (hi : i + 8 ≤ L) (hL : L ≤ 4096) (h0 : xs (nI i).toNatClampNeg &&& (31 : Int32) = (0 : Int32) → rx_AtP (rv_S L xs) 263 168 (rw_L (nI i)) [] (162, c, s, [], P, σ) out) (h1 : xs (nI i).toNatClampNeg &&& (31 : Int32) = (1 : Int32) → rx_AtP (rv_S L xs) 263 241 (rw_L (nI i)) [] (162, c, s, [], P, σ) out) (h2 : xs (nI i).toNatClampNeg &&& (31 : Int32) = (2 : Int32) → rx_AtP (rv_S L xs) 263 266 (rw_L (nI i)) [] (162, c, s, [], P, σ) out) (h3 : xs (nI i).toNatClampNeg &&& (31 : Int32) = (3 : Int32) → rx_AtP (rv_S L xs) 263 279 (rw_L (nI i)) [] (162, c, s, [], P, σ) out) (h4 : xs (nI i).toNatClampNeg &&& (31 : Int32) = (4 : Int32) → rx_AtP (rv_S L xs) 263 292 (rw_L (nI i)) [] (162, c, s, [], P, σ) out) (h5 : xs (nI i).toNatClampNeg &&& (31 : Int32) = (5 : Int32) → rx_AtP (rv_S L xs) 263 329 (rw_L (nI i)) [] (162, c, s, [], P, σ) out) (h6 : xs (nI i).toNatClampNeg &&& (31 : Int32) = (6 : Int32) → rx_AtP (rv_S L xs) 263 385 (rw_L (nI i)) [] (162, c, s, [], P, σ) out) (h7 : xs (nI i).toNatClampNeg &&& (31 : Int32) = (7 : Int32) → rx_AtP (rv_S L xs) 263 434 (rw_L (nI i)) [] (162, c, s, [], P, σ) out) (h8 : xs (nI i).toNatClampNeg &&& (31 : Int32) = (8 : Int32) → rx_AtP (rv_S L xs) 263 483 (rw_L (nI i)) [] (162, c, s, [], P, σ) out) (h9 : xs (nI i).toNatClampNeg &&& (31 : Int32) = (9 : Int32) → rx_AtP (rv_S L xs) 263 522 (rw_L (nI i)) [] (162, c, s, [], P, σ) out) (h10 : xs (nI i).toNatClampNeg &&& (31 : Int32) = (10 : Int32) → rx_AtP (rv_S L xs) 263 595 (rw_L (nI i)) [] (162, c, s, [], P, σ) out) (h11 : xs (nI i).toNatClampNeg &&& (31 : Int32) = (11 : Int32) → rx_AtP (rv_S L xs) 263 656 (rw_L (nI i)) [] (162, c, s, [], P, σ) out) (h12 : xs (nI i).toNatClampNeg &&& (31 : Int32) = (12 : Int32) → rx_AtP (rv_S L xs) 263 705 (rw_L (nI i)) [] (162, c, s, [], P, σ) out) (h13 : xs (nI i).toNatClampNeg &&& (31 : Int32) = (13 : Int32) → rx_AtP (rv_S L xs) 263 766 (rw_L (nI i)) [] (162, c, s, [], P, σ) out) (h14 : xs (nI i).toNatClampNeg &&& (31 : Int32) = (14 : Int32) → rx_AtP (rv_S L xs) 263 815 (rw_L (nI i)) [] (162, c, s, [], P, σ) out) (h15 : xs (nI i).toNatClampNeg &&& (31 : Int32) = (15 : Int32) → rx_AtP (rv_S L xs) 263 876 (rw_L (nI i)) [] (162, c, s, [], P, σ) out) (h16 : xs (nI i).toNatClampNeg &&& (31 : Int32) = (16 : Int32) → rx_AtP (rv_S L xs) 263 949 (rw_L (nI i)) [] (162, c, s, [], P, σ) out) (h17 : xs (nI i).toNatClampNeg &&& (31 : Int32) = (17 : Int32) → rx_AtP (rv_S L xs) 263 986 (rw_L (nI i)) [] (162, c, s, [], P, σ) out) (h18 : xs (nI i).toNatClampNeg &&& (31 : Int32) = (18 : Int32) → rx_AtP (rv_S L xs) 263 999 (rw_L (nI i)) [] (162, c, s, [], P, σ) out) (h19 : xs (nI i).toNatClampNeg &&& (31 : Int32) = (19 : Int32) → rx_AtP (rv_S L xs) 263 1073 (rw_L (nI i)) [] (162, c, s, [], P, σ) out) (h20 : xs (nI i).toNatClampNeg &&& (31 : Int32) = (20 : Int32) → rx_AtP (rv_S L xs) 263 1146 (rw_L (nI i)) [] (162, c, s, [], P, σ) out) (h21 : xs (nI i).toNatClampNeg &&& (31 : Int32) = (21 : Int32) → rx_AtP (rv_S L xs) 263 1207 (rw_L (nI i)) [] (162, c, s, [], P, σ) out) (h22 : xs (nI i).toNatClampNeg &&& (31 : Int32) = (22 : Int32) → rx_AtP (rv_S L xs) 263 1232 (rw_L (nI i)) [] (162, c, s, [], P, σ) out) (h23 : xs (nI i).toNatClampNeg &&& (31 : Int32) = (23 : Int32) → rx_AtP (rv_S L xs) 263 1281 (rw_L (nI i)) [] (162, c, s, [], P, σ) out) (h24 : xs (nI i).toNatClampNeg &&& (31 : Int32) = (24 : Int32) → rx_AtP (rv_S L xs) 263 1306 (rw_L (nI i)) [] (162, c, s, [], P, σ) out) (h25 : xs (nI i).toNatClampNeg &&& (31 : Int32) = (25 : Int32) → rx_AtP (rv_S L xs) 263 1407 (rw_L (nI i)) [] (162, c, s, [], P, σ) out) (h26 : xs (nI i).toNatClampNeg &&& (31 : Int32) = (26 : Int32) → rx_AtP (rv_S L xs) 263 1456 (rw_L (nI i)) [] (162, c, s, [], P, σ) out) (h27 : xs (nI i).toNatClampNeg &&& (31 : Int32) = (27 : Int32) → rx_AtP (rv_S L xs) 263 1493 (rw_L (nI i)) [] (162, c, s, [], P, σ) out) (hd : (∀ j : Nat, j < 28 → xs (nI i).toNatClampNeg &&& (31 : Int32) ≠ nI j) → rx_AtP (rv_S L xs) 263 1518 (rw_L (nI i)) [] (162, c, s, [], P, σ) out) : rx_AtP (rv_S L xs) 263 23 (rw_L (nI i)) [] (162, c, s, [], P, σ) out := by
  refine rx_walk [168, 241, 266, 279, 292, 329, 385, 434, 483, 522, 595, 656, 705, 766, 815, 876, 949, 986, 999, 1073, 1146, 1207, 1232, 1281, 1306, 1407, 1456, 1493, 1518] 3000 (by decide) (rx_e263 L xs) ?_
  refine ⟨fun h => absurd h ?_, fun _ => ?_⟩
  · show ¬ (Int32.ofNat L - 8 < nI i)
    rw [Int32.lt_iff_toInt_lt, show Int32.ofNat L - (8 : Int32) = nI L - nI 8 from rfl, pk_sub_toInt (by omega) (by omega), nI_toInt (by omega)]
    omega
  refine rr_ck (rw_in0 hi hL) ?_
  refine ⟨h0, fun n0 => ?_⟩
  refine ⟨h1, fun n1 => ?_⟩
  refine ⟨h2, fun n2 => ?_⟩
  refine ⟨h3, fun n3 => ?_⟩
  refine ⟨h4, fun n4 => ?_⟩
  refine ⟨h5, fun n5 => ?_⟩
  refine ⟨h6, fun n6 => ?_⟩
  refine ⟨h7, fun n7 => ?_⟩
  refine ⟨h8, fun n8 => ?_⟩
  refine ⟨h9, fun n9 => ?_⟩
  refine ⟨h10, fun n10 => ?_⟩
  refine ⟨h11, fun n11 => ?_⟩
  refine ⟨h12, fun n12 => ?_⟩
  refine ⟨h13, fun n13 => ?_⟩
  refine ⟨h14, fun n14 => ?_⟩
  refine ⟨h15, fun n15 => ?_⟩
  refine ⟨h16, fun n16 => ?_⟩
  refine ⟨h17, fun n17 => ?_⟩
  refine ⟨h18, fun n18 => ?_⟩
  refine ⟨h19, fun n19 => ?_⟩
  refine ⟨h20, fun n20 => ?_⟩
  refine ⟨h21, fun n21 => ?_⟩
  refine ⟨h22, fun n22 => ?_⟩
  refine ⟨h23, fun n23 => ?_⟩
  refine ⟨h24, fun n24 => ?_⟩
  refine ⟨h25, fun n25 => ?_⟩
  refine ⟨h26, fun n26 => ?_⟩
  refine ⟨h27, fun n27 => ?_⟩
  refine hd (fun j hj => ?_)
  rcases (show j = 0 ∨ j = 1 ∨ j = 2 ∨ j = 3 ∨ j = 4 ∨ j = 5 ∨ j = 6 ∨ j = 7 ∨ j = 8 ∨ j = 9 ∨ j = 10 ∨ j = 11 ∨ j = 12 ∨ j = 13 ∨ j = 14 ∨ j = 15 ∨ j = 16 ∨ j = 17 ∨ j = 18 ∨ j = 19 ∨ j = 20 ∨ j = 21 ∨ j = 22 ∨ j = 23 ∨ j = 24 ∨ j = 25 ∨ j = 26 ∨ j = 27 by omega) with rfl | rfl | rfl | rfl | rfl | rfl | rfl | rfl | rfl | rfl | rfl | rfl | rfl | rfl | rfl | rfl | rfl | rfl | rfl | rfl | rfl | rfl | rfl | rfl | rfl | rfl | rfl | rfl
  · exact n0
  · exact n1
  · exact n2
  · exact n3
  · exact n4
  · exact n5
  · exact n6
  · exact n7
  · exact n8
  · exact n9
  · exact n10
  · exact n11
  · exact n12
  · exact n13
  · exact n14
  · exact n15
  · exact n16
  · exact n17
  · exact n18
  · exact n19
  · exact n20
  · exact n21
  · exact n22
  · exact n23
  · exact n24
  · exact n25
  · exact n26
  · exact n27
set_option maxRecDepth 1000000 in
set_option maxHeartbeats 4000000 in
theorem rw_skip {L : Nat} {xs : Nat → Int32} {out : rx_O} {c s : Nat} {P : List Nat} {σ : rx_St} {i : Nat} (nx : rx_AtP (rv_S L xs) 263 23 (rw_L (nI i + (8 : Int32))) [] (162, c, s, [], P, σ) out) : rx_AtP (rv_S L xs) 263 1518 (rw_L (nI i)) [] (162, c, s, [], P, σ) out := by
  refine rx_walk [23] 3000 (by decide) (rx_e263 L xs) ?_
  exact rx_sub nx [1, 2, 3, 4, 0] rfl
set_option maxRecDepth 1000000 in
set_option maxHeartbeats 4000000 in
theorem rw_one_0 {L : Nat} {xs : Nat → Int32} {out : rx_O} {c s p2 p3 p2' p3' w' d : Nat} {σ σ' : rx_St} {i : Nat} (hi : i + 8 ≤ L) (hL : L ≤ 4096) (hcc : c + d ≤ out.2.2.1) (hss : s + 6 * d ≤ out.2.2.2.1) (hs : rw_step xs (nI i) 0 p2 p3 σ w' p2' p3' d σ') (nx : rx_AtP (rv_S L xs) 263 23 (rw_L (nI i + (8 : Int32))) [] (162, c + d, s + 6 * d, [], rw_P w' p2' p3', σ') out) : rx_AtP (rv_S L xs) 263 23 (rw_L (nI i)) [] (162, c, s, [], rw_P 0 p2 p3, σ) out := by
  obtain ⟨-, -, s0, s1, s2, s3, s4, s5, s6, s7, s8, s9, s10, s11, s12, s13, s14, s15, s16, s17, s18, s19, s20, s21, s22, s23, s24, s25, s26, s27, sd⟩ := hs
  refine rw_head hi hL (fun h => rw_c0_0 hi hL hcc hss (s0 h) nx) (fun h => rw_c1_0 hi hL hcc hss (s1 h) nx) (fun h => rw_c2_0 hi hL hcc hss (s2 h) nx) (fun h => rw_c3_0 hi hL hcc hss (s3 h) nx) (fun h => rw_c4_0 hi hL hcc hss (s4 h) nx) (fun h => rw_c5_0 hi hL hcc hss (s5 h) nx) (fun h => rw_c6_0 hi hL hcc hss (s6 h) nx) (fun h => rw_c7_0 hi hL hcc hss (s7 h) nx) (fun h => rw_c8_0 hi hL hcc hss (s8 h) nx) (fun h => rw_c9_0 hi hL hcc hss (s9 h) nx) (fun h => rw_c10_0 hi hL hcc hss (s10 h) nx) (fun h => rw_c11_0 hi hL hcc hss (s11 h) nx) (fun h => rw_c12_0 hi hL hcc hss (s12 h) nx) (fun h => rw_c13_0 hi hL hcc hss (s13 h) nx) (fun h => rw_c14_0 hi hL hcc hss (s14 h) nx) (fun h => rw_c15_0 hi hL hcc hss (s15 h) nx) (fun h => rw_c16_0 hi hL hcc hss (s16 h) nx) (fun h => rw_c17_0 hi hL hcc hss (s17 h) nx) (fun h => rw_c18_0 hi hL hcc hss (s18 h) nx) (fun h => rw_c19_0 hi hL hcc hss (s19 h) nx) (fun h => rw_c20_0 hi hL hcc hss (s20 h) nx) (fun h => rw_c21_0 hi hL hcc hss (s21 h) nx) (fun h => rw_c22_0 hi hL hcc hss (s22 h) nx) (fun h => rw_c23_0 hi hL hcc hss (s23 h) nx) (fun h => rw_c24_0 hi hL hcc hss (s24 h) nx) (fun h => rw_c25_0 hi hL hcc hss (s25 h) nx) (fun h => rw_c26_0 hi hL hcc hss (s26 h) nx) (fun h => rw_c27_0 hi hL hcc hss (s27 h) nx) (fun h => ?_)
  obtain ⟨rfl, rfl, rfl, rfl, rfl⟩ := sd h
  exact rw_skip nx
set_option maxRecDepth 1000000 in
set_option maxHeartbeats 4000000 in
theorem rw_one_1 {L : Nat} {xs : Nat → Int32} {out : rx_O} {c s p2 p3 p2' p3' w' d : Nat} {σ σ' : rx_St} {i : Nat} (hi : i + 8 ≤ L) (hL : L ≤ 4096) (hcc : c + d ≤ out.2.2.1) (hss : s + 6 * d ≤ out.2.2.2.1) (hs : rw_step xs (nI i) 1 p2 p3 σ w' p2' p3' d σ') (nx : rx_AtP (rv_S L xs) 263 23 (rw_L (nI i + (8 : Int32))) [] (162, c + d, s + 6 * d, [], rw_P w' p2' p3', σ') out) : rx_AtP (rv_S L xs) 263 23 (rw_L (nI i)) [] (162, c, s, [], rw_P 1 p2 p3, σ) out := by
  obtain ⟨-, -, s0, s1, s2, s3, s4, s5, s6, s7, s8, s9, s10, s11, s12, s13, s14, s15, s16, s17, s18, s19, s20, s21, s22, s23, s24, s25, s26, s27, sd⟩ := hs
  refine rw_head hi hL (fun h => rw_c0_1 hi hL hcc hss (s0 h) nx) (fun h => rw_c1_1 hi hL hcc hss (s1 h) nx) (fun h => rw_c2_1 hi hL hcc hss (s2 h) nx) (fun h => rw_c3_1 hi hL hcc hss (s3 h) nx) (fun h => rw_c4_1 hi hL hcc hss (s4 h) nx) (fun h => rw_c5_1 hi hL hcc hss (s5 h) nx) (fun h => rw_c6_1 hi hL hcc hss (s6 h) nx) (fun h => rw_c7_1 hi hL hcc hss (s7 h) nx) (fun h => rw_c8_1 hi hL hcc hss (s8 h) nx) (fun h => rw_c9_1 hi hL hcc hss (s9 h) nx) (fun h => rw_c10_1 hi hL hcc hss (s10 h) nx) (fun h => rw_c11_1 hi hL hcc hss (s11 h) nx) (fun h => rw_c12_1 hi hL hcc hss (s12 h) nx) (fun h => rw_c13_1 hi hL hcc hss (s13 h) nx) (fun h => rw_c14_1 hi hL hcc hss (s14 h) nx) (fun h => rw_c15_1 hi hL hcc hss (s15 h) nx) (fun h => rw_c16_1 hi hL hcc hss (s16 h) nx) (fun h => rw_c17_1 hi hL hcc hss (s17 h) nx) (fun h => rw_c18_1 hi hL hcc hss (s18 h) nx) (fun h => rw_c19_1 hi hL hcc hss (s19 h) nx) (fun h => rw_c20_1 hi hL hcc hss (s20 h) nx) (fun h => rw_c21_1 hi hL hcc hss (s21 h) nx) (fun h => rw_c22_1 hi hL hcc hss (s22 h) nx) (fun h => rw_c23_1 hi hL hcc hss (s23 h) nx) (fun h => rw_c24_1 hi hL hcc hss (s24 h) nx) (fun h => rw_c25_1 hi hL hcc hss (s25 h) nx) (fun h => rw_c26_1 hi hL hcc hss (s26 h) nx) (fun h => rw_c27_1 hi hL hcc hss (s27 h) nx) (fun h => ?_)
  obtain ⟨rfl, rfl, rfl, rfl, rfl⟩ := sd h
  exact rw_skip nx
