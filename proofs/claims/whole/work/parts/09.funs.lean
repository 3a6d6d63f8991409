/-! THE FUNCTIONS, laid by program out of the bytecode -/
def f_wor_hasSetting (w : Nat) (a0 : Int32) (σ : rx_St) : Int32 :=
  if a0 < (0 : Int32) then
    (0 : Int32)
    else
    if (σ.1 (7 + 14 * w) 0) ≤ a0 then
    (0 : Int32)
    else
    (1 : Int32)
def f_c_isNumber (a0 : Int32) : Int32 :=
  if a0 < (-9999 : Int32) then
    (0 : Int32)
    else
    if (9999 : Int32) < a0 then
    (0 : Int32)
    else
    (1 : Int32)
def f_cau_tell (w : Nat) (a0 : Int32) (a1 : Int32) (σ : rx_St) : Option (Int32 × rx_St) :=
  if (4 : Int32) ≤ (σ.1 72 2) then
    some ((-1 : Int32), σ)
    else
    if (f_wor_hasSetting w a0 σ) = (0 : Int32) then
    some ((-1 : Int32), σ)
    else
    if (f_c_isNumber a1) = (0 : Int32) then
    some ((-1 : Int32), σ)
    else
    (rx_g (σ.1 72 2) 4 (
    let σ1 : rx_St := rx_si σ 73 (σ.1 72 2).toNatClampNeg a0;
    rx_g (σ1.1 72 2) 4 (
    let σ2 : rx_St := rx_si σ1 74 (σ1.1 72 2).toNatClampNeg a1;
    let σ3 : rx_St := rx_si σ2 72 2 ((σ2.1 72 2) + (1 : Int32));
    some ((σ3.1 72 2) - (1 : Int32), σ3))))
def f_run_restart_90 (r : Nat) (w : Nat) : Nat → Int32 → rx_St → Option (rx_St)
  | 0, _, _ => none
  | n + 1, v2, σ =>
    if ((σ.1 38 2) * (6 : Int32)) ≤ v2 then
    some σ
    else
    (rx_g v2 120 (
    rx_g v2 120 (
    let σ1 : rx_St := rx_si σ (59 + 7 * r) v2.toNatClampNeg (σ.1 43 v2.toNatClampNeg);
    f_run_restart_90 r w n (v2 + (1 : Int32)) σ1)))
def f_run_restart_49 (r : Nat) (w : Nat) : Nat → Int32 → rx_St → Option (rx_St)
  | 0, _, _ => none
  | n + 1, v2, σ =>
    if (σ.1 38 2) ≤ v2 then
    f_run_restart_90 r w rx_fu (0 : Int32) σ
    else
    (rx_g v2 20 (
    rx_g v2 20 (
    let σ1 : rx_St := rx_si σ (60 + 7 * r) v2.toNatClampNeg (σ.1 41 v2.toNatClampNeg);
    rx_g v2 20 (
    let σ2 : rx_St := rx_si σ1 (61 + 7 * r) v2.toNatClampNeg (vp_nar .boolean (0 : Int32));
    f_run_restart_49 r w n (v2 + (1 : Int32)) σ2))))
def f_run_restart_12 (r : Nat) (w : Nat) : Nat → Int32 → rx_St → Option (rx_St)
  | 0, _, _ => none
  | n + 1, v2, σ =>
    if (σ.1 (7 + 14 * w) 0) ≤ v2 then
    f_run_restart_49 r w rx_fu (0 : Int32) σ
    else
    (rx_g v2 6 (
    rx_g v2 6 (
    let σ1 : rx_St := rx_si σ (58 + 7 * r) v2.toNatClampNeg (σ.1 39 v2.toNatClampNeg);
    f_run_restart_12 r w n (v2 + (1 : Int32)) σ1)))
def f_run_restart (r : Nat) (w : Nat) (a0 : Int32) (σ : rx_St) : Option (rx_St) :=
  let σ1 : rx_St := rx_si σ (57 + 7 * r) 9 a0;
    let σ2 : rx_St := rx_si σ1 (57 + 7 * r) 10 (0 : Int32);
    f_run_restart_12 r w rx_fu (0 : Int32) σ2
def f_j_min (a0 : Int32) (a1 : Int32) : Int32 :=
  if a1 < a0 then
    a1
    else
    a0
def f_cho_lookAt_55 (r : Nat) (w : Nat) : Nat → Int32 → Int32 → Int32 → Int32 → Int32 → rx_St → Option (rx_St)
  | 0, _, _, _, _, _, _ => none
  | n + 1, v2, v3, v4, v5, v6, σ =>
    rx_g v3 5 (
    if (σ.1 (11 + 14 * w) v3.toNatClampNeg) ≤ v6 then
    some σ
    else
    (rx_g ((((v3 * (6 : Int32)) + v6) * (10 : Int32)) + v5) 300 (
    rx_g ((v2 * (6 : Int32)) + v6) 120 (
    rx_g ((((v3 * (6 : Int32)) + v6) * (10 : Int32)) + v5) 300 (
    let σ1 : rx_St := rx_si σ 54 ((((v3 * (6 : Int32)) + v6) * (10 : Int32)) + v5).toNatClampNeg ((σ.1 54 ((((v3 * (6 : Int32)) + v6) * (10 : Int32)) + v5).toNatClampNeg) + ((σ.1 (59 + 7 * r) ((v2 * (6 : Int32)) + v6).toNatClampNeg) * v4));
    f_cho_lookAt_55 r w n v2 v3 v4 v5 (v6 + (1 : Int32)) σ1)))))
def f_cho_lookAt (r : Nat) (w : Nat) (a1 : Int32) (σ : rx_St) : Option (rx_St) :=
  rx_g a1 20 (
    let x1 : Int32 := σ.1 40 a1.toNatClampNeg;
    rx_g a1 20 (
    let x2 : Int32 := σ.1 42 a1.toNatClampNeg;
    rx_g a1 20 (
    let x3 : Int32 := σ.1 (60 + 7 * r) a1.toNatClampNeg;
    rx_g x3 10 (
    rx_g x3 10 (
    let σ1 : rx_St := rx_si σ 52 x3.toNatClampNeg ((σ.1 52 x3.toNatClampNeg) + x2);
    rx_g x1 5 (
    rx_g x1 5 (
    let σ2 : rx_St := rx_si σ1 53 x1.toNatClampNeg ((σ1.1 53 x1.toNatClampNeg) + x2);
    f_cho_lookAt_55 r w rx_fu a1 x1 x2 x3 (0 : Int32) σ2)))))))
def f_cho_look_110 (r : Nat) (w : Nat) (k84 : Int32 → rx_St → Option (rx_St)) (v3 : Int32) (σ : rx_St) : Option (rx_St) :=
    k84 (v3 + (1 : Int32)) σ
def f_cho_look_84 (r : Nat) (w : Nat) : Nat → Int32 → rx_St → Option (rx_St)
  | 0, _, _ => none
  | n + 1, v3, σ =>
    if (σ.1 38 2) ≤ v3 then
    some σ
    else
    (rx_g v3 20 (
    if (σ.1 (61 + 7 * r) v3.toNatClampNeg) = (0 : Int32) then
    ((f_cho_lookAt r w v3 σ).bind fun y1 =>
    f_cho_look_110 r w (f_cho_look_84 r w n) v3 y1)
    else
    f_cho_look_110 r w (f_cho_look_84 r w n) v3 σ))
def f_cho_look_58 (r : Nat) (w : Nat) : Nat → Int32 → Int32 → rx_St → Option (rx_St)
  | 0, _, _, _ => none
  | n + 1, v2, v3, σ =>
    if ((v2 * (6 : Int32)) * (10 : Int32)) ≤ v3 then
    f_cho_look_84 r w rx_fu (0 : Int32) σ
    else
    (rx_g v3 300 (
    let σ1 : rx_St := rx_si σ 54 v3.toNatClampNeg (0 : Int32);
    f_cho_look_58 r w n v2 (v3 + (1 : Int32)) σ1))
def f_cho_look_38 (r : Nat) (w : Nat) : Nat → Int32 → Int32 → rx_St → Option (rx_St)
  | 0, _, _, _ => none
  | n + 1, v2, v3, σ =>
    if v2 ≤ v3 then
    f_cho_look_58 r w rx_fu v2 (0 : Int32) σ
    else
    (rx_g v3 5 (
    let σ1 : rx_St := rx_si σ 53 v3.toNatClampNeg (0 : Int32);
    f_cho_look_38 r w n v2 (v3 + (1 : Int32)) σ1))
def f_cho_look_17 (r : Nat) (w : Nat) : Nat → Int32 → Int32 → rx_St → Option (rx_St)
  | 0, _, _, _ => none
  | n + 1, v2, v3, σ =>
    if (10 : Int32) ≤ v3 then
    f_cho_look_38 r w rx_fu v2 (0 : Int32) σ
    else
    (rx_g v3 10 (
    let σ1 : rx_St := rx_si σ 52 v3.toNatClampNeg (0 : Int32);
    f_cho_look_17 r w n v2 (v3 + (1 : Int32)) σ1))
def f_cho_look (r : Nat) (w : Nat) (σ : rx_St) : Option (rx_St) :=
  let x1 : Int32 := f_j_min (σ.1 (7 + 14 * w) 3) (5 : Int32);
    f_cho_look_17 r w rx_fu x1 (0 : Int32) σ
def f_j_max (a0 : Int32) (a1 : Int32) : Int32 :=
  if a0 < a1 then
    a1
    else
    a0
def f_cho_pop (σ : rx_St) : Option (Int32 × rx_St) :=
  if (σ.1 51 6) < (1 : Int32) then
    some ((0 : Int32), σ)
    else
    if (σ.1 51 6) ≤ (16 : Int32) then
    (let σ1 : rx_St := rx_si σ 51 6 ((σ.1 51 6) - (1 : Int32));
    rx_g (σ1.1 51 6) 16 (
    some (σ1.1 55 (σ1.1 51 6).toNatClampNeg, σ1)))
    else
    some ((0 : Int32), σ)
def f_cho_holds_22 (v1 : Int32) (v2 : Int32) (v3 : Int32) (s0 : Int32) (σ : rx_St) : Option (Int32 × rx_St) :=
    let σ1 : rx_St := rx_si σ 51 7 (0 : Int32);
    if v1 = (31 : Int32) then
    if s0 = (0 : Int32) then
    some ((0 : Int32), σ1)
    else
    if v3 = v2 then
    some ((1 : Int32), σ1)
    else
    some ((0 : Int32), σ1)
    else
    if v1 = (32 : Int32) then
    if s0 = (0 : Int32) then
    some ((0 : Int32), σ1)
    else
    if v3 = v2 then
    some ((0 : Int32), σ1)
    else
    some ((1 : Int32), σ1)
    else
    if v1 = (33 : Int32) then
    if s0 = (0 : Int32) then
    some ((0 : Int32), σ1)
    else
    if v2 ≤ v3 then
    some ((0 : Int32), σ1)
    else
    some ((1 : Int32), σ1)
    else
    if s0 = (0 : Int32) then
    some ((0 : Int32), σ1)
    else
    if v2 < v3 then
    some ((0 : Int32), σ1)
    else
    some ((1 : Int32), σ1)
def f_cho_holds (a0 : Int32) (σ : rx_St) : Option (Int32 × rx_St) :=
  (f_cho_pop σ).bind fun y1 =>
    (f_cho_pop y1.2).bind fun y2 =>
    if (y2.2.1 51 7) = (0 : Int32) then
    f_cho_holds_22 a0 y1.1 y2.1 (1 : Int32) y2.2
    else
    f_cho_holds_22 a0 y1.1 y2.1 (0 : Int32) y2.2
def f_cho_push (a0 : Int32) (σ : rx_St) : Option (rx_St) :=
  if (σ.1 51 6) < (0 : Int32) then
    some σ
    else
    if (16 : Int32) ≤ (σ.1 51 6) then
    some σ
    else
    (rx_g (σ.1 51 6) 16 (
    let σ1 : rx_St := rx_si σ 55 (σ.1 51 6).toNatClampNeg a0;
    let σ2 : rx_St := rx_si σ1 51 6 ((σ1.1 51 6) + (1 : Int32));
    some σ2))
def f_cho_join_98 (s1 : Int32) (σ : rx_St) : Option (rx_St) :=
    (f_cho_push s1 σ).bind fun y1 =>
    some y1
def f_cho_join_83 (v2 : Int32) (v3 : Int32) (s1 : Int32) (σ : rx_St) : Option (rx_St) :=
    rx_c (s1 = 0 ∨ s1 = 1) (
    let σ1 : rx_St := rx_si σ 51 7 s1;
    if v2 = (0 : Int32) then
    f_cho_join_98 (0 : Int32) σ1
    else
    (rx_c (¬ v2 = 0) (
    f_cho_join_98 (v3 / v2) σ1)))
def f_cho_join_78 (v2 : Int32) (v3 : Int32) (σ : rx_St) : Option (rx_St) :=
    f_cho_join_83 v2 v3 (1 : Int32) σ
def f_cho_join (a0 : Int32) (σ : rx_St) : Option (rx_St) :=
  (f_cho_pop σ).bind fun y1 =>
    (f_cho_pop y1.2).bind fun y2 =>
    if a0 = (27 : Int32) then
    ((f_cho_push (y2.1 + y1.1) y2.2).bind fun y5 =>
    some y5)
    else
    if a0 = (28 : Int32) then
    ((f_cho_push (y2.1 - y1.1) y2.2).bind fun y4 =>
    some y4)
    else
    if a0 = (29 : Int32) then
    ((f_cho_push (y2.1 * y1.1) y2.2).bind fun y3 =>
    some y3)
    else
    if (y2.2.1 51 7) = (0 : Int32) then
    if y1.1 = (0 : Int32) then
    f_cho_join_78 y1.1 y2.1 y2.2
    else
    f_cho_join_83 y1.1 y2.1 (0 : Int32) y2.2
    else
    f_cho_join_78 y1.1 y2.1 y2.2
def f_wis_add (a0 : Int32) (a1 : Int32) (a2 : Int32) (a3 : Int32) (a4 : Int32) (a5 : Int32) (σ : rx_St) : Option (rx_St) :=
  rx_g a0 20 (
    if (σ.1 45 a0.toNatClampNeg) < (48 : Int32) then
    (rx_g a0 20 (
    let x1 : Int32 := (a0 * (48 : Int32)) + (σ.1 45 a0.toNatClampNeg);
    rx_g x1 960 (
    let σ1 : rx_St := rx_si σ 46 x1.toNatClampNeg a1;
    rx_g x1 960 (
    let σ2 : rx_St := rx_si σ1 47 x1.toNatClampNeg a2;
    rx_g x1 960 (
    let σ3 : rx_St := rx_si σ2 48 x1.toNatClampNeg a3;
    rx_g x1 960 (
    let σ4 : rx_St := rx_si σ3 49 x1.toNatClampNeg a4;
    rx_g x1 960 (
    let σ5 : rx_St := rx_si σ4 50 x1.toNatClampNeg a5;
    rx_g a0 20 (
    rx_g a0 20 (
    let σ6 : rx_St := rx_si σ5 45 a0.toNatClampNeg ((σ5.1 45 a0.toNatClampNeg) + (1 : Int32));
    some σ6)))))))))
    else
    some σ)
def f_cho_gather_80 (r : Nat) (k5 : Int32 → Int32 → Int32 → rx_St → Option (Int32 × rx_St)) (v2 : Int32) (v3 : Int32) (v4 : Int32) (σ : rx_St) : Option (Int32 × rx_St) :=
    k5 v2 v3 (v4 + (1 : Int32)) σ
def f_cho_gather_5 (r : Nat) : Nat → Int32 → Int32 → Int32 → rx_St → Option (Int32 × rx_St)
  | 0, _, _, _, _ => none
  | n + 1, v2, v3, v4, σ =>
    if (σ.1 38 2) ≤ v4 then
    some (v3, σ)
    else
    if v4 = (σ.1 51 9) then
    f_cho_gather_80 r (f_cho_gather_5 r n) v2 v3 v4 σ
    else
    (rx_g v4 20 (
    if (σ.1 (61 + 7 * r) v4.toNatClampNeg) = (0 : Int32) then
    (rx_g v4 20 (
    if (σ.1 40 v4.toNatClampNeg) = v2 then
    (rx_g v4 20 (
    rx_g (σ.1 51 9) 20 (
    if (σ.1 (60 + 7 * r) v4.toNatClampNeg) = (σ.1 (60 + 7 * r) (σ.1 51 9).toNatClampNeg) then
    (rx_g v3 20 (
    let σ1 : rx_St := rx_si σ 56 v3.toNatClampNeg v4;
    f_cho_gather_80 r (f_cho_gather_5 r n) v2 (v3 + (1 : Int32)) v4 σ1))
    else
    f_cho_gather_80 r (f_cho_gather_5 r n) v2 v3 v4 σ)))
    else
    f_cho_gather_80 r (f_cho_gather_5 r n) v2 v3 v4 σ))
    else
    f_cho_gather_80 r (f_cho_gather_5 r n) v2 v3 v4 σ))
def f_cho_gather (r : Nat) (a1 : Int32) (σ : rx_St) : Option (Int32 × rx_St) :=
  f_cho_gather_5 r rx_fu a1 (0 : Int32) (0 : Int32) σ
def f_c_dealLot_32 (k6 : Int32 → Int32 → Int32 → Int32 → Int32 → Int32 → Option (Int32)) (v1 : Int32) (v2 : Int32) (v3 : Int32) (v4 : Int32) (v5 : Int32) (v6 : Int32) (s0 : Int32) : Option (Int32) :=
    let x1 : Int32 := ((v5 ^^^ s0) * (1103515245 : Int32)) + (12345 : Int32);
    let x2 : Int32 := x1 ^^^ (rx_iushr x1 (15 : Int32));
    k6 v1 v2 v3 v4 x2 (v6 + (1 : Int32))
def f_c_dealLot_6 : Nat → Int32 → Int32 → Int32 → Int32 → Int32 → Int32 → Option (Int32)
  | 0, _, _, _, _, _, _ => none
  | n + 1, v1, v2, v3, v4, v5, v6 =>
    if (3 : Int32) ≤ v6 then
    if (1 : Int32) ≤ v4 then
    (rx_c (¬ v4 = 0) (
    some (rx_irem (rx_iushr v5 (1 : Int32)) v4)))
    else
    some (0 : Int32)
    else
    if v6 = (0 : Int32) then
    f_c_dealLot_32 (f_c_dealLot_6 n) v1 v2 v3 v4 v5 v6 v1
    else
    if v6 = (1 : Int32) then
    f_c_dealLot_32 (f_c_dealLot_6 n) v1 v2 v3 v4 v5 v6 v2
    else
    f_c_dealLot_32 (f_c_dealLot_6 n) v1 v2 v3 v4 v5 v6 v3
def f_c_dealLot (a0 : Int32) (a1 : Int32) (a2 : Int32) (a3 : Int32) (a4 : Int32) : Option (Int32) :=
  f_c_dealLot_6 rx_fu a1 a2 a3 a4 a0 (0 : Int32)
def f_cho_wish_62 (r : Nat) (v2 : Int32) (v3 : Int32) (v6 : Int32) (σ : rx_St) : Option (rx_St) :=
    (f_wis_add (σ.1 51 9) v2 v3 v6 (-1 : Int32) (0 : Int32) σ).bind fun y1 =>
    some y1
def f_cho_wish_172 (r : Nat) (v4 : Int32) (s1 : Int32) (s2 : Int32) (s3 : Int32) (s4 : Int32) (s5 : Int32) (σ : rx_St) : Option (rx_St) :=
    (f_wis_add s1 s2 s3 s4 s5 (rx_irem v4 (6 : Int32)) σ).bind fun y1 =>
    some y1
def f_cho_wish_141 (r : Nat) (v3 : Int32) (v4 : Int32) (v6 : Int32) (v7 : Int32) (v8 : Int32) (σ : rx_St) : Option (rx_St) :=
    if v7 ≤ v8 then
    f_cho_wish_172 r v4 (σ.1 51 9) (9 : Int32) v3 v6 (-1 : Int32) σ
    else
    (rx_g v8 20 (
    f_cho_wish_172 r v4 (σ.1 51 9) (9 : Int32) v3 v6 (σ.1 56 v8.toNatClampNeg) σ))
def f_cho_wish_43 (r : Nat) (v2 : Int32) (v3 : Int32) (v4 : Int32) (s0 : Int32) (σ : rx_St) : Option (rx_St) :=
    let σ1 : rx_St := rx_si σ 51 7 (0 : Int32);
    if v2 = (7 : Int32) then
    f_cho_wish_62 r v2 v3 s0 σ1
    else
    if v2 = (8 : Int32) then
    f_cho_wish_62 r v2 v3 s0 σ1
    else
    ((f_cho_gather r (v4 / (6 : Int32)) σ1).bind fun y1 =>
    if v2 = (12 : Int32) then
    if y1.1 ≤ (0 : Int32) then
    f_cho_wish_141 r v3 v4 s0 y1.1 (0 : Int32) y1.2
    else
    (let σ2 : rx_St := rx_si y1.2 51 8 ((y1.2.1 51 8) + (1 : Int32));
    (f_c_dealLot (σ2.1 (57 + 7 * r) 9) (σ2.1 51 9) (σ2.1 (57 + 7 * r) 10) ((σ2.1 51 8) - (1 : Int32)) y1.1).bind fun y2 =>
    f_cho_wish_141 r v3 v4 s0 y1.1 y2 σ2)
    else
    f_cho_wish_141 r v3 v4 s0 y1.1 (0 : Int32) y1.2)
def f_cho_wish (r : Nat) (a1 : Int32) (a2 : Int32) (a3 : Int32) (σ : rx_St) : Option (rx_St) :=
  if a1 = (13 : Int32) then
    ((f_wis_add (σ.1 51 9) (13 : Int32) (0 : Int32) (0 : Int32) (-1 : Int32) (0 : Int32) σ).bind fun y1 =>
    some y1)
    else
    ((f_cho_pop σ).bind fun y2 =>
    if (y2.2.1 51 7) = (0 : Int32) then
    f_cho_wish_43 r a1 a2 a3 y2.1 y2.2
    else
    f_cho_wish_43 r a1 a2 a3 (0 : Int32) y2.2)
def f_c_cell_58 (r : Nat) (a1 : Int32) (σ : rx_St) : Option (Int32) :=
  if a1 < (0 : Int32) then
    some (0 : Int32)
    else
    if (6 : Int32) ≤ a1 then
    some (0 : Int32)
    else
    (rx_g a1 6 (
    some (σ.1 (58 + 7 * r) a1.toNatClampNeg)))
def f_c_cell_59 (r : Nat) (a1 : Int32) (σ : rx_St) : Option (Int32) :=
  if a1 < (0 : Int32) then
    some (0 : Int32)
    else
    if (120 : Int32) ≤ a1 then
    some (0 : Int32)
    else
    (rx_g a1 120 (
    some (σ.1 (59 + 7 * r) a1.toNatClampNeg)))
def f_c_cell_53 (a1 : Int32) (σ : rx_St) : Option (Int32) :=
  if a1 < (0 : Int32) then
    some (0 : Int32)
    else
    if (5 : Int32) ≤ a1 then
    some (0 : Int32)
    else
    (rx_g a1 5 (
    some (σ.1 53 a1.toNatClampNeg)))
def f_c_cell_54 (a1 : Int32) (σ : rx_St) : Option (Int32) :=
  if a1 < (0 : Int32) then
    some (0 : Int32)
    else
    if (300 : Int32) ≤ a1 then
    some (0 : Int32)
    else
    (rx_g a1 300 (
    some (σ.1 54 a1.toNatClampNeg)))
def f_c_cell_52 (a1 : Int32) (σ : rx_St) : Option (Int32) :=
  if a1 < (0 : Int32) then
    some (0 : Int32)
    else
    if (10 : Int32) ≤ a1 then
    some (0 : Int32)
    else
    (rx_g a1 10 (
    some (σ.1 52 a1.toNatClampNeg)))
def f_cho_unit (r : Nat) (a1 : Int32) (a2 : Int32) (a3 : Int32) (σ : rx_St) : Option (Int32 × rx_St) :=
  rx_g (σ.1 51 9) 20 (
    let x1 : Int32 := σ.1 (60 + 7 * r) (σ.1 51 9).toNatClampNeg;
    if a1 = (17 : Int32) then
    some (σ.1 (57 + 7 * r) 10, σ)
    else
    if a1 = (18 : Int32) then
    ((f_c_cell_52 x1 σ).bind fun y7 =>
    some (y7, σ))
    else
    if a1 = (19 : Int32) then
    some (x1, σ)
    else
    if a1 = (20 : Int32) then
    (let σ1 : rx_St := rx_si σ 51 8 ((σ.1 51 8) + (1 : Int32));
    (f_c_dealLot (σ1.1 (57 + 7 * r) 9) (σ1.1 51 9) (σ1.1 (57 + 7 * r) 10) ((σ1.1 51 8) - (1 : Int32)) a2).bind fun y6 =>
    some (y6, σ1))
    else
    if a1 = (21 : Int32) then
    ((f_c_cell_54 ((((a2 * (6 : Int32)) + a3) * (10 : Int32)) + x1) σ).bind fun y5 =>
    some (y5, σ))
    else
    if a1 = (22 : Int32) then
    ((f_c_cell_53 a2 σ).bind fun y4 =>
    some (y4, σ))
    else
    if a1 = (23 : Int32) then
    some ((0 : Int32), σ)
    else
    if a1 = (24 : Int32) then
    some (a2, σ)
    else
    if a1 = (25 : Int32) then
    some ((0 : Int32), σ)
    else
    if a1 = (26 : Int32) then
    some ((0 : Int32), σ)
    else
    if a1 = (27 : Int32) then
    some ((0 : Int32), σ)
    else
    if a1 = (28 : Int32) then
    some ((0 : Int32), σ)
    else
    if a1 = (29 : Int32) then
    some ((0 : Int32), σ)
    else
    if a1 = (30 : Int32) then
    some ((0 : Int32), σ)
    else
    if a1 = (31 : Int32) then
    some ((0 : Int32), σ)
    else
    if a1 = (32 : Int32) then
    some ((0 : Int32), σ)
    else
    if a1 = (33 : Int32) then
    some ((0 : Int32), σ)
    else
    if a1 = (34 : Int32) then
    some ((0 : Int32), σ)
    else
    if a1 = (35 : Int32) then
    some ((0 : Int32), σ)
    else
    if a1 = (36 : Int32) then
    some ((0 : Int32), σ)
    else
    if a1 = (37 : Int32) then
    some ((0 : Int32), σ)
    else
    if a1 = (38 : Int32) then
    some ((0 : Int32), σ)
    else
    if a1 = (39 : Int32) then
    ((f_c_cell_59 r (((σ.1 51 9) * (6 : Int32)) + a2) σ).bind fun y3 =>
    some (y3, σ))
    else
    if a1 = (40 : Int32) then
    ((f_c_cell_58 r a2 σ).bind fun y2 =>
    some (y2, σ))
    else
    some ((0 : Int32), σ))
def f_cho_choose_346 (r : Nat) (w : Nat) (k78 : Int32 → Int32 → rx_St → Option (rx_St)) (v5 : Int32) (v6 : Int32) (σ : rx_St) : Option (rx_St) :=
    k78 v5 v6 σ
def f_cho_choose_307 (r : Nat) (w : Nat) (k78 : Int32 → Int32 → rx_St → Option (rx_St)) (v5 : Int32) (v6 : Int32) (v7 : Int32) (v8 : Int32) (v9 : Int32) (σ : rx_St) : Option (rx_St) :=
    rx_g v7 500 (
    (f_cho_wish r (σ.1 (18 + 14 * w) v7.toNatClampNeg) v8 v9 σ).bind fun y1 =>
    f_cho_choose_346 r w k78 v5 v6 y1)
def f_cho_choose_326 (r : Nat) (w : Nat) (k78 : Int32 → Int32 → rx_St → Option (rx_St)) (v5 : Int32) (v6 : Int32) (v7 : Int32) (v8 : Int32) (v9 : Int32) (σ : rx_St) : Option (rx_St) :=
    rx_g v7 500 (
    (f_cho_unit r (σ.1 (18 + 14 * w) v7.toNatClampNeg) v8 v9 σ).bind fun y1 =>
    (f_cho_push y1.1 y1.2).bind fun y2 =>
    f_cho_choose_346 r w k78 v5 v6 y2)
def f_cho_choose_293 (r : Nat) (w : Nat) (k78 : Int32 → Int32 → rx_St → Option (rx_St)) (v5 : Int32) (v6 : Int32) (v7 : Int32) (σ : rx_St) : Option (rx_St) :=
    rx_g v7 500 (
    (f_cho_join (σ.1 (18 + 14 * w) v7.toNatClampNeg) σ).bind fun y1 =>
    f_cho_choose_346 r w k78 v5 v6 y1)
def f_cho_choose_266 (r : Nat) (w : Nat) (k78 : Int32 → Int32 → rx_St → Option (rx_St)) (v5 : Int32) (v6 : Int32) (v9 : Int32) (s0 : Int32) (s1 : Int32) (σ : rx_St) : Option (rx_St) :=
    if s0 = s1 then
    f_cho_choose_346 r w k78 v5 (f_j_max v6 v9) σ
    else
    f_cho_choose_346 r w k78 v5 v6 σ
def f_cho_choose_244 (r : Nat) (w : Nat) (k78 : Int32 → Int32 → rx_St → Option (rx_St)) (v5 : Int32) (v6 : Int32) (v7 : Int32) (v8 : Int32) (v9 : Int32) (σ : rx_St) : Option (rx_St) :=
    rx_g v7 500 (
    (f_cho_holds (σ.1 (18 + 14 * w) v7.toNatClampNeg) σ).bind fun y1 =>
    if v8 = (1 : Int32) then
    f_cho_choose_266 r w k78 v5 v6 v9 y1.1 (1 : Int32) y1.2
    else
    f_cho_choose_266 r w k78 v5 v6 v9 y1.1 (0 : Int32) y1.2)
def f_cho_choose_78 (r : Nat) (w : Nat) : Nat → Int32 → Int32 → rx_St → Option (rx_St)
  | 0, _, _, _ => none
  | n + 1, v5, v7, σ =>
    if v5 ≤ v7 then
    some σ
    else
    (let x1 : Int32 := v7 + (1 : Int32);
    rx_g v7 500 (
    let x2 : Int32 := σ.1 (19 + 14 * w) v7.toNatClampNeg;
    rx_g v7 500 (
    let x3 : Int32 := σ.1 (20 + 14 * w) v7.toNatClampNeg;
    rx_g v7 500 (
    if (σ.1 (18 + 14 * w) v7.toNatClampNeg) = (7 : Int32) then
    f_cho_choose_307 r w (f_cho_choose_78 r w n) v5 x1 v7 x2 x3 σ
    else
    if (σ.1 (18 + 14 * w) v7.toNatClampNeg) = (8 : Int32) then
    f_cho_choose_307 r w (f_cho_choose_78 r w n) v5 x1 v7 x2 x3 σ
    else
    if (σ.1 (18 + 14 * w) v7.toNatClampNeg) = (9 : Int32) then
    f_cho_choose_326 r w (f_cho_choose_78 r w n) v5 x1 v7 x2 x3 σ
    else
    if (σ.1 (18 + 14 * w) v7.toNatClampNeg) = (10 : Int32) then
    f_cho_choose_326 r w (f_cho_choose_78 r w n) v5 x1 v7 x2 x3 σ
    else
    if (σ.1 (18 + 14 * w) v7.toNatClampNeg) = (11 : Int32) then
    f_cho_choose_307 r w (f_cho_choose_78 r w n) v5 x1 v7 x2 x3 σ
    else
    if (σ.1 (18 + 14 * w) v7.toNatClampNeg) = (12 : Int32) then
    f_cho_choose_307 r w (f_cho_choose_78 r w n) v5 x1 v7 x2 x3 σ
    else
    if (σ.1 (18 + 14 * w) v7.toNatClampNeg) = (13 : Int32) then
    f_cho_choose_307 r w (f_cho_choose_78 r w n) v5 x1 v7 x2 x3 σ
    else
    if (σ.1 (18 + 14 * w) v7.toNatClampNeg) = (14 : Int32) then
    f_cho_choose_346 r w (f_cho_choose_78 r w n) v5 (f_j_max x1 x3) σ
    else
    if (σ.1 (18 + 14 * w) v7.toNatClampNeg) = (15 : Int32) then
    f_cho_choose_326 r w (f_cho_choose_78 r w n) v5 x1 v7 x2 x3 σ
    else
    if (σ.1 (18 + 14 * w) v7.toNatClampNeg) = (16 : Int32) then
    f_cho_choose_326 r w (f_cho_choose_78 r w n) v5 x1 v7 x2 x3 σ
    else
    if (σ.1 (18 + 14 * w) v7.toNatClampNeg) = (17 : Int32) then
    f_cho_choose_326 r w (f_cho_choose_78 r w n) v5 x1 v7 x2 x3 σ
    else
    if (σ.1 (18 + 14 * w) v7.toNatClampNeg) = (18 : Int32) then
    f_cho_choose_326 r w (f_cho_choose_78 r w n) v5 x1 v7 x2 x3 σ
    else
    if (σ.1 (18 + 14 * w) v7.toNatClampNeg) = (19 : Int32) then
    f_cho_choose_326 r w (f_cho_choose_78 r w n) v5 x1 v7 x2 x3 σ
    else
    if (σ.1 (18 + 14 * w) v7.toNatClampNeg) = (20 : Int32) then
    f_cho_choose_326 r w (f_cho_choose_78 r w n) v5 x1 v7 x2 x3 σ
    else
    if (σ.1 (18 + 14 * w) v7.toNatClampNeg) = (21 : Int32) then
    f_cho_choose_326 r w (f_cho_choose_78 r w n) v5 x1 v7 x2 x3 σ
    else
    if (σ.1 (18 + 14 * w) v7.toNatClampNeg) = (22 : Int32) then
    f_cho_choose_326 r w (f_cho_choose_78 r w n) v5 x1 v7 x2 x3 σ
    else
    if (σ.1 (18 + 14 * w) v7.toNatClampNeg) = (23 : Int32) then
    f_cho_choose_326 r w (f_cho_choose_78 r w n) v5 x1 v7 x2 x3 σ
    else
    if (σ.1 (18 + 14 * w) v7.toNatClampNeg) = (24 : Int32) then
    f_cho_choose_326 r w (f_cho_choose_78 r w n) v5 x1 v7 x2 x3 σ
    else
    if (σ.1 (18 + 14 * w) v7.toNatClampNeg) = (25 : Int32) then
    f_cho_choose_326 r w (f_cho_choose_78 r w n) v5 x1 v7 x2 x3 σ
    else
    if (σ.1 (18 + 14 * w) v7.toNatClampNeg) = (26 : Int32) then
    f_cho_choose_326 r w (f_cho_choose_78 r w n) v5 x1 v7 x2 x3 σ
    else
    if (σ.1 (18 + 14 * w) v7.toNatClampNeg) = (27 : Int32) then
    f_cho_choose_293 r w (f_cho_choose_78 r w n) v5 x1 v7 σ
    else
    if (σ.1 (18 + 14 * w) v7.toNatClampNeg) = (28 : Int32) then
    f_cho_choose_293 r w (f_cho_choose_78 r w n) v5 x1 v7 σ
    else
    if (σ.1 (18 + 14 * w) v7.toNatClampNeg) = (29 : Int32) then
    f_cho_choose_293 r w (f_cho_choose_78 r w n) v5 x1 v7 σ
    else
    if (σ.1 (18 + 14 * w) v7.toNatClampNeg) = (30 : Int32) then
    f_cho_choose_293 r w (f_cho_choose_78 r w n) v5 x1 v7 σ
    else
    if (σ.1 (18 + 14 * w) v7.toNatClampNeg) = (31 : Int32) then
    f_cho_choose_244 r w (f_cho_choose_78 r w n) v5 x1 v7 x2 x3 σ
    else
    if (σ.1 (18 + 14 * w) v7.toNatClampNeg) = (32 : Int32) then
    f_cho_choose_244 r w (f_cho_choose_78 r w n) v5 x1 v7 x2 x3 σ
    else
    if (σ.1 (18 + 14 * w) v7.toNatClampNeg) = (33 : Int32) then
    f_cho_choose_244 r w (f_cho_choose_78 r w n) v5 x1 v7 x2 x3 σ
    else
    if (σ.1 (18 + 14 * w) v7.toNatClampNeg) = (34 : Int32) then
    f_cho_choose_244 r w (f_cho_choose_78 r w n) v5 x1 v7 x2 x3 σ
    else
    f_cho_choose_326 r w (f_cho_choose_78 r w n) v5 x1 v7 x2 x3 σ))))
def f_cho_choose (r : Nat) (w : Nat) (a1 : Int32) (σ : rx_St) : Option (rx_St) :=
  let σ1 : rx_St := rx_si σ 51 9 a1;
    let σ2 : rx_St := rx_si σ1 51 8 (0 : Int32);
    let σ3 : rx_St := rx_si σ2 51 6 (0 : Int32);
    let σ4 : rx_St := rx_si σ3 51 7 (0 : Int32);
    rx_g a1 20 (
    let σ5 : rx_St := rx_si σ4 45 a1.toNatClampNeg (0 : Int32);
    rx_g a1 20 (
    let x1 : Int32 := σ5.1 40 a1.toNatClampNeg;
    rx_g x1 5 (
    let x2 : Int32 := f_j_min (σ5.1 (17 + 14 * w) x1.toNatClampNeg) (σ5.1 (7 + 14 * w) 12);
    rx_g x1 5 (
    let x3 : Int32 := f_j_max (σ5.1 (16 + 14 * w) x1.toNatClampNeg) (0 : Int32);
    f_cho_choose_78 r w rx_fu x2 x3 σ5))))
def f_run_putInOrder_98 (r : Nat) (k2 : Int32 → rx_St → Option (rx_St)) (v1 : Int32) (v2 : Int32) (v3 : Int32) (σ : rx_St) : Option (rx_St) :=
    rx_g v3 20 (
    let σ1 : rx_St := rx_si σ (63 + 7 * r) v3.toNatClampNeg v2;
    rx_g v3 20 (
    let σ2 : rx_St := rx_si σ1 (62 + 7 * r) v3.toNatClampNeg v1;
    k2 (v1 + (1 : Int32)) σ2))
def f_run_putInOrder_48 (r : Nat) (k2 : Int32 → rx_St → Option (rx_St)) : Nat → Int32 → Int32 → Int32 → rx_St → Option (rx_St)
  | 0, _, _, _, _ => none
  | n + 1, v1, v2, v3, σ =>
    if v3 ≤ (0 : Int32) then
    f_run_putInOrder_98 r k2 v1 v2 v3 σ
    else
    (rx_g (v3 - (1 : Int32)) 20 (
    if (σ.1 (63 + 7 * r) (v3 - (1 : Int32)).toNatClampNeg) ≤ v2 then
    f_run_putInOrder_98 r k2 v1 v2 v3 σ
    else
    (rx_g (v3 - (1 : Int32)) 20 (
    rx_g v3 20 (
    let σ1 : rx_St := rx_si σ (63 + 7 * r) v3.toNatClampNeg (σ.1 (63 + 7 * r) (v3 - (1 : Int32)).toNatClampNeg);
    rx_g (v3 - (1 : Int32)) 20 (
    rx_g v3 20 (
    let σ2 : rx_St := rx_si σ1 (62 + 7 * r) v3.toNatClampNeg (σ1.1 (62 + 7 * r) (v3 - (1 : Int32)).toNatClampNeg);
    f_run_putInOrder_48 r k2 n v1 v2 (v3 + (-1 : Int32)) σ2)))))))
def f_run_putInOrder_45 (r : Nat) (k2 : Int32 → rx_St → Option (rx_St)) (v1 : Int32) (s0 : Int32) (σ : rx_St) : Option (rx_St) :=
    f_run_putInOrder_48 r k2 rx_fu v1 s0 v1 σ
def f_run_putInOrder_2 (r : Nat) : Nat → Int32 → rx_St → Option (rx_St)
  | 0, _, _ => none
  | n + 1, v1, σ =>
    if (σ.1 38 2) ≤ v1 then
    some σ
    else
    if (σ.1 38 7) = (0 : Int32) then
    f_run_putInOrder_45 r (f_run_putInOrder_2 r n) v1 (0 : Int32) σ
    else
    ((f_c_dealLot (σ.1 (57 + 7 * r) 9) v1 (σ.1 (57 + 7 * r) 10) (1000 : Int32) (1000 : Int32)).bind fun y1 =>
    f_run_putInOrder_45 r (f_run_putInOrder_2 r n) v1 y1 σ)
def f_run_putInOrder (r : Nat) (σ : rx_St) : Option (rx_St) :=
  f_run_putInOrder_2 r rx_fu (0 : Int32) σ
def f_run_addTo (r : Nat) (a0 : Int32) (a1 : Int32) (σ : rx_St) : Option (rx_St) :=
  if a0 < (0 : Int32) then
    some σ
    else
    if (120 : Int32) ≤ a0 then
    some σ
    else
    (rx_g a0 120 (
    rx_g a0 120 (
    let σ1 : rx_St := rx_si σ (59 + 7 * r) a0.toNatClampNeg ((σ.1 (59 + 7 * r) a0.toNatClampNeg) + a1);
    some σ1)))
def f_j_floorMod (a0 : Int32) (a1 : Int32) : Option (Int32) :=
  rx_c (¬ a1 = 0) (
    if (0 : Int32) ≤ (a0 ^^^ a1) then
    some (rx_irem a0 a1)
    else
    if (rx_irem a0 a1) = (0 : Int32) then
    some (rx_irem a0 a1)
    else
    some ((rx_irem a0 a1) + a1))
def f_tow_hasOne (a0 : Int32) (σ : rx_St) : Int32 :=
  if a0 < (0 : Int32) then
    (0 : Int32)
    else
    if (σ.1 38 2) ≤ a0 then
    (0 : Int32)
    else
    (1 : Int32)
def f_run_hand (r : Nat) (a0 : Int32) (a1 : Int32) (a2 : Int32) (a3 : Int32) (σ : rx_St) : Option (rx_St) :=
  (f_c_cell_59 r a0 σ).bind fun y1 =>
    if (f_j_min a3 y1) < (1 : Int32) then
    some σ
    else
    if (f_tow_hasOne a1 σ) = (0 : Int32) then
    some σ
    else
    (rx_g a1 20 (
    if (σ.1 (61 + 7 * r) a1.toNatClampNeg) = (0 : Int32) then
    ((f_run_addTo r a0 (-(f_j_min a3 y1)) σ).bind fun y2 =>
    (f_run_addTo r ((a1 * (6 : Int32)) + a2) (f_j_min a3 y1) y2).bind fun y3 =>
    some y3)
    else
    some σ))
def f_run_fulfil_174 (r : Nat) (k7 : Int32 → Int32 → Int32 → rx_St → Option (rx_St)) (v1 : Int32) (v2 : Int32) (v3 : Int32) (σ : rx_St) : Option (rx_St) :=
    k7 v1 v2 (v3 + (1 : Int32)) σ
def f_run_fulfil_7 (r : Nat) : Nat → Int32 → Int32 → Int32 → rx_St → Option (rx_St)
  | 0, _, _, _, _ => none
  | n + 1, v1, v2, v3, σ =>
    rx_g v1 20 (
    if (v2 + (σ.1 45 v1.toNatClampNeg)) ≤ v3 then
    some σ
    else
    (rx_g v3 960 (
    if (σ.1 46 v3.toNatClampNeg) = (7 : Int32) then
    (rx_g v3 960 (
    rx_g v3 960 (
    (f_run_addTo r ((v1 * (6 : Int32)) + (σ.1 47 v3.toNatClampNeg)) (σ.1 48 v3.toNatClampNeg) σ).bind fun y3 =>
    f_run_fulfil_174 r (f_run_fulfil_7 r n) v1 v2 v3 y3)))
    else
    if (σ.1 46 v3.toNatClampNeg) = (8 : Int32) then
    (rx_g v1 20 (
    rx_g v3 960 (
    (f_j_floorMod (σ.1 48 v3.toNatClampNeg) (10 : Int32)).bind fun y2 =>
    rx_g v1 20 (
    let σ2 : rx_St := rx_si σ (60 + 7 * r) v1.toNatClampNeg (rx_irem ((σ.1 (60 + 7 * r) v1.toNatClampNeg) + y2) (10 : Int32));
    f_run_fulfil_174 r (f_run_fulfil_7 r n) v1 v2 v3 σ2))))
    else
    if (σ.1 46 v3.toNatClampNeg) = (9 : Int32) then
    (rx_g v3 960 (
    rx_g v3 960 (
    rx_g v3 960 (
    rx_g v3 960 (
    (f_run_hand r ((v1 * (6 : Int32)) + (σ.1 47 v3.toNatClampNeg)) (σ.1 49 v3.toNatClampNeg) (σ.1 50 v3.toNatClampNeg) (σ.1 48 v3.toNatClampNeg) σ).bind fun y1 =>
    f_run_fulfil_174 r (f_run_fulfil_7 r n) v1 v2 v3 y1)))))
    else
    (rx_g v1 20 (
    let σ1 : rx_St := rx_si σ (61 + 7 * r) v1.toNatClampNeg (vp_nar .boolean (1 : Int32));
    f_run_fulfil_174 r (f_run_fulfil_7 r n) v1 v2 v3 σ1)))))
def f_run_fulfil (r : Nat) (a0 : Int32) (σ : rx_St) : Option (rx_St) :=
  let x1 : Int32 := a0 * (48 : Int32);
    f_run_fulfil_7 r rx_fu a0 x1 x1 σ
def f_run_hold_2 (r : Nat) : Nat → Int32 → rx_St → Option (rx_St)
  | 0, _, _ => none
  | n + 1, v1, σ =>
    if ((σ.1 38 2) * (6 : Int32)) ≤ v1 then
    some σ
    else
    (rx_g v1 120 (
    rx_g v1 120 (
    let σ1 : rx_St := rx_si σ (59 + 7 * r) v1.toNatClampNeg (f_j_max (-9999 : Int32) (f_j_min (9999 : Int32) (σ.1 (59 + 7 * r) v1.toNatClampNeg)));
    f_run_hold_2 r n (v1 + (1 : Int32)) σ1)))
def f_run_hold (r : Nat) (σ : rx_St) : Option (rx_St) :=
  f_run_hold_2 r rx_fu (0 : Int32) σ
def f_run_step_108 (r : Nat) (w : Nat) (k77 : Int32 → Int32 → rx_St → Option (rx_St)) (v1 : Int32) (v2 : Int32) (σ : rx_St) : Option (rx_St) :=
    k77 v1 (v2 + (1 : Int32)) σ
def f_run_step_77 (r : Nat) (w : Nat) : Nat → Int32 → Int32 → rx_St → Option (rx_St)
  | 0, _, _, _ => none
  | n + 1, v1, v2, σ =>
    if (σ.1 38 2) ≤ v2 then
    ((f_run_hold r σ).bind fun y1 =>
    let σ1 : rx_St := rx_si y1 (57 + 7 * r) 10 ((y1.1 (57 + 7 * r) 10) + (1 : Int32));
    some σ1)
    else
    (rx_g v2 20 (
    if (σ.1 (62 + 7 * r) v2.toNatClampNeg) = v1 then
    f_run_step_108 r w (f_run_step_77 r w n) v1 v2 σ
    else
    (rx_g v2 20 (
    (f_run_fulfil r (σ.1 (62 + 7 * r) v2.toNatClampNeg) σ).bind fun y2 =>
    f_run_step_108 r w (f_run_step_77 r w n) v1 v2 y2))))
def f_run_step_65 (r : Nat) (w : Nat) (k23 : Int32 → Int32 → rx_St → Option (rx_St)) (v1 : Int32) (v2 : Int32) (σ : rx_St) : Option (rx_St) :=
    k23 v1 (v2 + (1 : Int32)) σ
def f_run_step_23 (r : Nat) (w : Nat) : Nat → Int32 → Int32 → rx_St → Option (rx_St)
  | 0, _, _, _ => none
  | n + 1, v1, v2, σ =>
    if (σ.1 38 2) ≤ v2 then
    ((f_run_putInOrder r σ).bind fun y1 =>
    f_run_step_77 r w rx_fu v1 (0 : Int32) y1)
    else
    (rx_g v2 20 (
    if (σ.1 (61 + 7 * r) v2.toNatClampNeg) = (0 : Int32) then
    ((f_cho_choose r w v2 σ).bind fun y2 =>
    f_run_step_65 r w (f_run_step_23 r w n) v1 v2 y2)
    else
    (rx_g v2 20 (
    let σ1 : rx_St := rx_si σ 45 v2.toNatClampNeg (0 : Int32);
    f_run_step_65 r w (f_run_step_23 r w n) v1 v2 σ1))))
def f_run_step_21 (r : Nat) (w : Nat) (v1 : Int32) (σ : rx_St) : Option (rx_St) :=
    f_run_step_23 r w rx_fu v1 (0 : Int32) σ
def f_run_step (r : Nat) (w : Nat) (a0 : Int32) (σ : rx_St) : Option (rx_St) :=
  if (σ.1 (7 + 14 * w) 13) = (0 : Int32) then
    f_run_step_21 r w a0 σ
    else
    ((f_cho_look r w σ).bind fun y1 =>
    f_run_step_21 r w a0 y1)
def f_run_goOn_5 (r : Nat) (w : Nat) : Nat → Int32 → Int32 → rx_St → Option (rx_St)
  | 0, _, _, _ => none
  | n + 1, v1, v2, σ =>
    if v1 ≤ v2 then
    some σ
    else
    ((f_run_step r w (-1 : Int32) σ).bind fun y1 =>
    f_run_goOn_5 r w n v1 (v2 + (1 : Int32)) y1)
def f_run_goOn (r : Nat) (w : Nat) (a0 : Int32) (σ : rx_St) : Option (rx_St) :=
  let x1 : Int32 := σ.1 (57 + 7 * r) 10;
    f_run_goOn_5 r w rx_fu a0 x1 σ
def f_run_total_57 (r : Nat) (k5 : Int32 → Int32 → Int32 → Int32 → rx_St → Option (Int32)) (v1 : Int32) (v2 : Int32) (v3 : Int32) (v4 : Int32) (σ : rx_St) : Option (Int32) :=
    k5 v1 v2 v3 (v4 + (1 : Int32)) σ
def f_run_total_5 (r : Nat) : Nat → Int32 → Int32 → Int32 → Int32 → rx_St → Option (Int32)
  | 0, _, _, _, _, _ => none
  | n + 1, v1, v2, v3, v4, σ =>
    if (σ.1 38 2) ≤ v4 then
    some v3
    else
    (rx_g v4 20 (
    if (σ.1 40 v4.toNatClampNeg) = v1 then
    (rx_g ((v4 * (6 : Int32)) + v2) 120 (
    rx_g v4 20 (
    let x1 : Int32 := v3 + ((σ.1 (59 + 7 * r) ((v4 * (6 : Int32)) + v2).toNatClampNeg) * (σ.1 42 v4.toNatClampNeg));
    f_run_total_57 r (f_run_total_5 r n) v1 v2 x1 v4 σ)))
    else
    f_run_total_57 r (f_run_total_5 r n) v1 v2 v3 v4 σ))
def f_run_total (r : Nat) (a0 : Int32) (a1 : Int32) (σ : rx_St) : Option (Int32) :=
  f_run_total_5 r rx_fu a0 a1 (0 : Int32) (0 : Int32) σ
def f_j_bitCount (a0 : Int32) : Int32 :=
  let x1 : Int32 := a0 - ((rx_iushr a0 (1 : Int32)) &&& (1431655765 : Int32));
    let x2 : Int32 := (x1 &&& (858993459 : Int32)) + ((rx_iushr x1 (2 : Int32)) &&& (858993459 : Int32));
    let x3 : Int32 := (x2 + (rx_iushr x2 (4 : Int32))) &&& (252645135 : Int32);
    let x4 : Int32 := x3 + (rx_iushr x3 (8 : Int32));
    let x5 : Int32 := x4 + (rx_iushr x4 (16 : Int32));
    (x5 &&& (63 : Int32))
def f_cau_factorial_4 : Nat → Int32 → Int64 → Int32 → Option (Int64)
  | 0, _, _, _ => none
  | n + 1, v0, v1, v3 =>
    if v0 < v3 then
    some v1
    else
    (let x1 : Int64 := v1 * v3.toInt64;
    f_cau_factorial_4 n v0 x1 (v3 + (1 : Int32)))
def f_cau_factorial (a0 : Int32) : Option (Int64) :=
  f_cau_factorial_4 rx_fu a0 (1 : Int64) (2 : Int32)
def f_cau_sumOverOrders_186 (w : Nat) (k110 : Int32 → Int64 → Int32 → rx_St → Option (Int64 × rx_St)) (v1 : Int32) (v6 : Int64) (v8 : Int32) (σ : rx_St) : Option (Int64 × rx_St) :=
    k110 v1 v6 (v8 + (1 : Int32)) σ
def f_cau_sumOverOrders_110 (w : Nat) : Nat → Int32 → Int64 → Int32 → rx_St → Option (Int64 × rx_St)
  | 0, _, _, _, _ => none
  | n + 1, v1, v6, v8, σ =>
    if (rx_ishl (1 : Int32) (σ.1 72 2)) ≤ v8 then
    some (v6, σ)
    else
    if ((rx_ishr v8 v1) &&& (1 : Int32)) = (0 : Int32) then
    (let x1 : Int32 := f_j_bitCount v8;
    (f_cau_factorial x1).bind fun y2 =>
    (f_cau_factorial (((σ.1 72 2) - (1 : Int32)) - x1)).bind fun y3 =>
    rx_g (v8 ||| (rx_ishl (1 : Int32) v1)) 16 (
    rx_g v8 16 (
    let x4 : Int64 := v6 + ((y2 * y3) * (((σ.1 75 (v8 ||| (rx_ishl (1 : Int32) v1)).toNatClampNeg).toInt64) - ((σ.1 75 v8.toNatClampNeg).toInt64)));
    f_cau_sumOverOrders_186 w (f_cau_sumOverOrders_110 w n) v1 x4 v8 σ)))
    else
    f_cau_sumOverOrders_186 w (f_cau_sumOverOrders_110 w n) v1 v6 v8 σ
def f_cau_sumOverOrders_66 (w : Nat) (k3 : Int32 → Int32 → Int32 → Int32 → Int32 → Int32 → rx_St → Option (Int64 × rx_St)) (k25 : Int32 → Int32 → Int32 → Int32 → Int32 → Int32 → Int32 → rx_St → Option (Int64 × rx_St)) (v1 : Int32) (v2 : Int32) (v3 : Int32) (v4 : Int32) (v5 : Int32) (v6 : Int32) (v7 : Int32) (σ : rx_St) : Option (Int64 × rx_St) :=
    k25 v1 v2 v3 v4 v5 v6 (v7 + (1 : Int32)) σ
def f_cau_sumOverOrders_25 (w : Nat) (k3 : Int32 → Int32 → Int32 → Int32 → Int32 → Int32 → rx_St → Option (Int64 × rx_St)) : Nat → Int32 → Int32 → Int32 → Int32 → Int32 → Int32 → Int32 → rx_St → Option (Int64 × rx_St)
  | 0, _, _, _, _, _, _, _, _ => none
  | n + 1, v1, v2, v3, v4, v5, v6, v7, σ =>
    if (σ.1 72 2) ≤ v7 then
    ((f_run_goOn 0 w v3 σ).bind fun y1 =>
    (f_run_total 0 v4 v5 y1).bind fun y2 =>
    rx_g v6 16 (
    let σ1 : rx_St := rx_si y1 75 v6.toNatClampNeg y2;
    k3 v1 v2 v3 v4 v5 (v6 + (1 : Int32)) σ1))
    else
    if ((rx_ishr v6 v7) &&& (1 : Int32)) = (0 : Int32) then
    f_cau_sumOverOrders_66 w k3 (f_cau_sumOverOrders_25 w k3 n) v1 v2 v3 v4 v5 v6 v7 σ
    else
    (rx_g v7 4 (
    rx_g v7 4 (
    rx_g (σ.1 73 v7.toNatClampNeg) 6 (
    let σ2 : rx_St := rx_si σ 58 (σ.1 73 v7.toNatClampNeg).toNatClampNeg (σ.1 74 v7.toNatClampNeg);
    f_cau_sumOverOrders_66 w k3 (f_cau_sumOverOrders_25 w k3 n) v1 v2 v3 v4 v5 v6 v7 σ2))))
def f_cau_sumOverOrders_3 (w : Nat) : Nat → Int32 → Int32 → Int32 → Int32 → Int32 → Int32 → rx_St → Option (Int64 × rx_St)
  | 0, _, _, _, _, _, _, _ => none
  | n + 1, v1, v2, v3, v4, v5, v6, σ =>
    if (rx_ishl (1 : Int32) (σ.1 72 2)) ≤ v6 then
    f_cau_sumOverOrders_110 w rx_fu v1 (0 : Int64) (0 : Int32) σ
    else
    ((f_run_restart 0 w v2 σ).bind fun y1 =>
    f_cau_sumOverOrders_25 w (f_cau_sumOverOrders_3 w n) rx_fu v1 v2 v3 v4 v5 v6 (0 : Int32) y1)
def f_cau_sumOverOrders (w : Nat) (a0 : Int32) (a1 : Int32) (a2 : Int32) (a3 : Int32) (a4 : Int32) (σ : rx_St) : Option (Int64 × rx_St) :=
  f_cau_sumOverOrders_3 w rx_fu a0 a1 a2 a3 a4 (0 : Int32) σ
def f_tap_valueOf (a0 : Int32) (σ : rx_St) : Option (Int64) :=
  if a0 < (0 : Int32) then
    some (0 : Int64)
    else
    if (502 : Int32) ≤ a0 then
    some (0 : Int64)
    else
    (rx_g a0 502 (
    some (σ.2 5 a0.toNatClampNeg)))
def f_chk_settingNamed_2 (w : Nat) : Nat → Int64 → Int32 → rx_St → Option (Int32)
  | 0, _, _, _ => none
  | n + 1, v1, v3, σ =>
    if (σ.1 (7 + 14 * w) 0) ≤ v3 then
    some (-1 : Int32)
    else
    (rx_g v3 6 (
    (f_tap_valueOf (σ.1 (9 + 14 * w) v3.toNatClampNeg) σ).bind fun y1 =>
    if (lg_cmp y1 v1) = (0 : Int32) then
    some v3
    else
    f_chk_settingNamed_2 w n v1 (v3 + (1 : Int32)) σ))
def f_chk_settingNamed (w : Nat) (a0 : Int64) (σ : rx_St) : Option (Int32) :=
  f_chk_settingNamed_2 w rx_fu a0 (0 : Int32) σ
def f_tap_placeOf (a0 : Int32) (σ : rx_St) : Option (Int32) :=
  if a0 < (0 : Int32) then
    some (σ.1 1 1)
    else
    if (502 : Int32) ≤ a0 then
    some (σ.1 1 1)
    else
    (rx_g a0 502 (
    some (σ.1 4 a0.toNatClampNeg)))
def f_chk_find_40 (v1 : Int32) (v3 : Int32) (σ : rx_St) : Option (rx_St) :=
    let σ1 : rx_St := rx_si σ 37 2 v1;
    let σ2 : rx_St := rx_si σ1 37 3 v3;
    some σ2
def f_chk_find (a0 : Int32) (a1 : Int32) (σ : rx_St) : Option (rx_St) :=
  (f_tap_placeOf a1 σ).bind fun y1 =>
    if (σ.1 37 2) = (0 : Int32) then
    f_chk_find_40 a0 y1 σ
    else
    if y1 < (σ.1 37 3) then
    f_chk_find_40 a0 y1 σ
    else
    if y1 = (σ.1 37 3) then
    if (σ.1 37 2) ≤ a0 then
    some σ
    else
    f_chk_find_40 a0 y1 σ
    else
    some σ
def f_chk_checkSettings_51 (w : Nat) (k2 : Int32 → rx_St → Option (rx_St)) (v1 : Int32) (σ : rx_St) : Option (rx_St) :=
    k2 (v1 + (1 : Int32)) σ
def f_chk_checkSettings_2 (w : Nat) : Nat → Int32 → rx_St → Option (rx_St)
  | 0, _, _ => none
  | n + 1, v1, σ =>
    if (σ.1 (7 + 14 * w) 0) ≤ v1 then
    some σ
    else
    (rx_g v1 6 (
    (f_tap_valueOf (σ.1 (9 + 14 * w) v1.toNatClampNeg) σ).bind fun y1 =>
    (f_chk_settingNamed w y1 σ).bind fun y2 =>
    if y2 = v1 then
    f_chk_checkSettings_51 w (f_chk_checkSettings_2 w n) v1 σ
    else
    (rx_g v1 6 (
    (f_chk_find (3 : Int32) (σ.1 (9 + 14 * w) v1.toNatClampNeg) σ).bind fun y3 =>
    f_chk_checkSettings_51 w (f_chk_checkSettings_2 w n) v1 y3))))
def f_chk_checkSettings (w : Nat) (σ : rx_St) : Option (rx_St) :=
  f_chk_checkSettings_2 w rx_fu (0 : Int32) σ
def f_chk_kindNamed_2 (w : Nat) : Nat → Int64 → Int32 → rx_St → Option (Int32)
  | 0, _, _, _ => none
  | n + 1, v1, v3, σ =>
    if (σ.1 (7 + 14 * w) 3) ≤ v3 then
    some (-1 : Int32)
    else
    (rx_g v3 5 (
    (f_tap_valueOf (σ.1 (10 + 14 * w) v3.toNatClampNeg) σ).bind fun y1 =>
    if (lg_cmp y1 v1) = (0 : Int32) then
    some v3
    else
    f_chk_kindNamed_2 w n v1 (v3 + (1 : Int32)) σ))
def f_chk_kindNamed (w : Nat) (a0 : Int64) (σ : rx_St) : Option (Int32) :=
  f_chk_kindNamed_2 w rx_fu a0 (0 : Int32) σ
def f_chk_checkKinds_61 (w : Nat) (k2 : Int32 → rx_St → Option (rx_St)) (v1 : Int32) (σ : rx_St) : Option (rx_St) :=
    k2 (v1 + (1 : Int32)) σ
def f_chk_checkKinds_47 (w : Nat) (k2 : Int32 → rx_St → Option (rx_St)) (v1 : Int32) (σ : rx_St) : Option (rx_St) :=
    rx_g v1 5 (
    (f_chk_find (3 : Int32) (σ.1 (10 + 14 * w) v1.toNatClampNeg) σ).bind fun y1 =>
    f_chk_checkKinds_61 w k2 v1 y1)
def f_chk_checkKinds_2 (w : Nat) : Nat → Int32 → rx_St → Option (rx_St)
  | 0, _, _ => none
  | n + 1, v1, σ =>
    if (σ.1 (7 + 14 * w) 3) ≤ v1 then
    some σ
    else
    (rx_g v1 5 (
    (f_tap_valueOf (σ.1 (10 + 14 * w) v1.toNatClampNeg) σ).bind fun y1 =>
    (f_chk_settingNamed w y1 σ).bind fun y2 =>
    if (0 : Int32) ≤ y2 then
    f_chk_checkKinds_47 w (f_chk_checkKinds_2 w n) v1 σ
    else
    ((f_chk_kindNamed w y1 σ).bind fun y3 =>
    if y3 = v1 then
    f_chk_checkKinds_61 w (f_chk_checkKinds_2 w n) v1 σ
    else
    f_chk_checkKinds_47 w (f_chk_checkKinds_2 w n) v1 σ)))
def f_chk_checkKinds (w : Nat) (σ : rx_St) : Option (rx_St) :=
  f_chk_checkKinds_2 w rx_fu (0 : Int32) σ
def f_wor_hasKind (w : Nat) (a0 : Int32) (σ : rx_St) : Int32 :=
  if a0 < (0 : Int32) then
    (0 : Int32)
    else
    if (σ.1 (7 + 14 * w) 3) ≤ a0 then
    (0 : Int32)
    else
    (1 : Int32)
def f_chk_varNamed_16 (w : Nat) : Nat → Int32 → Int64 → Int32 → rx_St → Option (Int32)
  | 0, _, _, _, _ => none
  | n + 1, v1, v2, v4, σ =>
    rx_g v1 5 (
    if (σ.1 (11 + 14 * w) v1.toNatClampNeg) ≤ v4 then
    some (-1 : Int32)
    else
    (rx_g ((v1 * (6 : Int32)) + v4) 30 (
    (f_tap_valueOf (σ.1 (14 + 14 * w) ((v1 * (6 : Int32)) + v4).toNatClampNeg) σ).bind fun y1 =>
    if (lg_cmp y1 v2) = (0 : Int32) then
    some v4
    else
    f_chk_varNamed_16 w n v1 v2 (v4 + (1 : Int32)) σ)))
def f_chk_varNamed (w : Nat) (a0 : Int32) (a1 : Int64) (σ : rx_St) : Option (Int32) :=
  if (f_wor_hasKind w a0 σ) = (0 : Int32) then
    some (-1 : Int32)
    else
    f_chk_varNamed_16 w rx_fu a0 a1 (0 : Int32) σ
def f_chk_checkVars_53 (w : Nat) (k2 : Int32 → Int32 → rx_St → Option (rx_St)) (v1 : Int32) (v2 : Int32) (σ : rx_St) : Option (rx_St) :=
    k2 v1 (v2 + (1 : Int32)) σ
def f_chk_checkVars_2 (w : Nat) : Nat → Int32 → Int32 → rx_St → Option (rx_St)
  | 0, _, _, _ => none
  | n + 1, v1, v2, σ =>
    rx_g v1 5 (
    if (σ.1 (11 + 14 * w) v1.toNatClampNeg) ≤ v2 then
    some σ
    else
    (rx_g ((v1 * (6 : Int32)) + v2) 30 (
    let x1 : Int32 := σ.1 (14 + 14 * w) ((v1 * (6 : Int32)) + v2).toNatClampNeg;
    (f_tap_valueOf x1 σ).bind fun y2 =>
    (f_chk_varNamed w v1 y2 σ).bind fun y3 =>
    if y3 = v2 then
    f_chk_checkVars_53 w (f_chk_checkVars_2 w n) v1 v2 σ
    else
    ((f_chk_find (3 : Int32) x1 σ).bind fun y4 =>
    f_chk_checkVars_53 w (f_chk_checkVars_2 w n) v1 v2 y4))))
def f_chk_checkVars (w : Nat) (a0 : Int32) (σ : rx_St) : Option (rx_St) :=
  f_chk_checkVars_2 w rx_fu a0 (0 : Int32) σ
def f_chk_resolveName_76 (w : Nat) (v2 : Int32) (v5 : Int32) (v6 : Int32) (s1 : Int32) (s2 : Int32) (σ : rx_St) : Option (rx_St) :=
    rx_g s1 500 (
    let σ1 : rx_St := rx_si σ (18 + 14 * w) s1.toNatClampNeg s2;
    if v5 < (0 : Int32) then
    (rx_g v2 500 (
    let σ2 : rx_St := rx_si σ1 (19 + 14 * w) v2.toNatClampNeg v6;
    some σ2))
    else
    (rx_g v2 500 (
    let σ3 : rx_St := rx_si σ1 (19 + 14 * w) v2.toNatClampNeg v5;
    some σ3)))
def f_chk_resolveName_56 (w : Nat) (v2 : Int32) (v5 : Int32) (v6 : Int32) (σ : rx_St) : Option (rx_St) :=
    if v5 < (0 : Int32) then
    f_chk_resolveName_76 w v2 v5 v6 v2 (40 : Int32) σ
    else
    f_chk_resolveName_76 w v2 v5 v6 v2 (39 : Int32) σ
def f_chk_resolveName (w : Nat) (a0 : Int32) (a1 : Int32) (σ : rx_St) : Option (rx_St) :=
  rx_g a1 500 (
    (f_tap_valueOf (σ.1 (19 + 14 * w) a1.toNatClampNeg) σ).bind fun y1 =>
    (f_chk_varNamed w a0 y1 σ).bind fun y2 =>
    (f_chk_settingNamed w y1 σ).bind fun y3 =>
    if (0 : Int32) ≤ y2 then
    f_chk_resolveName_56 w a1 y2 y3 σ
    else
    if (0 : Int32) ≤ y3 then
    f_chk_resolveName_56 w a1 y2 y3 σ
    else
    (rx_g a1 500 (
    (f_chk_find (4 : Int32) (σ.1 (19 + 14 * w) a1.toNatClampNeg) σ).bind fun y4 =>
    f_chk_resolveName_56 w a1 y2 y3 y4)))
def f_chk_needKind (w : Nat) (a0 : Int32) (σ : rx_St) : Option (Int32 × rx_St) :=
  (f_tap_valueOf a0 σ).bind fun y1 =>
    (f_chk_kindNamed w y1 σ).bind fun y2 =>
    if (0 : Int32) ≤ y2 then
    some (y2, σ)
    else
    ((f_chk_find (4 : Int32) a0 σ).bind fun y3 =>
    some (y2, y3))
def f_chk_needVar (w : Nat) (a0 : Int32) (a1 : Int32) (σ : rx_St) : Option (Int32 × rx_St) :=
  (f_tap_valueOf a1 σ).bind fun y1 =>
    (f_chk_varNamed w a0 y1 σ).bind fun y2 =>
    if (0 : Int32) ≤ y2 then
    some (y2, σ)
    else
    ((f_chk_find (4 : Int32) a1 σ).bind fun y3 =>
    some (y2, y3))
def f_chk_resolveSum_78 (w : Nat) (v2 : Int32) (v3 : Int32) (v4 : Int32) (σ : rx_St) : Option (rx_St) :=
    rx_g v2 500 (
    let σ1 : rx_St := rx_si σ (19 + 14 * w) v2.toNatClampNeg v3;
    rx_g v2 500 (
    let σ2 : rx_St := rx_si σ1 (20 + 14 * w) v2.toNatClampNeg v4;
    some σ2))
def f_chk_resolveSum (w : Nat) (a0 : Int32) (a1 : Int32) (σ : rx_St) : Option (rx_St) :=
  rx_g a1 500 (
    (f_chk_needKind w (σ.1 (19 + 14 * w) a1.toNatClampNeg) σ).bind fun y1 =>
    if (0 : Int32) ≤ y1.1 then
    (rx_g a1 500 (
    (f_chk_needVar w y1.1 (y1.2.1 (20 + 14 * w) a1.toNatClampNeg) y1.2).bind fun y2 =>
    if y2.1 < (0 : Int32) then
    f_chk_resolveSum_78 w a1 y1.1 y2.1 y2.2
    else
    if y1.1 = a0 then
    f_chk_resolveSum_78 w a1 y1.1 y2.1 y2.2
    else
    (rx_g ((y1.1 * (6 : Int32)) + y2.1) 30 (
    if (y2.2.1 (15 + 14 * w) ((y1.1 * (6 : Int32)) + y2.1).toNatClampNeg) = (0 : Int32) then
    f_chk_resolveSum_78 w a1 y1.1 y2.1 y2.2
    else
    (rx_g a1 500 (
    (f_chk_find (6 : Int32) (y2.2.1 (20 + 14 * w) a1.toNatClampNeg) y2.2).bind fun y3 =>
    f_chk_resolveSum_78 w a1 y1.1 y2.1 y3))))))
    else
    some y1.2)
def f_chk_resolveGive_65 (w : Nat) (v1 : Int32) (v2 : Int32) (v5 : Int32) (v6 : Int32) (σ : rx_St) : Option (rx_St) :=
    rx_g v2 500 (
    (f_chk_needVar w v1 (σ.1 (19 + 14 * w) v2.toNatClampNeg) σ).bind fun y1 =>
    rx_g v2 500 (
    let σ1 : rx_St := rx_si y1.2 (19 + 14 * w) v2.toNatClampNeg y1.1;
    rx_g v2 500 (
    let σ2 : rx_St := rx_si σ1 (20 + 14 * w) v2.toNatClampNeg ((v5 * (6 : Int32)) + v6);
    some σ2)))
def f_chk_resolveGive (w : Nat) (a0 : Int32) (a1 : Int32) (σ : rx_St) : Option (rx_St) :=
  rx_g a1 500 (
    (f_tap_valueOf (σ.1 (19 + 14 * w) a1.toNatClampNeg) σ).bind fun y1 =>
    rx_g a1 500 (
    (f_chk_needKind w (σ.1 (20 + 14 * w) a1.toNatClampNeg) σ).bind fun y2 =>
    (f_chk_varNamed w y2.1 y1 y2.2).bind fun y3 =>
    if y2.1 < (0 : Int32) then
    f_chk_resolveGive_65 w a0 a1 y2.1 y3 y2.2
    else
    if (0 : Int32) ≤ y3 then
    f_chk_resolveGive_65 w a0 a1 y2.1 y3 y2.2
    else
    (rx_g a1 500 (
    (f_chk_find (4 : Int32) (y2.2.1 (20 + 14 * w) a1.toNatClampNeg) y2.2).bind fun y4 =>
    f_chk_resolveGive_65 w a0 a1 y2.1 y3 y4))))
def f_chk_resolve_193 (w : Nat) (v1 : Int32) (v2 : Int32) (σ : rx_St) : Option (rx_St) :=
    (f_chk_resolveGive w v1 v2 σ).bind fun y1 =>
    some y1
def f_chk_resolve (w : Nat) (a0 : Int32) (a1 : Int32) (σ : rx_St) : Option (rx_St) :=
  rx_g a1 500 (
    let x1 : Int32 := σ.1 (19 + 14 * w) a1.toNatClampNeg;
    rx_g a1 500 (
    if (σ.1 (18 + 14 * w) a1.toNatClampNeg) = (7 : Int32) then
    ((f_chk_needVar w a0 x1 σ).bind fun y7 =>
    rx_g a1 500 (
    let σ3 : rx_St := rx_si y7.2 (19 + 14 * w) a1.toNatClampNeg y7.1;
    some σ3))
    else
    if (σ.1 (18 + 14 * w) a1.toNatClampNeg) = (8 : Int32) then
    some σ
    else
    if (σ.1 (18 + 14 * w) a1.toNatClampNeg) = (9 : Int32) then
    some σ
    else
    if (σ.1 (18 + 14 * w) a1.toNatClampNeg) = (10 : Int32) then
    some σ
    else
    if (σ.1 (18 + 14 * w) a1.toNatClampNeg) = (11 : Int32) then
    f_chk_resolve_193 w a0 a1 σ
    else
    if (σ.1 (18 + 14 * w) a1.toNatClampNeg) = (12 : Int32) then
    f_chk_resolve_193 w a0 a1 σ
    else
    if (σ.1 (18 + 14 * w) a1.toNatClampNeg) = (13 : Int32) then
    some σ
    else
    if (σ.1 (18 + 14 * w) a1.toNatClampNeg) = (14 : Int32) then
    some σ
    else
    if (σ.1 (18 + 14 * w) a1.toNatClampNeg) = (15 : Int32) then
    some σ
    else
    if (σ.1 (18 + 14 * w) a1.toNatClampNeg) = (16 : Int32) then
    some σ
    else
    if (σ.1 (18 + 14 * w) a1.toNatClampNeg) = (17 : Int32) then
    some σ
    else
    if (σ.1 (18 + 14 * w) a1.toNatClampNeg) = (18 : Int32) then
    some σ
    else
    if (σ.1 (18 + 14 * w) a1.toNatClampNeg) = (19 : Int32) then
    some σ
    else
    if (σ.1 (18 + 14 * w) a1.toNatClampNeg) = (20 : Int32) then
    ((f_tap_valueOf x1 σ).bind fun y5 =>
    rx_g a1 500 (
    let σ2 : rx_St := rx_si σ (19 + 14 * w) a1.toNatClampNeg y5.toInt32;
    rx_g a1 500 (
    if (1 : Int32) ≤ (σ2.1 (19 + 14 * w) a1.toNatClampNeg) then
    some σ2
    else
    ((f_chk_find (5 : Int32) x1 σ2).bind fun y6 =>
    some y6))))
    else
    if (σ.1 (18 + 14 * w) a1.toNatClampNeg) = (21 : Int32) then
    ((f_chk_resolveSum w a0 a1 σ).bind fun y4 =>
    some y4)
    else
    if (σ.1 (18 + 14 * w) a1.toNatClampNeg) = (22 : Int32) then
    ((f_chk_needKind w x1 σ).bind fun y3 =>
    rx_g a1 500 (
    let σ1 : rx_St := rx_si y3.2 (19 + 14 * w) a1.toNatClampNeg y3.1;
    some σ1))
    else
    if (σ.1 (18 + 14 * w) a1.toNatClampNeg) = (23 : Int32) then
    ((f_chk_resolveName w a0 a1 σ).bind fun y2 =>
    some y2)
    else
    some σ))
def f_chk_check_91 (w : Nat) (k25 : Int32 → rx_St → Option (Int32 × rx_St)) (v2 : Int32) (σ : rx_St) : Option (Int32 × rx_St) :=
    k25 (v2 + (1 : Int32)) σ
def f_chk_check_51 (w : Nat) (k25 : Int32 → rx_St → Option (Int32 × rx_St)) : Nat → Int32 → Int32 → rx_St → Option (Int32 × rx_St)
  | 0, _, _, _ => none
  | n + 1, v2, v3, σ =>
    if v3 < (0 : Int32) then
    f_chk_check_91 w k25 v2 σ
    else
    (rx_g v2 5 (
    if (σ.1 (17 + 14 * w) v2.toNatClampNeg) ≤ v3 then
    f_chk_check_91 w k25 v2 σ
    else
    if (σ.1 (7 + 14 * w) 12) ≤ v3 then
    f_chk_check_91 w k25 v2 σ
    else
    ((f_chk_resolve w v2 v3 σ).bind fun y1 =>
    f_chk_check_51 w k25 n v2 (v3 + (1 : Int32)) y1)))
def f_chk_check_25 (w : Nat) : Nat → Int32 → rx_St → Option (Int32 × rx_St)
  | 0, _, _ => none
  | n + 1, v2, σ =>
    if (σ.1 (7 + 14 * w) 3) ≤ v2 then
    some (σ.1 37 2, σ)
    else
    ((f_chk_checkVars w v2 σ).bind fun y1 =>
    rx_g v2 5 (
    let x2 : Int32 := y1.1 (16 + 14 * w) v2.toNatClampNeg;
    f_chk_check_51 w (f_chk_check_25 w n) rx_fu v2 x2 y1))
def f_chk_check (w : Nat) (σ : rx_St) : Option (Int32 × rx_St) :=
  let σ1 : rx_St := rx_si σ 37 2 (0 : Int32);
    let σ2 : rx_St := rx_si σ1 37 3 (-1 : Int32);
    (f_chk_checkSettings w σ2).bind fun y1 =>
    (f_chk_checkKinds w y1).bind fun y2 =>
    f_chk_check_25 w rx_fu (0 : Int32) y2
def f_chk_faultPlace (σ : rx_St) : Int32 :=
  (σ.1 37 3)
def f_gri_forget_7 : Nat → Int32 → rx_St → Option (rx_St)
  | 0, _, _ => none
  | n + 1, v1, σ =>
    if (200 : Int32) ≤ v1 then
    some σ
    else
    (rx_g v1 200 (
    let σ1 : rx_St := rx_si σ 86 v1.toNatClampNeg (0 : Int32);
    f_gri_forget_7 n (v1 + (1 : Int32)) σ1))
def f_gri_forget (σ : rx_St) : Option (rx_St) :=
  let σ1 : rx_St := rx_si σ 76 15 (0 : Int32);
    f_gri_forget_7 rx_fu (0 : Int32) σ1
def f_gri_empty (σ : rx_St) : Option (rx_St) :=
  let σ1 : rx_St := rx_si σ 76 2 (0 : Int32);
    let σ2 : rx_St := rx_si σ1 76 8 (0 : Int32);
    let σ3 : rx_St := rx_si σ2 76 13 (1 : Int32);
    (f_gri_forget σ3).bind fun y1 =>
    some y1
def f_gri_tellSeen (a0 : Int32) (a1 : Int32) (a2 : Int32) (a3 : Int32) (a4 : Int32) (σ : rx_St) : Option (Int32 × rx_St) :=
  if (σ.1 76 2) < (8 : Int32) then
    (rx_g (σ.1 76 2) 8 (
    let σ1 : rx_St := rx_si σ 77 (σ.1 76 2).toNatClampNeg a0;
    rx_g (σ1.1 76 2) 8 (
    let σ2 : rx_St := rx_si σ1 78 (σ1.1 76 2).toNatClampNeg a1;
    rx_g (σ2.1 76 2) 8 (
    let σ3 : rx_St := rx_si σ2 79 (σ2.1 76 2).toNatClampNeg a2;
    rx_g (σ3.1 76 2) 8 (
    let σ4 : rx_St := rx_si σ3 80 (σ3.1 76 2).toNatClampNeg a3;
    rx_g (σ4.1 76 2) 8 (
    let σ5 : rx_St := rx_si σ4 81 (σ4.1 76 2).toNatClampNeg a4;
    let σ6 : rx_St := rx_si σ5 76 2 ((σ5.1 76 2) + (1 : Int32));
    (f_gri_forget σ6).bind fun y1 =>
    some ((y1.1 76 2) - (1 : Int32), y1)))))))
    else
    some ((-1 : Int32), σ)
def f_gri_hasSpan_2 : Nat → Int32 → Int32 → rx_St → Option (Int32)
  | 0, _, _, _ => none
  | n + 1, v1, v2, σ =>
    if (σ.1 76 8) ≤ v2 then
    some (0 : Int32)
    else
    (rx_g v2 3 (
    if (σ.1 82 v2.toNatClampNeg) = v1 then
    some (1 : Int32)
    else
    f_gri_hasSpan_2 n v1 (v2 + (1 : Int32)) σ))
def f_gri_hasSpan (a0 : Int32) (σ : rx_St) : Option (Int32) :=
  f_gri_hasSpan_2 rx_fu a0 (0 : Int32) σ
def f_gri_tellSpan (w : Nat) (a0 : Int32) (a1 : Int32) (a2 : Int32) (a3 : Int32) (σ : rx_St) : Option (Int32 × rx_St) :=
  if (3 : Int32) ≤ (σ.1 76 8) then
    some ((-1 : Int32), σ)
    else
    if (f_wor_hasSetting w a0 σ) = (0 : Int32) then
    some ((-1 : Int32), σ)
    else
    ((f_gri_hasSpan a0 σ).bind fun y1 =>
    if y1 = (0 : Int32) then
    if a2 < a1 then
    some ((-1 : Int32), σ)
    else
    if (f_c_isNumber a1) = (0 : Int32) then
    some ((-1 : Int32), σ)
    else
    if (f_c_isNumber a2) = (0 : Int32) then
    some ((-1 : Int32), σ)
    else
    if a3 < (1 : Int32) then
    some ((-1 : Int32), σ)
    else
    if a3 ≤ (9999 : Int32) then
    (rx_c (¬ a3 = 0) (
    let x3 : Int32 := ((a2 - a1) / a3) + (1 : Int32);
    if ((σ.1 76 13) * x3) ≤ (200 : Int32) then
    (rx_g (σ.1 76 8) 3 (
    let σ1 : rx_St := rx_si σ 82 (σ.1 76 8).toNatClampNeg a0;
    rx_g (σ1.1 76 8) 3 (
    let σ2 : rx_St := rx_si σ1 83 (σ1.1 76 8).toNatClampNeg a1;
    rx_g (σ2.1 76 8) 3 (
    let σ3 : rx_St := rx_si σ2 84 (σ2.1 76 8).toNatClampNeg a3;
    rx_g (σ3.1 76 8) 3 (
    let σ4 : rx_St := rx_si σ3 85 (σ3.1 76 8).toNatClampNeg x3;
    let σ5 : rx_St := rx_si σ4 76 8 ((σ4.1 76 8) + (1 : Int32));
    let σ6 : rx_St := rx_si σ5 76 13 ((σ5.1 76 13) * x3);
    (f_gri_forget σ6).bind fun y4 =>
    some (y4.1 76 13, y4))))))
    else
    some ((-1 : Int32), σ)))
    else
    some ((-1 : Int32), σ)
    else
    some ((-1 : Int32), σ))
def f_gri_turn_10 : Nat → Int32 → Int32 → Int32 → rx_St → Option (Int32)
  | 0, _, _, _, _ => none
  | n + 1, v2, v3, v4, σ =>
    if v4 ≤ v2 then
    (rx_g v2 3 (
    rx_c (¬ (f_j_max (σ.1 85 v2.toNatClampNeg) (1 : Int32)) = 0) (
    some (rx_irem v3 (f_j_max (σ.1 85 v2.toNatClampNeg) (1 : Int32))))))
    else
    (rx_g v4 3 (
    rx_c (¬ (f_j_max (σ.1 85 v4.toNatClampNeg) (1 : Int32)) = 0) (
    let x3 : Int32 := v3 / (f_j_max (σ.1 85 v4.toNatClampNeg) (1 : Int32));
    f_gri_turn_10 n v2 x3 (v4 + (-1 : Int32)) σ)))
def f_gri_turn (a0 : Int32) (a1 : Int32) (σ : rx_St) : Option (Int32) :=
  let x1 : Int32 := (σ.1 76 8) - (1 : Int32);
    f_gri_turn_10 rx_fu a1 a0 x1 σ
def f_gri_number (a0 : Int32) (a1 : Int32) (σ : rx_St) : Option (Int32) :=
  rx_g a1 3 (
    (f_gri_turn a0 a1 σ).bind fun y1 =>
    rx_g a1 3 (
    some ((σ.1 83 a1.toNatClampNeg) + (y1 * (σ.1 84 a1.toNatClampNeg)))))
def f_gri_restartAt_10 (w : Nat) : Nat → Int32 → Int32 → rx_St → Option (rx_St)
  | 0, _, _, _ => none
  | n + 1, v1, v3, σ =>
    if (σ.1 76 8) ≤ v3 then
    some σ
    else
    (rx_g v3 3 (
    (f_gri_number v1 v3 σ).bind fun y1 =>
    rx_g (σ.1 82 v3.toNatClampNeg) 6 (
    let σ1 : rx_St := rx_si σ 58 (σ.1 82 v3.toNatClampNeg).toNatClampNeg y1;
    f_gri_restartAt_10 w n v1 (v3 + (1 : Int32)) σ1)))
def f_gri_restartAt (w : Nat) (a0 : Int32) (a1 : Int32) (σ : rx_St) : Option (rx_St) :=
  (f_run_restart 0 w a1 σ).bind fun y1 =>
    f_gri_restartAt_10 w rx_fu a0 (0 : Int32) y1
def f_gri_meetsSeenOf_62 (k2 : Int32 → Int32 → rx_St → Option (Int32)) (v1 : Int32) (v2 : Int32) (σ : rx_St) : Option (Int32) :=
    k2 v1 (v2 + (1 : Int32)) σ
def f_gri_meetsSeenOf_2 : Nat → Int32 → Int32 → rx_St → Option (Int32)
  | 0, _, _, _ => none
  | n + 1, v1, v2, σ =>
    if (σ.1 76 2) ≤ v2 then
    some (1 : Int32)
    else
    (rx_g v2 8 (
    if (σ.1 77 v2.toNatClampNeg) = v1 then
    (rx_g v2 8 (
    rx_g v2 8 (
    (f_run_total 0 (σ.1 78 v2.toNatClampNeg) (σ.1 79 v2.toNatClampNeg) σ).bind fun y1 =>
    rx_g v2 8 (
    if y1 < (σ.1 80 v2.toNatClampNeg) then
    some (0 : Int32)
    else
    (rx_g v2 8 (
    if y1 ≤ (σ.1 81 v2.toNatClampNeg) then
    f_gri_meetsSeenOf_62 (f_gri_meetsSeenOf_2 n) v1 v2 σ
    else
    some (0 : Int32)))))))
    else
    f_gri_meetsSeenOf_62 (f_gri_meetsSeenOf_2 n) v1 v2 σ))
def f_gri_meetsSeenOf (a0 : Int32) (σ : rx_St) : Option (Int32) :=
  f_gri_meetsSeenOf_2 rx_fu a0 (0 : Int32) σ
def f_gri_meetsSeen_41 (w : Nat) : Nat → Int32 → Int32 → rx_St → Option (Int32 × rx_St)
  | 0, _, _, _ => none
  | n + 1, v3, v4, σ =>
    if v3 < v4 then
    some ((1 : Int32), σ)
    else
    ((f_run_goOn 0 w v4 σ).bind fun y1 =>
    (f_gri_meetsSeenOf v4 y1).bind fun y2 =>
    if y2 = (0 : Int32) then
    some ((0 : Int32), y1)
    else
    f_gri_meetsSeen_41 w n v3 (v4 + (1 : Int32)) y1)
def f_gri_meetsSeen_5 (w : Nat) : Nat → Int32 → Int32 → Int32 → Int32 → rx_St → Option (Int32 × rx_St)
  | 0, _, _, _, _, _ => none
  | n + 1, v1, v2, v3, v4, σ =>
    if (σ.1 76 2) ≤ v4 then
    ((f_gri_restartAt w v1 v2 σ).bind fun y1 =>
    f_gri_meetsSeen_41 w rx_fu v3 (0 : Int32) y1)
    else
    (rx_g v4 8 (
    let x2 : Int32 := f_j_max v3 (σ.1 77 v4.toNatClampNeg);
    f_gri_meetsSeen_5 w n v1 v2 x2 (v4 + (1 : Int32)) σ))
def f_gri_meetsSeen (w : Nat) (a0 : Int32) (a1 : Int32) (σ : rx_St) : Option (Int32 × rx_St) :=
  f_gri_meetsSeen_5 w rx_fu a0 a1 (0 : Int32) (0 : Int32) σ
def f_gri_trySeeds_78 (w : Nat) (k34 : Int32 → Int32 → rx_St → Option (rx_St)) (k41 : Int32 → Int32 → Int32 → rx_St → Option (rx_St)) (v1 : Int32) (v2 : Int32) (v3 : Int32) (σ : rx_St) : Option (rx_St) :=
    k41 v1 v2 (v3 + (1 : Int32)) σ
def f_gri_trySeeds_41 (w : Nat) (k34 : Int32 → Int32 → rx_St → Option (rx_St)) : Nat → Int32 → Int32 → Int32 → rx_St → Option (rx_St)
  | 0, _, _, _, _ => none
  | n + 1, v1, v2, v3, σ =>
    if (σ.1 76 13) ≤ v3 then
    (let σ1 : rx_St := rx_si σ 76 15 (v2 + (1 : Int32));
    k34 v1 (v2 + (1 : Int32)) σ1)
    else
    (rx_g v3 200 (
    if (σ.1 86 v3.toNatClampNeg) = v2 then
    ((f_gri_meetsSeen w v3 v2 σ).bind fun y1 =>
    if y1.1 = (0 : Int32) then
    f_gri_trySeeds_78 w k34 (f_gri_trySeeds_41 w k34 n) v1 v2 v3 y1.2
    else
    (rx_g v3 200 (
    rx_g v3 200 (
    let σ2 : rx_St := rx_si y1.2 86 v3.toNatClampNeg ((y1.2.1 86 v3.toNatClampNeg) + (1 : Int32));
    f_gri_trySeeds_78 w k34 (f_gri_trySeeds_41 w k34 n) v1 v2 v3 σ2))))
    else
    f_gri_trySeeds_78 w k34 (f_gri_trySeeds_41 w k34 n) v1 v2 v3 σ))
def f_gri_trySeeds_34 (w : Nat) : Nat → Int32 → Int32 → rx_St → Option (rx_St)
  | 0, _, _, _ => none
  | n + 1, v1, v2, σ =>
    if v1 ≤ v2 then
    some σ
    else
    f_gri_trySeeds_41 w (f_gri_trySeeds_34 w n) rx_fu v1 v2 (0 : Int32) σ
def f_gri_trySeeds_29 (w : Nat) (v1 : Int32) (σ : rx_St) : Option (rx_St) :=
    f_gri_trySeeds_34 w rx_fu v1 (σ.1 76 15) σ
def f_gri_trySeeds (w : Nat) (a0 : Int32) (σ : rx_St) : Option (rx_St) :=
  if (σ.1 76 16) = (σ.1 38 8) then
    f_gri_trySeeds_29 w a0 σ
    else
    ((f_gri_forget σ).bind fun y1 =>
    let σ1 : rx_St := rx_si y1 76 16 (y1.1 38 8);
    f_gri_trySeeds_29 w a0 σ1)
def f_gri_countMeeting_25 (k4 : Int32 → Int32 → Int32 → rx_St → Option (Int32)) (v1 : Int32) (v2 : Int32) (v3 : Int32) (σ : rx_St) : Option (Int32) :=
    k4 v1 v2 (v3 + (1 : Int32)) σ
def f_gri_countMeeting_4 : Nat → Int32 → Int32 → Int32 → rx_St → Option (Int32)
  | 0, _, _, _, _ => none
  | n + 1, v1, v2, v3, σ =>
    if (σ.1 76 13) ≤ v3 then
    some v2
    else
    (rx_g v3 200 (
    if (σ.1 86 v3.toNatClampNeg) < v1 then
    f_gri_countMeeting_25 (f_gri_countMeeting_4 n) v1 v2 v3 σ
    else
    f_gri_countMeeting_25 (f_gri_countMeeting_4 n) v1 (v2 + (1 : Int32)) v3 σ))
def f_gri_countMeeting (a0 : Int32) (σ : rx_St) : Option (Int32) :=
  f_gri_countMeeting_4 rx_fu a0 (0 : Int32) (0 : Int32) σ
def f_gri_meetingPoint_36 (k5 : Int32 → Int32 → Int32 → Int32 → rx_St → Option (Int32)) (v1 : Int32) (v2 : Int32) (v3 : Int32) (v4 : Int32) (σ : rx_St) : Option (Int32) :=
    k5 v1 v2 v3 (v4 + (1 : Int32)) σ
def f_gri_meetingPoint_5 : Nat → Int32 → Int32 → Int32 → Int32 → rx_St → Option (Int32)
  | 0, _, _, _, _, _ => none
  | n + 1, v1, v2, v3, v4, σ =>
    if (σ.1 76 13) ≤ v4 then
    some (-1 : Int32)
    else
    (rx_g v4 200 (
    if (σ.1 86 v4.toNatClampNeg) < v1 then
    f_gri_meetingPoint_36 (f_gri_meetingPoint_5 n) v1 v2 v3 v4 σ
    else
    if v3 = v2 then
    some v4
    else
    f_gri_meetingPoint_36 (f_gri_meetingPoint_5 n) v1 v2 (v3 + (1 : Int32)) v4 σ))
def f_gri_meetingPoint (a0 : Int32) (a1 : Int32) (σ : rx_St) : Option (Int32) :=
  f_gri_meetingPoint_5 rx_fu a0 a1 (0 : Int32) (0 : Int32) σ
def f_gri_untoldSpans_96 (k7 : Int32 → Int32 → Int32 → Int32 → rx_St → Option (Int32)) (v1 : Int32) (v2 : Int32) (v3 : Int32) (v4 : Int32) (σ : rx_St) : Option (Int32) :=
    k7 v1 v2 v3 (v4 + (1 : Int32)) σ
def f_gri_untoldSpans_88 (k7 : Int32 → Int32 → Int32 → Int32 → rx_St → Option (Int32)) (k30 : Int32 → Int32 → Int32 → Int32 → Int32 → rx_St → Option (Int32)) (v1 : Int32) (v2 : Int32) (v4 : Int32) (v5 : Int32) (s0 : Int32) (s1 : Int32) (σ : rx_St) : Option (Int32) :=
    k30 v1 v2 (s0 ||| s1) v4 (v5 + (1 : Int32)) σ
def f_gri_untoldSpans_63 (k7 : Int32 → Int32 → Int32 → Int32 → rx_St → Option (Int32)) (k30 : Int32 → Int32 → Int32 → Int32 → Int32 → rx_St → Option (Int32)) (v1 : Int32) (v3 : Int32) (v4 : Int32) (v5 : Int32) (v6 : Int32) (s0 : Int32) (s1 : Int32) (σ : rx_St) : Option (Int32) :=
    rx_g v5 3 (
    if v6 = ((σ.1 85 v5.toNatClampNeg) - (1 : Int32)) then
    f_gri_untoldSpans_88 k7 k30 v1 (s0 ||| s1) v4 v5 v3 (rx_ishl (1 : Int32) v5) σ
    else
    f_gri_untoldSpans_88 k7 k30 v1 (s0 ||| s1) v4 v5 v3 (0 : Int32) σ)
def f_gri_untoldSpans_30 (k7 : Int32 → Int32 → Int32 → Int32 → rx_St → Option (Int32)) : Nat → Int32 → Int32 → Int32 → Int32 → Int32 → rx_St → Option (Int32)
  | 0, _, _, _, _, _, _ => none
  | n + 1, v1, v2, v3, v4, v5, σ =>
    if (σ.1 76 8) ≤ v5 then
    f_gri_untoldSpans_96 k7 v1 v2 v3 v4 σ
    else
    ((f_gri_turn v4 v5 σ).bind fun y1 =>
    if y1 = (0 : Int32) then
    f_gri_untoldSpans_63 k7 (f_gri_untoldSpans_30 k7 n) v1 v3 v4 v5 y1 v2 (rx_ishl (1 : Int32) v5) σ
    else
    f_gri_untoldSpans_63 k7 (f_gri_untoldSpans_30 k7 n) v1 v3 v4 v5 y1 v2 (0 : Int32) σ)
def f_gri_untoldSpans_7 : Nat → Int32 → Int32 → Int32 → Int32 → rx_St → Option (Int32)
  | 0, _, _, _, _, _ => none
  | n + 1, v1, v2, v3, v4, σ =>
    if (σ.1 76 13) ≤ v4 then
    some (v2 &&& v3)
    else
    (rx_g v4 200 (
    if (σ.1 86 v4.toNatClampNeg) < v1 then
    f_gri_untoldSpans_96 (f_gri_untoldSpans_7 n) v1 v2 v3 v4 σ
    else
    f_gri_untoldSpans_30 (f_gri_untoldSpans_7 n) rx_fu v1 v2 v3 v4 (0 : Int32) σ))
def f_gri_untoldSpans (a0 : Int32) (σ : rx_St) : Option (Int32) :=
  f_gri_untoldSpans_7 rx_fu a0 (0 : Int32) (0 : Int32) (0 : Int32) σ
def f_gri_figureAt_21 (w : Nat) (v5 : Int32) (v6 : Int32) (σ : rx_St) : Option (Int32 × rx_St) :=
    (f_run_goOn 0 w v5 σ).bind fun y1 =>
    (f_run_total 0 (v6 / (6 : Int32)) (rx_irem v6 (6 : Int32)) y1).bind fun y2 =>
    some (y2, y1)
def f_gri_figureAt (w : Nat) (a0 : Int32) (a1 : Int32) (a2 : Int32) (a3 : Int32) (a4 : Int32) (a5 : Int32) (σ : rx_St) : Option (Int32 × rx_St) :=
  (f_gri_restartAt w a0 a1 σ).bind fun y1 =>
    if a2 < (0 : Int32) then
    f_gri_figureAt_21 w a4 a5 y1
    else
    (rx_g a2 6 (
    let σ1 : rx_St := rx_si y1 58 a2.toNatClampNeg a3;
    f_gri_figureAt_21 w a4 a5 σ1))
def f_gri_outermost_108 (w : Nat) (k7 : Int32 → Int32 → Int32 → Int32 → Int32 → Int32 → Int32 → Int32 → rx_St → Option (Int32 × rx_St)) (v1 : Int32) (v2 : Int32) (v3 : Int32) (v4 : Int32) (v5 : Int32) (v6 : Int32) (v7 : Int32) (v8 : Int32) (σ : rx_St) : Option (Int32 × rx_St) :=
    k7 v1 v2 v3 v4 v5 v6 v7 (v8 + (1 : Int32)) σ
def f_gri_outermost_102 (w : Nat) (k7 : Int32 → Int32 → Int32 → Int32 → Int32 → Int32 → Int32 → Int32 → rx_St → Option (Int32 × rx_St)) (k19 : Int32 → Int32 → Int32 → Int32 → Int32 → Int32 → Int32 → Int32 → Int32 → rx_St → Option (Int32 × rx_St)) (v1 : Int32) (v2 : Int32) (v3 : Int32) (v4 : Int32) (v5 : Int32) (v6 : Int32) (v7 : Int32) (v8 : Int32) (v9 : Int32) (σ : rx_St) : Option (Int32 × rx_St) :=
    k19 v1 v2 v3 v4 v5 v6 v7 v8 (v9 + (1 : Int32)) σ
def f_gri_outermost_98 (w : Nat) (k7 : Int32 → Int32 → Int32 → Int32 → Int32 → Int32 → Int32 → Int32 → rx_St → Option (Int32 × rx_St)) (k19 : Int32 → Int32 → Int32 → Int32 → Int32 → Int32 → Int32 → Int32 → Int32 → rx_St → Option (Int32 × rx_St)) (v1 : Int32) (v2 : Int32) (v3 : Int32) (v4 : Int32) (v5 : Int32) (v6 : Int32) (v8 : Int32) (v9 : Int32) (v10 : Int32) (σ : rx_St) : Option (Int32 × rx_St) :=
    f_gri_outermost_102 w k7 k19 v1 v2 v3 v4 v5 v6 v10 v8 v9 σ
def f_gri_outermost_84 (w : Nat) (k7 : Int32 → Int32 → Int32 → Int32 → Int32 → Int32 → Int32 → Int32 → rx_St → Option (Int32 × rx_St)) (k19 : Int32 → Int32 → Int32 → Int32 → Int32 → Int32 → Int32 → Int32 → Int32 → rx_St → Option (Int32 × rx_St)) (v1 : Int32) (v2 : Int32) (v3 : Int32) (v4 : Int32) (v5 : Int32) (v6 : Int32) (v7 : Int32) (v8 : Int32) (v9 : Int32) (v10 : Int32) (s0 : Int32) (σ : rx_St) : Option (Int32 × rx_St) :=
    if v7 = (-1000000000 : Int32) then
    f_gri_outermost_98 w k7 k19 v1 v2 v3 v4 v5 v6 v8 v9 v10 σ
    else
    if s0 = (0 : Int32) then
    f_gri_outermost_102 w k7 k19 v1 v2 v3 v4 v5 v6 v7 v8 v9 σ
    else
    f_gri_outermost_98 w k7 k19 v1 v2 v3 v4 v5 v6 v8 v9 v10 σ
def f_gri_outermost_19 (w : Nat) (k7 : Int32 → Int32 → Int32 → Int32 → Int32 → Int32 → Int32 → Int32 → rx_St → Option (Int32 × rx_St)) : Nat → Int32 → Int32 → Int32 → Int32 → Int32 → Int32 → Int32 → Int32 → Int32 → rx_St → Option (Int32 × rx_St)
  | 0, _, _, _, _, _, _, _, _, _, _ => none
  | n + 1, v1, v2, v3, v4, v5, v6, v7, v8, v9, σ =>
    if v1 ≤ v9 then
    f_gri_outermost_108 w k7 v1 v2 v3 v4 v5 v6 v7 v8 σ
    else
    (rx_g v8 200 (
    if (σ.1 86 v8.toNatClampNeg) < v1 then
    f_gri_outermost_108 w k7 v1 v2 v3 v4 v5 v6 v7 v8 σ
    else
    ((f_gri_figureAt w v8 v9 v2 v3 v4 v5 σ).bind fun y1 =>
    if v6 = (0 : Int32) then
    if v7 ≤ y1.1 then
    f_gri_outermost_84 w k7 (f_gri_outermost_19 w k7 n) v1 v2 v3 v4 v5 v6 v7 v8 v9 y1.1 (0 : Int32) y1.2
    else
    f_gri_outermost_84 w k7 (f_gri_outermost_19 w k7 n) v1 v2 v3 v4 v5 v6 v7 v8 v9 y1.1 (1 : Int32) y1.2
    else
    if y1.1 ≤ v7 then
    f_gri_outermost_84 w k7 (f_gri_outermost_19 w k7 n) v1 v2 v3 v4 v5 v6 v7 v8 v9 y1.1 (0 : Int32) y1.2
    else
    f_gri_outermost_84 w k7 (f_gri_outermost_19 w k7 n) v1 v2 v3 v4 v5 v6 v7 v8 v9 y1.1 (1 : Int32) y1.2)))
def f_gri_outermost_7 (w : Nat) : Nat → Int32 → Int32 → Int32 → Int32 → Int32 → Int32 → Int32 → Int32 → rx_St → Option (Int32 × rx_St)
  | 0, _, _, _, _, _, _, _, _, _ => none
  | n + 1, v1, v2, v3, v4, v5, v6, v7, v8, σ =>
    if (σ.1 76 13) ≤ v8 then
    some (v7, σ)
    else
    f_gri_outermost_19 w (f_gri_outermost_7 w n) rx_fu v1 v2 v3 v4 v5 v6 v7 v8 (0 : Int32) σ
def f_gri_outermost (w : Nat) (a0 : Int32) (a1 : Int32) (a2 : Int32) (a3 : Int32) (a4 : Int32) (a5 : Int32) (σ : rx_St) : Option (Int32 × rx_St) :=
  f_gri_outermost_7 w rx_fu a0 a1 a2 a3 a4 a5 (-1000000000 : Int32) (0 : Int32) σ
def f_gri_countMore_79 (w : Nat) (k6 : Int32 → Int32 → Int32 → Int32 → Int32 → Int32 → Int32 → rx_St → Option (Int32 × rx_St)) (v1 : Int32) (v2 : Int32) (v3 : Int32) (v4 : Int32) (v5 : Int32) (v6 : Int32) (v7 : Int32) (σ : rx_St) : Option (Int32 × rx_St) :=
    k6 v1 v2 v3 v4 v5 v6 (v7 + (1 : Int32)) σ
def f_gri_countMore_73 (w : Nat) (k6 : Int32 → Int32 → Int32 → Int32 → Int32 → Int32 → Int32 → rx_St → Option (Int32 × rx_St)) (k18 : Int32 → Int32 → Int32 → Int32 → Int32 → Int32 → Int32 → Int32 → rx_St → Option (Int32 × rx_St)) (v1 : Int32) (v2 : Int32) (v3 : Int32) (v4 : Int32) (v5 : Int32) (v6 : Int32) (v7 : Int32) (v8 : Int32) (σ : rx_St) : Option (Int32 × rx_St) :=
    k18 v1 v2 v3 v4 v5 v6 v7 (v8 + (1 : Int32)) σ
def f_gri_countMore_18 (w : Nat) (k6 : Int32 → Int32 → Int32 → Int32 → Int32 → Int32 → Int32 → rx_St → Option (Int32 × rx_St)) : Nat → Int32 → Int32 → Int32 → Int32 → Int32 → Int32 → Int32 → Int32 → rx_St → Option (Int32 × rx_St)
  | 0, _, _, _, _, _, _, _, _, _ => none
  | n + 1, v1, v2, v3, v4, v5, v6, v7, v8, σ =>
    if v1 ≤ v8 then
    f_gri_countMore_79 w k6 v1 v2 v3 v4 v5 v6 v7 σ
    else
    (rx_g v7 200 (
    if (σ.1 86 v7.toNatClampNeg) < v1 then
    f_gri_countMore_79 w k6 v1 v2 v3 v4 v5 v6 v7 σ
    else
    ((f_gri_figureAt w v7 v8 (-1 : Int32) (0 : Int32) v4 v5 σ).bind fun y1 =>
    (f_gri_figureAt w v7 v8 v2 v3 v4 v5 y1.2).bind fun y2 =>
    if y2.1 ≤ y1.1 then
    f_gri_countMore_73 w k6 (f_gri_countMore_18 w k6 n) v1 v2 v3 v4 v5 v6 v7 v8 y2.2
    else
    f_gri_countMore_73 w k6 (f_gri_countMore_18 w k6 n) v1 v2 v3 v4 v5 (v6 + (1 : Int32)) v7 v8 y2.2)))
def f_gri_countMore_6 (w : Nat) : Nat → Int32 → Int32 → Int32 → Int32 → Int32 → Int32 → Int32 → rx_St → Option (Int32 × rx_St)
  | 0, _, _, _, _, _, _, _, _ => none
  | n + 1, v1, v2, v3, v4, v5, v6, v7, σ =>
    if (σ.1 76 13) ≤ v7 then
    some (v6, σ)
    else
    f_gri_countMore_18 w (f_gri_countMore_6 w n) rx_fu v1 v2 v3 v4 v5 v6 v7 (0 : Int32) σ
def f_gri_countMore (w : Nat) (a0 : Int32) (a1 : Int32) (a2 : Int32) (a3 : Int32) (a4 : Int32) (σ : rx_St) : Option (Int32 × rx_St) :=
  f_gri_countMore_6 w rx_fu a0 a1 a2 a3 a4 (0 : Int32) (0 : Int32) σ
def f_pla_rows (a0 : Int32) : Int32 :=
  (rx_ishl (1 : Int32) a0)
def f_pla_hasEffects (a0 : Int32) (a1 : Int32) : Int32 :=
  if a0 < (1 : Int32) then
    (0 : Int32)
    else
    if (3 : Int32) < a0 then
    (0 : Int32)
    else
    if a1 < (0 : Int32) then
    (0 : Int32)
    else
    if (rx_ishl (1 : Int32) (f_pla_rows a0)) ≤ a1 then
    (0 : Int32)
    else
    if (a1 &&& (1 : Int32)) = (0 : Int32) then
    (1 : Int32)
    else
    (0 : Int32)
def f_pla_hasPlan (a0 : Int32) (a1 : Int32) : Int32 :=
  if a0 < (1 : Int32) then
    (0 : Int32)
    else
    if (3 : Int32) < a0 then
    (0 : Int32)
    else
    if a1 < (1 : Int32) then
    (0 : Int32)
    else
    if (rx_ishl (1 : Int32) (f_pla_rows a0)) ≤ a1 then
    (0 : Int32)
    else
    (1 : Int32)
def f_pla_effectAt (a0 : Int32) (a1 : Int32) : Int32 :=
  if ((f_j_bitCount (a0 &&& (a1 ^^^ (-1 : Int32)))) &&& (1 : Int32)) = (0 : Int32) then
    (1 : Int32)
    else
    (-1 : Int32)
def f_pla_sumOfProducts_42 (k6 : Int32 → Int32 → Int32 → Int32 → Int32 → Int32 → Option (Int32)) (v0 : Int32) (v1 : Int32) (v2 : Int32) (v3 : Int32) (v4 : Int32) (v5 : Int32) : Option (Int32) :=
    k6 v0 v1 v2 v3 v4 (v5 + (1 : Int32))
def f_pla_sumOfProducts_6 : Nat → Int32 → Int32 → Int32 → Int32 → Int32 → Int32 → Option (Int32)
  | 0, _, _, _, _, _, _ => none
  | n + 1, v0, v1, v2, v3, v4, v5 =>
    if (f_pla_rows v0) ≤ v5 then
    some v4
    else
    if ((rx_ishr v1 v5) &&& (1 : Int32)) = (0 : Int32) then
    f_pla_sumOfProducts_42 (f_pla_sumOfProducts_6 n) v0 v1 v2 v3 v4 v5
    else
    (let x1 : Int32 := v4 + ((f_pla_effectAt v2 v5) * (f_pla_effectAt v3 v5));
    f_pla_sumOfProducts_42 (f_pla_sumOfProducts_6 n) v0 v1 v2 v3 x1 v5)
def f_pla_sumOfProducts (a0 : Int32) (a1 : Int32) (a2 : Int32) (a3 : Int32) : Option (Int32) :=
  f_pla_sumOfProducts_6 rx_fu a0 a1 a2 a3 (0 : Int32) (0 : Int32)
def f_pla_isTelling_70 (k7 : Int32 → Int32 → Int32 → Int32 → Option (Int32)) (k19 : Int32 → Int32 → Int32 → Int32 → Int32 → Option (Int32)) (v0 : Int32) (v1 : Int32) (v3 : Int32) (v4 : Int32) (v5 : Int32) : Option (Int32) :=
    k19 v0 v1 v3 v4 (v5 + (1 : Int32))
def f_pla_isTelling_49 (k7 : Int32 → Int32 → Int32 → Int32 → Option (Int32)) (k19 : Int32 → Int32 → Int32 → Int32 → Int32 → Option (Int32)) (v0 : Int32) (v1 : Int32) (v3 : Int32) (v4 : Int32) (v5 : Int32) (s0 : Int32) : Option (Int32) :=
    if s0 = (0 : Int32) then
    f_pla_isTelling_70 k7 k19 v0 v1 v3 v4 v5
    else
    ((f_pla_sumOfProducts v0 v1 v4 v5).bind fun y1 =>
    if y1 = (0 : Int32) then
    f_pla_isTelling_70 k7 k19 v0 v1 v3 v4 v5
    else
    some (0 : Int32))
def f_pla_isTelling_48 (k7 : Int32 → Int32 → Int32 → Int32 → Option (Int32)) (k19 : Int32 → Int32 → Int32 → Int32 → Int32 → Option (Int32)) (v0 : Int32) (v1 : Int32) (v3 : Int32) (v4 : Int32) (v5 : Int32) : Option (Int32) :=
    f_pla_isTelling_49 k7 k19 v0 v1 v3 v4 v5 (0 : Int32)
def f_pla_isTelling_19 (k7 : Int32 → Int32 → Int32 → Int32 → Option (Int32)) : Nat → Int32 → Int32 → Int32 → Int32 → Int32 → Option (Int32)
  | 0, _, _, _, _, _ => none
  | n + 1, v0, v1, v3, v4, v5 =>
    if v4 ≤ v5 then
    k7 v0 v1 v3 (v4 + (1 : Int32))
    else
    if ((rx_ishr v3 v4) &&& (1 : Int32)) = (0 : Int32) then
    f_pla_isTelling_48 k7 (f_pla_isTelling_19 k7 n) v0 v1 v3 v4 v5
    else
    if ((rx_ishr v3 v5) &&& (1 : Int32)) = (0 : Int32) then
    f_pla_isTelling_48 k7 (f_pla_isTelling_19 k7 n) v0 v1 v3 v4 v5
    else
    f_pla_isTelling_49 k7 (f_pla_isTelling_19 k7 n) v0 v1 v3 v4 v5 (1 : Int32)
def f_pla_isTelling_7 : Nat → Int32 → Int32 → Int32 → Int32 → Option (Int32)
  | 0, _, _, _, _ => none
  | n + 1, v0, v1, v3, v4 =>
    if (f_pla_rows v0) ≤ v4 then
    some (1 : Int32)
    else
    f_pla_isTelling_19 (f_pla_isTelling_7 n) rx_fu v0 v1 v3 v4 (0 : Int32)
def f_pla_isTelling (a0 : Int32) (a1 : Int32) (a2 : Int32) : Option (Int32) :=
  let x1 : Int32 := a2 ||| (1 : Int32);
    f_pla_isTelling_7 rx_fu a0 a1 x1 (1 : Int32)
def f_pla_fewestRows_53 (k5 : Int32 → Int32 → Int32 → Int32 → Option (Int32)) (v0 : Int32) (v1 : Int32) (v2 : Int32) (v3 : Int32) : Option (Int32) :=
    k5 v0 v1 v2 (v3 + (1 : Int32))
def f_pla_fewestRows_35 (k5 : Int32 → Int32 → Int32 → Int32 → Option (Int32)) (v0 : Int32) (v1 : Int32) (v2 : Int32) (v3 : Int32) (s0 : Int32) : Option (Int32) :=
    if s0 = (0 : Int32) then
    f_pla_fewestRows_53 k5 v0 v1 v2 v3
    else
    ((f_pla_isTelling v0 v3 v1).bind fun y1 =>
    if y1 = (0 : Int32) then
    f_pla_fewestRows_53 k5 v0 v1 v2 v3
    else
    f_pla_fewestRows_53 k5 v0 v1 v3 v3)
def f_pla_fewestRows_30 (k5 : Int32 → Int32 → Int32 → Int32 → Option (Int32)) (v0 : Int32) (v1 : Int32) (v2 : Int32) (v3 : Int32) : Option (Int32) :=
    f_pla_fewestRows_35 k5 v0 v1 v2 v3 (1 : Int32)
def f_pla_fewestRows_5 : Nat → Int32 → Int32 → Int32 → Int32 → Option (Int32)
  | 0, _, _, _, _ => none
  | n + 1, v0, v1, v2, v3 =>
    if (rx_ishl (1 : Int32) (f_pla_rows v0)) ≤ v3 then
    some v2
    else
    if v2 < (0 : Int32) then
    f_pla_fewestRows_30 (f_pla_fewestRows_5 n) v0 v1 v2 v3
    else
    if (f_j_bitCount v2) ≤ (f_j_bitCount v3) then
    f_pla_fewestRows_35 (f_pla_fewestRows_5 n) v0 v1 v2 v3 (0 : Int32)
    else
    f_pla_fewestRows_30 (f_pla_fewestRows_5 n) v0 v1 v2 v3
def f_pla_fewestRows (a0 : Int32) (a1 : Int32) : Option (Int32) :=
  f_pla_fewestRows_5 rx_fu a0 a1 (-2 : Int32) (1 : Int32)
def f_wor_empty (w : Nat) (σ : rx_St) : Option (rx_St) :=
  let σ1 : rx_St := rx_si σ (7 + 14 * w) 0 (0 : Int32);
    let σ2 : rx_St := rx_si σ1 (7 + 14 * w) 3 (0 : Int32);
    let σ3 : rx_St := rx_si σ2 (7 + 14 * w) 12 (0 : Int32);
    let σ4 : rx_St := rx_si σ3 (7 + 14 * w) 13 (0 : Int32);
    some σ4
def f_rea_next (σ : rx_St) : Option (Int32) :=
  if (σ.1 35 3) = (0 : Int32) then
    if (502 : Int32) ≤ (σ.1 35 2) then
    some (38 : Int32)
    else
    (rx_g (σ.1 35 2) 502 (
    some (σ.1 3 (σ.1 35 2).toNatClampNeg)))
    else
    some (38 : Int32)
def f_rea_needRoom (a0 : Int32) (a1 : Int32) (σ : rx_St) : Option (rx_St) :=
  if (σ.1 35 3) = (0 : Int32) then
    if a0 < a1 then
    some σ
    else
    (let σ1 : rx_St := rx_si σ 35 3 (2 : Int32);
    some σ1)
    else
    some σ
def f_rea_take (a0 : Int32) (σ : rx_St) : Option (Int32 × rx_St) :=
  if (σ.1 35 3) = (0 : Int32) then
    ((f_rea_next σ).bind fun y1 =>
    if y1 = a0 then
    if (σ.1 35 2) < (500 : Int32) then
    (let σ1 : rx_St := rx_si σ 35 2 ((σ.1 35 2) + (1 : Int32));
    some (σ.1 35 2, σ1))
    else
    (let σ2 : rx_St := rx_si σ 35 3 (2 : Int32);
    some (σ.1 35 2, σ2))
    else
    (let σ3 : rx_St := rx_si σ 35 3 (1 : Int32);
    some (σ.1 35 2, σ3)))
    else
    some (σ.1 35 2, σ)
def f_wor_addSetting (w : Nat) (a0 : Int32) (a1 : Int32) (σ : rx_St) : Option (rx_St) :=
  if (6 : Int32) ≤ (σ.1 (7 + 14 * w) 0) then
    some σ
    else
    (rx_g (σ.1 (7 + 14 * w) 0) 6 (
    let σ1 : rx_St := rx_si σ (9 + 14 * w) (σ.1 (7 + 14 * w) 0).toNatClampNeg a0;
    rx_g (σ1.1 (7 + 14 * w) 0) 6 (
    let σ2 : rx_St := rx_si σ1 (8 + 14 * w) (σ1.1 (7 + 14 * w) 0).toNatClampNeg a1;
    let σ3 : rx_St := rx_si σ2 (7 + 14 * w) 0 ((σ2.1 (7 + 14 * w) 0) + (1 : Int32));
    some σ3)))
def f_rea_parseSetting (w : Nat) (σ : rx_St) : Option (rx_St) :=
  (f_rea_needRoom (σ.1 (7 + 14 * w) 0) (6 : Int32) σ).bind fun y1 =>
    (f_rea_take (0 : Int32) y1).bind fun y2 =>
    (f_rea_take (23 : Int32) y2.2).bind fun y3 =>
    (f_rea_take (26 : Int32) y3.2).bind fun y4 =>
    (f_rea_take (24 : Int32) y4.2).bind fun y5 =>
    (f_rea_take (25 : Int32) y5.2).bind fun y6 =>
    if (y6.2.1 35 3) = (0 : Int32) then
    ((f_tap_valueOf y5.1 y6.2).bind fun y7 =>
    (f_wor_addSetting w y3.1 y7.toInt32 y6.2).bind fun y8 =>
    some y8)
    else
    some y6.2
def f_wor_addKind (w : Nat) (a0 : Int32) (σ : rx_St) : Option (rx_St) :=
  if (5 : Int32) ≤ (σ.1 (7 + 14 * w) 3) then
    some σ
    else
    (rx_g (σ.1 (7 + 14 * w) 3) 5 (
    let σ1 : rx_St := rx_si σ (10 + 14 * w) (σ.1 (7 + 14 * w) 3).toNatClampNeg a0;
    rx_g (σ1.1 (7 + 14 * w) 3) 5 (
    let σ2 : rx_St := rx_si σ1 (11 + 14 * w) (σ1.1 (7 + 14 * w) 3).toNatClampNeg (0 : Int32);
    rx_g (σ2.1 (7 + 14 * w) 3) 5 (
    let σ3 : rx_St := rx_si σ2 (12 + 14 * w) (σ2.1 (7 + 14 * w) 3).toNatClampNeg (0 : Int32);
    rx_g (σ3.1 (7 + 14 * w) 3) 5 (
    let σ4 : rx_St := rx_si σ3 (16 + 14 * w) (σ3.1 (7 + 14 * w) 3).toNatClampNeg (σ3.1 (7 + 14 * w) 12);
    rx_g (σ4.1 (7 + 14 * w) 3) 5 (
    let σ5 : rx_St := rx_si σ4 (17 + 14 * w) (σ4.1 (7 + 14 * w) 3).toNatClampNeg (σ4.1 (7 + 14 * w) 12);
    let σ6 : rx_St := rx_si σ5 (7 + 14 * w) 3 ((σ5.1 (7 + 14 * w) 3) + (1 : Int32));
    some σ6))))))
def f_rea_openKind (w : Nat) (σ : rx_St) : Option (rx_St) :=
  (f_rea_needRoom (σ.1 (7 + 14 * w) 3) (5 : Int32) σ).bind fun y1 =>
    (f_rea_take (1 : Int32) y1).bind fun y2 =>
    (f_rea_take (23 : Int32) y2.2).bind fun y3 =>
    if (y3.2.1 35 3) = (0 : Int32) then
    (let σ1 : rx_St := rx_si y3.2 35 4 (y3.2.1 (7 + 14 * w) 3);
    (f_wor_addKind w y3.1 σ1).bind fun y4 =>
    some y4)
    else
    some y3.2
def f_wor_addVar (w : Nat) (a0 : Int32) (a1 : Int32) (a2 : Int32) (a3 : Int32) (σ : rx_St) : Option (rx_St) :=
  if (f_wor_hasKind w a0 σ) = (0 : Int32) then
    some σ
    else
    (rx_g a0 5 (
    if (6 : Int32) ≤ (σ.1 (11 + 14 * w) a0.toNatClampNeg) then
    some σ
    else
    (rx_g a0 5 (
    let x1 : Int32 := (a0 * (6 : Int32)) + (σ.1 (11 + 14 * w) a0.toNatClampNeg);
    rx_g x1 30 (
    let σ1 : rx_St := rx_si σ (14 + 14 * w) x1.toNatClampNeg a1;
    rx_g x1 30 (
    let σ2 : rx_St := rx_si σ1 (13 + 14 * w) x1.toNatClampNeg a2;
    rx_g x1 30 (
    let σ3 : rx_St := rx_si σ2 (15 + 14 * w) x1.toNatClampNeg (vp_nar .boolean a3);
    rx_g a0 5 (
    rx_g a0 5 (
    let σ4 : rx_St := rx_si σ3 (11 + 14 * w) a0.toNatClampNeg ((σ3.1 (11 + 14 * w) a0.toNatClampNeg) + (1 : Int32));
    some σ4)))))))))
def f_rea_parseHas_137 (w : Nat) (v1 : Int32) (s1 : Int32) (s2 : Int32) (s3 : Int32) (σ : rx_St) : Option (rx_St) :=
    (f_wor_addVar w s1 s2 s3 v1 σ).bind fun y1 =>
    some y1
def f_rea_parseHas_86 (w : Nat) (v1 : Int32) (v2 : Int32) (v3 : Int32) (σ : rx_St) : Option (rx_St) :=
    (f_rea_take (24 : Int32) σ).bind fun y1 =>
    (f_tap_valueOf y1.1 y1.2).bind fun y2 =>
    (f_rea_take (25 : Int32) y1.2).bind fun y3 =>
    if (y3.2.1 35 3) = (0 : Int32) then
    if v3 = (0 : Int32) then
    f_rea_parseHas_137 w v1 (y3.2.1 35 4) v2 y2.toInt32 y3.2
    else
    f_rea_parseHas_137 w v1 (y3.2.1 35 4) v2 (-y2.toInt32) y3.2
    else
    some y3.2
def f_rea_parseHas_74 (w : Nat) (v1 : Int32) (v2 : Int32) (s0 : Int32) (σ : rx_St) : Option (rx_St) :=
    if s0 = (0 : Int32) then
    f_rea_parseHas_86 w v1 v2 s0 σ
    else
    ((f_rea_take (28 : Int32) σ).bind fun y1 =>
    f_rea_parseHas_86 w v1 v2 s0 y1.2)
def f_rea_parseHas_42 (w : Nat) (v1 : Int32) (s1 : Int32) (σ : rx_St) : Option (rx_St) :=
    (f_rea_take s1 σ).bind fun y1 =>
    (f_rea_take (23 : Int32) y1.2).bind fun y2 =>
    (f_rea_take (26 : Int32) y2.2).bind fun y3 =>
    (f_rea_next y3.2).bind fun y4 =>
    if y4 = (28 : Int32) then
    f_rea_parseHas_74 w v1 y2.1 (1 : Int32) y3.2
    else
    f_rea_parseHas_74 w v1 y2.1 (0 : Int32) y3.2
def f_rea_parseHas_31 (w : Nat) (s0 : Int32) (σ : rx_St) : Option (rx_St) :=
    if s0 = (0 : Int32) then
    f_rea_parseHas_42 w s0 (3 : Int32) σ
    else
    f_rea_parseHas_42 w s0 (4 : Int32) σ
def f_rea_parseHas (w : Nat) (σ : rx_St) : Option (rx_St) :=
  rx_g (σ.1 35 4) 5 (
    (f_rea_needRoom (σ.1 (11 + 14 * w) (σ.1 35 4).toNatClampNeg) (6 : Int32) σ).bind fun y1 =>
    (f_rea_next y1).bind fun y2 =>
    if y2 = (4 : Int32) then
    f_rea_parseHas_31 w (1 : Int32) y1
    else
    f_rea_parseHas_31 w (0 : Int32) y1)
def f_rea_await (a0 : Int32) (σ : rx_St) : Option (rx_St) :=
  if (21 : Int32) ≤ (σ.1 35 6) then
    some σ
    else
    (rx_g (σ.1 35 6) 21 (
    let σ1 : rx_St := rx_si σ 36 (σ.1 35 6).toNatClampNeg a0;
    let σ2 : rx_St := rx_si σ1 35 6 ((σ1.1 35 6) + (1 : Int32));
    some σ2))
def f_wor_emit_78 (w : Nat) (σ : rx_St) : Option (rx_St) :=
    let σ1 : rx_St := rx_si σ (7 + 14 * w) 13 (1 : Int32);
    some σ1
def f_wor_emit_52 (w : Nat) (v1 : Int32) (σ : rx_St) : Option (rx_St) :=
    if (σ.1 (7 + 14 * w) 13) = (0 : Int32) then
    if v1 = (18 : Int32) then
    f_wor_emit_78 w σ
    else
    if v1 = (21 : Int32) then
    f_wor_emit_78 w σ
    else
    if v1 = (22 : Int32) then
    f_wor_emit_78 w σ
    else
    (let σ1 : rx_St := rx_si σ (7 + 14 * w) 13 (0 : Int32);
    some σ1)
    else
    f_wor_emit_78 w σ
def f_wor_emit (w : Nat) (a0 : Int32) (a1 : Int32) (a2 : Int32) (σ : rx_St) : Option (rx_St) :=
  if (500 : Int32) ≤ (σ.1 (7 + 14 * w) 12) then
    f_wor_emit_52 w a0 σ
    else
    (rx_g (σ.1 (7 + 14 * w) 12) 500 (
    let σ1 : rx_St := rx_si σ (18 + 14 * w) (σ.1 (7 + 14 * w) 12).toNatClampNeg a0;
    rx_g (σ1.1 (7 + 14 * w) 12) 500 (
    let σ2 : rx_St := rx_si σ1 (19 + 14 * w) (σ1.1 (7 + 14 * w) 12).toNatClampNeg a1;
    rx_g (σ2.1 (7 + 14 * w) 12) 500 (
    let σ3 : rx_St := rx_si σ2 (20 + 14 * w) (σ2.1 (7 + 14 * w) 12).toNatClampNeg a2;
    let σ4 : rx_St := rx_si σ3 (7 + 14 * w) 12 ((σ3.1 (7 + 14 * w) 12) + (1 : Int32));
    f_wor_emit_52 w a0 σ4))))
def f_rea_parseUnit_79 (w : Nat) (v1 : Int32) (σ : rx_St) : Option (rx_St) :=
    (f_rea_take v1 σ).bind fun y1 =>
    (f_wor_emit w v1 y1.1 (0 : Int32) y1.2).bind fun y2 =>
    some y2
def f_rea_parseUnit (w : Nat) (σ : rx_St) : Option (rx_St) :=
  (f_rea_next σ).bind fun y1 =>
    if y1 = (17 : Int32) then
    f_rea_parseUnit_79 w y1 σ
    else
    if y1 = (18 : Int32) then
    f_rea_parseUnit_79 w y1 σ
    else
    if y1 = (19 : Int32) then
    f_rea_parseUnit_79 w y1 σ
    else
    if y1 = (20 : Int32) then
    ((f_rea_take (20 : Int32) σ).bind fun y13 =>
    (f_rea_take (24 : Int32) y13.2).bind fun y14 =>
    (f_wor_emit w (20 : Int32) y14.1 (0 : Int32) y14.2).bind fun y15 =>
    some y15)
    else
    if y1 = (21 : Int32) then
    ((f_rea_take (21 : Int32) σ).bind fun y9 =>
    (f_rea_take (23 : Int32) y9.2).bind fun y10 =>
    (f_rea_take (23 : Int32) y10.2).bind fun y11 =>
    (f_wor_emit w (21 : Int32) y10.1 y11.1 y11.2).bind fun y12 =>
    some y12)
    else
    if y1 = (22 : Int32) then
    ((f_rea_take (22 : Int32) σ).bind fun y6 =>
    (f_rea_take (23 : Int32) y6.2).bind fun y7 =>
    (f_wor_emit w (22 : Int32) y7.1 (0 : Int32) y7.2).bind fun y8 =>
    some y8)
    else
    if y1 = (23 : Int32) then
    f_rea_parseUnit_79 w y1 σ
    else
    if y1 = (24 : Int32) then
    ((f_rea_take (24 : Int32) σ).bind fun y3 =>
    (f_tap_valueOf y3.1 y3.2).bind fun y4 =>
    (f_wor_emit w (24 : Int32) y4.toInt32 (0 : Int32) y3.2).bind fun y5 =>
    some y5)
    else
    ((f_rea_take (23 : Int32) σ).bind fun y2 =>
    some y2.2)
def f_rea_emitWaiting_48 (w : Nat) (k0 : Int32 → rx_St → Option (rx_St)) (v1 : Int32) (v2 : Int32) (s0 : Int32) (σ : rx_St) : Option (rx_St) :=
    if v2 = (35 : Int32) then
    some σ
    else
    if s0 = (0 : Int32) then
    some σ
    else
    ((f_wor_emit w v2 (0 : Int32) (0 : Int32) σ).bind fun y1 =>
    let σ1 : rx_St := rx_si y1 35 6 ((y1.1 35 6) - (1 : Int32));
    k0 v1 σ1)
def f_rea_emitWaiting_43 (w : Nat) (k0 : Int32 → rx_St → Option (rx_St)) (v1 : Int32) (v2 : Int32) (σ : rx_St) : Option (rx_St) :=
    f_rea_emitWaiting_48 w k0 v1 v2 (1 : Int32) σ
def f_rea_emitWaiting_0 (w : Nat) : Nat → Int32 → rx_St → Option (rx_St)
  | 0, _, _ => none
  | n + 1, v1, σ =>
    if (σ.1 35 6) ≤ (0 : Int32) then
    some σ
    else
    if (21 : Int32) < (σ.1 35 6) then
    some σ
    else
    (rx_g ((σ.1 35 6) - (1 : Int32)) 21 (
    let x1 : Int32 := σ.1 36 ((σ.1 35 6) - (1 : Int32)).toNatClampNeg;
    if (29 : Int32) ≤ x1 then
    f_rea_emitWaiting_43 w (f_rea_emitWaiting_0 w n) v1 x1 σ
    else
    if (28 : Int32) < v1 then
    f_rea_emitWaiting_48 w (f_rea_emitWaiting_0 w n) v1 x1 (0 : Int32) σ
    else
    f_rea_emitWaiting_43 w (f_rea_emitWaiting_0 w n) v1 x1 σ))
def f_rea_emitWaiting (w : Nat) (a0 : Int32) (σ : rx_St) : Option (rx_St) :=
  f_rea_emitWaiting_0 w rx_fu a0 σ
def f_rea_parseE_188 (w : Nat) (σ : rx_St) : Option (rx_St) :=
    (f_rea_emitWaiting w (27 : Int32) σ).bind fun y1 =>
    some y1
def f_rea_parseE_172 (w : Nat) (v1 : Int32) (σ : rx_St) : Option (rx_St) :=
    if (σ.1 35 3) = (0 : Int32) then
    if v1 ≤ (0 : Int32) then
    f_rea_parseE_188 w σ
    else
    (let σ1 : rx_St := rx_si σ 35 3 (1 : Int32);
    f_rea_parseE_188 w σ1)
    else
    f_rea_parseE_188 w σ
def f_rea_parseE_130 (w : Nat) (k9 : Int32 → Int32 → rx_St → Option (rx_St)) (v1 : Int32) (v2 : Int32) (σ : rx_St) : Option (rx_St) :=
    (f_rea_next σ).bind fun y1 =>
    if y1 < (27 : Int32) then
    f_rea_parseE_172 w v1 σ
    else
    if y1 ≤ (30 : Int32) then
    ((f_rea_emitWaiting w y1 σ).bind fun y2 =>
    (f_rea_take y1 y2).bind fun y3 =>
    (f_rea_await y1 y3.2).bind fun y4 =>
    k9 v1 (v2 + (1 : Int32)) y4)
    else
    f_rea_parseE_172 w v1 σ
def f_rea_parseE_75 (w : Nat) (k9 : Int32 → Int32 → rx_St → Option (rx_St)) : Nat → Int32 → Int32 → Int32 → rx_St → Option (rx_St)
  | 0, _, _, _, _ => none
  | n + 1, v1, v2, v3, σ =>
    if (6 : Int32) < v3 then
    f_rea_parseE_130 w k9 v1 v2 σ
    else
    if v1 ≤ (0 : Int32) then
    f_rea_parseE_130 w k9 v1 v2 σ
    else
    ((f_rea_next σ).bind fun y1 =>
    if y1 = (36 : Int32) then
    ((f_rea_take (36 : Int32) σ).bind fun y2 =>
    (f_rea_emitWaiting w (27 : Int32) y2.2).bind fun y3 =>
    let σ1 : rx_St := rx_si y3 35 6 (f_j_max ((y3.1 35 6) - (1 : Int32)) (0 : Int32));
    f_rea_parseE_75 w k9 n (v1 + (-1 : Int32)) v2 (v3 + (1 : Int32)) σ1)
    else
    f_rea_parseE_130 w k9 v1 v2 σ)
def f_rea_parseE_69 (w : Nat) (k9 : Int32 → Int32 → rx_St → Option (rx_St)) (v1 : Int32) (v2 : Int32) (σ : rx_St) : Option (rx_St) :=
    (f_rea_parseUnit w σ).bind fun y1 =>
    f_rea_parseE_75 w k9 rx_fu v1 v2 (0 : Int32) y1
def f_rea_parseE_25 (w : Nat) (k9 : Int32 → Int32 → rx_St → Option (rx_St)) : Nat → Int32 → Int32 → Int32 → rx_St → Option (rx_St)
  | 0, _, _, _, _ => none
  | n + 1, v1, v2, v3, σ =>
    if (6 : Int32) < v3 then
    f_rea_parseE_69 w k9 v1 v2 σ
    else
    ((f_rea_next σ).bind fun y1 =>
    if y1 = (35 : Int32) then
    ((f_rea_needRoom v1 (6 : Int32) σ).bind fun y2 =>
    (f_rea_take (35 : Int32) y2).bind fun y3 =>
    (f_rea_await (35 : Int32) y3.2).bind fun y4 =>
    f_rea_parseE_25 w k9 n (v1 + (1 : Int32)) v2 (v3 + (1 : Int32)) y4)
    else
    f_rea_parseE_69 w k9 v1 v2 σ)
def f_rea_parseE_9 (w : Nat) : Nat → Int32 → Int32 → rx_St → Option (rx_St)
  | 0, _, _, _ => none
  | n + 1, v1, v2, σ =>
    if (500 : Int32) ≤ v2 then
    f_rea_parseE_172 w v1 σ
    else
    if (σ.1 35 3) = (0 : Int32) then
    f_rea_parseE_25 w (f_rea_parseE_9 w n) rx_fu v1 v2 (0 : Int32) σ
    else
    f_rea_parseE_172 w v1 σ
def f_rea_parseE (w : Nat) (σ : rx_St) : Option (rx_St) :=
  let σ1 : rx_St := rx_si σ 35 6 (0 : Int32);
    f_rea_parseE_9 w rx_fu (0 : Int32) (0 : Int32) σ1
def f_rea_parseLit_64 (w : Nat) (v1 : Int32) (v2 : Int32) (s1 : Int32) (σ : rx_St) : Option (rx_St) :=
    (f_rea_take s1 σ).bind fun y1 =>
    (f_rea_parseE w y1.2).bind fun y2 =>
    (f_wor_emit w v2 (v1 &&& (1 : Int32)) (0 : Int32) y2).bind fun y3 =>
    some y3
def f_rea_parseLit_62 (w : Nat) (v1 : Int32) (v2 : Int32) (σ : rx_St) : Option (rx_St) :=
    f_rea_parseLit_64 w v1 v2 (31 : Int32) σ
def f_rea_parseLit_36 (w : Nat) (v1 : Int32) (σ : rx_St) : Option (rx_St) :=
    (f_rea_parseE w σ).bind fun y1 =>
    (f_rea_next y1).bind fun y2 =>
    if y2 < (31 : Int32) then
    f_rea_parseLit_62 w v1 y2 y1
    else
    if (34 : Int32) < y2 then
    f_rea_parseLit_62 w v1 y2 y1
    else
    f_rea_parseLit_64 w v1 y2 y2 y1
def f_rea_parseLit_4 (w : Nat) : Nat → Int32 → Int32 → rx_St → Option (rx_St)
  | 0, _, _, _ => none
  | n + 1, v1, v2, σ =>
    if (500 : Int32) ≤ v2 then
    f_rea_parseLit_36 w v1 σ
    else
    ((f_rea_next σ).bind fun y1 =>
    if y1 = (16 : Int32) then
    ((f_rea_take (16 : Int32) σ).bind fun y2 =>
    f_rea_parseLit_4 w n (v1 + (1 : Int32)) (v2 + (1 : Int32)) y2.2)
    else
    f_rea_parseLit_36 w v1 σ)
def f_rea_parseLit (w : Nat) (σ : rx_St) : Option (rx_St) :=
  f_rea_parseLit_4 w rx_fu (0 : Int32) (0 : Int32) σ
def f_wor_aim_54 (w : Nat) (k7 : Int32 → Int32 → Int32 → Int32 → Int32 → rx_St → Option (rx_St)) (v1 : Int32) (v2 : Int32) (v4 : Int32) (v5 : Int32) (v6 : Int32) (σ : rx_St) : Option (rx_St) :=
    k7 v1 v2 v4 v5 (v6 + (1 : Int32)) σ
def f_wor_aim_7 (w : Nat) : Nat → Int32 → Int32 → Int32 → Int32 → Int32 → rx_St → Option (rx_St)
  | 0, _, _, _, _, _, _ => none
  | n + 1, v1, v2, v4, v5, v6, σ =>
    if v4 ≤ v6 then
    some σ
    else
    if (σ.1 (7 + 14 * w) 12) ≤ v6 then
    some σ
    else
    (rx_g v6 500 (
    if (σ.1 (18 + 14 * w) v6.toNatClampNeg) < v1 then
    f_wor_aim_54 w (f_wor_aim_7 w n) v1 v2 v4 v5 v6 σ
    else
    (rx_g v6 500 (
    if v2 < (σ.1 (18 + 14 * w) v6.toNatClampNeg) then
    f_wor_aim_54 w (f_wor_aim_7 w n) v1 v2 v4 v5 v6 σ
    else
    (rx_g v6 500 (
    let σ1 : rx_St := rx_si σ (20 + 14 * w) v6.toNatClampNeg v5;
    f_wor_aim_54 w (f_wor_aim_7 w n) v1 v2 v4 v5 v6 σ1))))))
def f_wor_aim (w : Nat) (a0 : Int32) (a1 : Int32) (a2 : Int32) (a3 : Int32) (a4 : Int32) (σ : rx_St) : Option (rx_St) :=
  let x1 : Int32 := f_j_max a2 (0 : Int32);
    f_wor_aim_7 w rx_fu a0 a1 a3 a4 x1 σ
def f_wor_aimTests (w : Nat) (a0 : Int32) (a1 : Int32) (a2 : Int32) (σ : rx_St) : Option (rx_St) :=
  (f_wor_aim w (31 : Int32) (34 : Int32) a0 a1 a2 σ).bind fun y1 =>
    some y1
def f_wor_aimOrs (w : Nat) (a0 : Int32) (a1 : Int32) (a2 : Int32) (σ : rx_St) : Option (rx_St) :=
  (f_wor_aim w (14 : Int32) (14 : Int32) a0 a1 a2 σ).bind fun y1 =>
    some y1
def f_rea_isWish_24 : Int32 :=
    (1 : Int32)
def f_rea_isWish (a0 : Int32) : Int32 :=
  if a0 = (7 : Int32) then
    f_rea_isWish_24 
    else
    if a0 = (8 : Int32) then
    f_rea_isWish_24 
    else
    if a0 = (9 : Int32) then
    f_rea_isWish_24 
    else
    if a0 = (13 : Int32) then
    f_rea_isWish_24 
    else
    (0 : Int32)
def f_rea_parseWish_85 (w : Nat) (v1 : Int32) (v2 : Int32) (v3 : Int32) (σ : rx_St) : Option (rx_St) :=
    (f_rea_take (25 : Int32) σ).bind fun y1 =>
    (f_wor_emit w v1 v2 v3 y1.2).bind fun y2 =>
    some y2
def f_rea_parseWish_71 (w : Nat) (v2 : Int32) (s0 : Int32) (σ : rx_St) : Option (rx_St) :=
    (f_rea_take s0 σ).bind fun y1 =>
    (f_rea_take (23 : Int32) y1.2).bind fun y2 =>
    f_rea_parseWish_85 w s0 v2 y2.1 y2.2
def f_rea_parseWish_42 (w : Nat) (v1 : Int32) (v2 : Int32) (v3 : Int32) (σ : rx_St) : Option (rx_St) :=
    if v1 = (9 : Int32) then
    ((f_rea_take (10 : Int32) σ).bind fun y1 =>
    (f_rea_next y1.2).bind fun y2 =>
    if y2 = (12 : Int32) then
    f_rea_parseWish_71 w v2 (12 : Int32) y1.2
    else
    f_rea_parseWish_71 w v2 (11 : Int32) y1.2)
    else
    f_rea_parseWish_85 w v1 v2 v3 σ
def f_rea_parseWish_32 (w : Nat) (v1 : Int32) (v2 : Int32) (v3 : Int32) (σ : rx_St) : Option (rx_St) :=
    if v1 = (13 : Int32) then
    f_rea_parseWish_42 w v1 v2 v3 σ
    else
    ((f_rea_parseE w σ).bind fun y1 =>
    f_rea_parseWish_42 w v1 v2 v3 y1)
def f_rea_parseWish_25 (w : Nat) (v1 : Int32) (v3 : Int32) (σ : rx_St) : Option (rx_St) :=
    (f_rea_take (23 : Int32) σ).bind fun y1 =>
    f_rea_parseWish_32 w v1 y1.1 v3 y1.2
def f_rea_parseWish (w : Nat) (σ : rx_St) : Option (rx_St) :=
  (f_rea_next σ).bind fun y1 =>
    (f_rea_take y1 σ).bind fun y2 =>
    if y1 = (7 : Int32) then
    f_rea_parseWish_25 w y1 y2.1 y2.2
    else
    if y1 = (9 : Int32) then
    f_rea_parseWish_25 w y1 y2.1 y2.2
    else
    f_rea_parseWish_32 w y1 y2.1 y2.1 y2.2
def f_rea_parseRule_208 (w : Nat) (v2 : Int32) (v3 : Int32) (σ : rx_St) : Option (rx_St) :=
    (f_rea_take (2 : Int32) σ).bind fun y1 =>
    (f_wor_aimTests w v2 v3 (y1.2.1 (7 + 14 * w) 12) y1.2).bind fun y2 =>
    if (y2.1 35 3) = (0 : Int32) then
    (rx_g (y2.1 35 4) 5 (
    rx_g (y2.1 35 4) 5 (
    let σ1 : rx_St := rx_si y2 (12 + 14 * w) (y2.1 35 4).toNatClampNeg ((y2.1 (12 + 14 * w) (y2.1 35 4).toNatClampNeg) + (1 : Int32));
    some σ1)))
    else
    some y2
def f_rea_parseRule_173 (w : Nat) : Nat → Int32 → Int32 → Int32 → rx_St → Option (rx_St)
  | 0, _, _, _, _ => none
  | n + 1, v2, v3, v4, σ =>
    if (6 : Int32) < v4 then
    f_rea_parseRule_208 w v2 v3 σ
    else
    ((f_rea_next σ).bind fun y1 =>
    if (f_rea_isWish y1) = (0 : Int32) then
    f_rea_parseRule_208 w v2 v3 σ
    else
    ((f_rea_needRoom v4 (6 : Int32) σ).bind fun y2 =>
    (f_rea_parseWish w y2).bind fun y3 =>
    f_rea_parseRule_173 w n v2 v3 (v4 + (1 : Int32)) y3))
def f_rea_parseRule_152 (w : Nat) (v1 : Int32) (v2 : Int32) (σ : rx_St) : Option (rx_St) :=
    let x1 : Int32 := σ.1 (7 + 14 * w) 12;
    (f_wor_aimOrs w v1 x1 x1 σ).bind fun y2 =>
    f_rea_parseRule_173 w rx_fu v2 x1 (0 : Int32) y2
def f_rea_parseRule_142 (w : Nat) (k56 : Int32 → Int32 → Int32 → rx_St → Option (rx_St)) (v1 : Int32) (v2 : Int32) (v3 : Int32) (σ : rx_St) : Option (rx_St) :=
    (f_rea_parseLit w σ).bind fun y1 =>
    k56 v1 v2 (v3 + (1 : Int32)) y1
def f_rea_parseRule_81 (w : Nat) (k56 : Int32 → Int32 → Int32 → rx_St → Option (rx_St)) (v1 : Int32) (v2 : Int32) (v3 : Int32) (σ : rx_St) : Option (rx_St) :=
    (f_rea_next σ).bind fun y1 =>
    (f_rea_take y1 σ).bind fun y2 =>
    if y1 = (14 : Int32) then
    ((f_wor_emit w (14 : Int32) (0 : Int32) (0 : Int32) y2.2).bind fun y3 =>
    (f_wor_aimTests w v2 (y3.1 (7 + 14 * w) 12) (y3.1 (7 + 14 * w) 12) y3).bind fun y4 =>
    let x5 : Int32 := y4.1 (7 + 14 * w) 12;
    f_rea_parseRule_142 w k56 v1 x5 v3 y4)
    else
    f_rea_parseRule_142 w k56 v1 v2 v3 y2.2
def f_rea_parseRule_56 (w : Nat) : Nat → Int32 → Int32 → Int32 → rx_St → Option (rx_St)
  | 0, _, _, _, _ => none
  | n + 1, v1, v2, v3, σ =>
    if (500 : Int32) ≤ v3 then
    f_rea_parseRule_152 w v1 v2 σ
    else
    ((f_rea_next σ).bind fun y1 =>
    if y1 = (15 : Int32) then
    f_rea_parseRule_81 w (f_rea_parseRule_56 w n) v1 v2 v3 σ
    else
    ((f_rea_next σ).bind fun y2 =>
    if y2 = (14 : Int32) then
    f_rea_parseRule_81 w (f_rea_parseRule_56 w n) v1 v2 v3 σ
    else
    f_rea_parseRule_152 w v1 v2 σ))
def f_rea_parseRule (w : Nat) (σ : rx_St) : Option (rx_St) :=
  rx_g (σ.1 35 4) 5 (
    (f_rea_needRoom (σ.1 (12 + 14 * w) (σ.1 35 4).toNatClampNeg) (8 : Int32) σ).bind fun y1 =>
    (f_rea_take (5 : Int32) y1).bind fun y2 =>
    let x3 : Int32 := y2.2.1 (7 + 14 * w) 12;
    (f_rea_next y2.2).bind fun y4 =>
    if y4 = (6 : Int32) then
    ((f_rea_take (6 : Int32) y2.2).bind fun y5 =>
    (f_rea_parseLit w y5.2).bind fun y6 =>
    f_rea_parseRule_56 w rx_fu x3 x3 (0 : Int32) y6)
    else
    f_rea_parseRule_152 w x3 x3 y2.2)
def f_rea_parse_162 (w : Nat) (σ : rx_St) : Option (Int32 × rx_St) :=
    if (σ.1 35 3) = (0 : Int32) then
    ((f_rea_next σ).bind fun y1 =>
    if y1 = (37 : Int32) then
    some (σ.1 35 3, σ)
    else
    (let σ1 : rx_St := rx_si σ 35 3 (1 : Int32);
    some (σ1.1 35 3, σ1)))
    else
    some (σ.1 35 3, σ)
def f_rea_parse_131 (w : Nat) (k54 : Int32 → rx_St → Option (Int32 × rx_St)) (v2 : Int32) (σ : rx_St) : Option (Int32 × rx_St) :=
    (f_rea_take (2 : Int32) σ).bind fun y1 =>
    rx_g (y1.2.1 35 4) 5 (
    let σ1 : rx_St := rx_si y1.2 (17 + 14 * w) (y1.2.1 35 4).toNatClampNeg (y1.2.1 (7 + 14 * w) 12);
    k54 (v2 + (1 : Int32)) σ1)
def f_rea_parse_107 (w : Nat) (k54 : Int32 → rx_St → Option (Int32 × rx_St)) : Nat → Int32 → Int32 → rx_St → Option (Int32 × rx_St)
  | 0, _, _, _ => none
  | n + 1, v2, v3, σ =>
    if (8 : Int32) < v3 then
    f_rea_parse_131 w k54 v2 σ
    else
    ((f_rea_next σ).bind fun y1 =>
    if y1 = (5 : Int32) then
    ((f_rea_parseRule w σ).bind fun y2 =>
    f_rea_parse_107 w k54 n v2 (v3 + (1 : Int32)) y2)
    else
    f_rea_parse_131 w k54 v2 σ)
def f_rea_parse_105 (w : Nat) (k54 : Int32 → rx_St → Option (Int32 × rx_St)) (v2 : Int32) (σ : rx_St) : Option (Int32 × rx_St) :=
    f_rea_parse_107 w k54 rx_fu v2 (0 : Int32) σ
def f_rea_parse_95 (w : Nat) (k54 : Int32 → rx_St → Option (Int32 × rx_St)) (k73 : Int32 → Int32 → rx_St → Option (Int32 × rx_St)) (v2 : Int32) (v3 : Int32) (σ : rx_St) : Option (Int32 × rx_St) :=
    (f_rea_parseHas w σ).bind fun y1 =>
    k73 v2 (v3 + (1 : Int32)) y1
def f_rea_parse_73 (w : Nat) (k54 : Int32 → rx_St → Option (Int32 × rx_St)) : Nat → Int32 → Int32 → rx_St → Option (Int32 × rx_St)
  | 0, _, _, _ => none
  | n + 1, v2, v3, σ =>
    if (6 : Int32) < v3 then
    f_rea_parse_105 w k54 v2 σ
    else
    ((f_rea_next σ).bind fun y1 =>
    if y1 = (3 : Int32) then
    f_rea_parse_95 w k54 (f_rea_parse_73 w k54 n) v2 v3 σ
    else
    ((f_rea_next σ).bind fun y2 =>
    if y2 = (4 : Int32) then
    f_rea_parse_95 w k54 (f_rea_parse_73 w k54 n) v2 v3 σ
    else
    f_rea_parse_105 w k54 v2 σ))
def f_rea_parse_54 (w : Nat) : Nat → Int32 → rx_St → Option (Int32 × rx_St)
  | 0, _, _ => none
  | n + 1, v2, σ =>
    if (5 : Int32) < v2 then
    f_rea_parse_162 w σ
    else
    ((f_rea_next σ).bind fun y1 =>
    if y1 = (1 : Int32) then
    ((f_rea_openKind w σ).bind fun y2 =>
    f_rea_parse_73 w (f_rea_parse_54 w n) rx_fu v2 (0 : Int32) y2)
    else
    f_rea_parse_162 w σ)
def f_rea_parse_52 (w : Nat) (σ : rx_St) : Option (Int32 × rx_St) :=
    f_rea_parse_54 w rx_fu (0 : Int32) σ
def f_rea_parse_29 (w : Nat) : Nat → Int32 → rx_St → Option (Int32 × rx_St)
  | 0, _, _ => none
  | n + 1, v2, σ =>
    if (6 : Int32) < v2 then
    f_rea_parse_52 w σ
    else
    ((f_rea_next σ).bind fun y1 =>
    if y1 = (0 : Int32) then
    ((f_rea_parseSetting w σ).bind fun y2 =>
    f_rea_parse_29 w n (v2 + (1 : Int32)) y2)
    else
    f_rea_parse_52 w σ)
def f_rea_parse (w : Nat) (σ : rx_St) : Option (Int32 × rx_St) :=
  (f_wor_empty w σ).bind fun y1 =>
    let σ1 : rx_St := rx_si y1 35 2 (0 : Int32);
    let σ2 : rx_St := rx_si σ1 35 3 (0 : Int32);
    let σ3 : rx_St := rx_si σ2 35 4 (0 : Int32);
    f_rea_parse_29 w rx_fu (0 : Int32) σ3
def f_rea_faultPlace (σ : rx_St) : Option (Int32) :=
  if (σ.1 35 3) = (0 : Int32) then
    some (-1 : Int32)
    else
    ((f_tap_placeOf (σ.1 35 2) σ).bind fun y1 =>
    some y1)
def f_run_goPlain (r : Nat) (w : Nat) (a0 : Int32) (a1 : Int32) (σ : rx_St) : Option (rx_St) :=
  (f_run_restart r w a0 σ).bind fun y1 =>
    (f_run_goOn r w a1 y1).bind fun y2 =>
    some y2
def f_run_differs_37 (q : Nat) (r : Nat) : Nat → Int32 → Int32 → rx_St → Option (Int32)
  | 0, _, _, _ => none
  | n + 1, v2, v3, σ =>
    if ((v2 + (1 : Int32)) * (6 : Int32)) ≤ v3 then
    some (0 : Int32)
    else
    (rx_g v3 120 (
    rx_g v3 120 (
    if (σ.1 (59 + 7 * r) v3.toNatClampNeg) = (σ.1 (59 + 7 * q) v3.toNatClampNeg) then
    f_run_differs_37 q r n v2 (v3 + (1 : Int32)) σ
    else
    some (1 : Int32))))
def f_run_differs (q : Nat) (r : Nat) (a1 : Int32) (σ : rx_St) : Option (Int32) :=
  rx_g a1 20 (
    rx_g a1 20 (
    if (σ.1 (61 + 7 * r) a1.toNatClampNeg) = (σ.1 (61 + 7 * q) a1.toNatClampNeg) then
    (rx_g a1 20 (
    rx_g a1 20 (
    if (σ.1 (60 + 7 * r) a1.toNatClampNeg) = (σ.1 (60 + 7 * q) a1.toNatClampNeg) then
    (let x1 : Int32 := a1 * (6 : Int32);
    f_run_differs_37 q r rx_fu a1 x1 σ)
    else
    some (1 : Int32))))
    else
    some (1 : Int32)))
def f_tap_pack (a0 : Int64) (a1 : Int32) : Int64 :=
  ((a0 <<< ((5 : Int32).toInt64 &&& 63)) + (((a1 - (97 : Int32)) + (1 : Int32)).toInt64))
def f_tap_append_3 : Nat → Int32 → Int32 → rx_St → Option (rx_St)
  | 0, _, _, _ => none
  | n + 1, v1, v2, σ =>
    if v2 < (0 : Int32) then
    some σ
    else
    if (2000 : Int32) ≤ (σ.1 1 1) then
    some σ
    else
    (rx_g (σ.1 1 1) 2000 (
    let σ1 : rx_St := rx_si σ 2 (σ.1 1 1).toNatClampNeg ((rx_iushr v1 v2) &&& (255 : Int32));
    let σ2 : rx_St := rx_si σ1 1 1 ((σ1.1 1 1) + (1 : Int32));
    f_tap_append_3 n v1 (v2 + (-8 : Int32)) σ2))
def f_tap_append (a0 : Int32) (σ : rx_St) : Option (rx_St) :=
  f_tap_append_3 rx_fu a0 (24 : Int32) σ
def f_tap_byteAt (a0 : Int32) (σ : rx_St) : Option (Int32) :=
  if a0 < (0 : Int32) then
    some (-1 : Int32)
    else
    if (σ.1 1 1) ≤ a0 then
    some (-1 : Int32)
    else
    if (2000 : Int32) ≤ a0 then
    some (-1 : Int32)
    else
    (rx_g a0 2000 (
    some (σ.1 2 a0.toNatClampNeg)))
def f_tap_isBlank_24 : Int32 :=
    (1 : Int32)
def f_tap_isBlank (a0 : Int32) : Int32 :=
  if a0 = (9 : Int32) then
    f_tap_isBlank_24 
    else
    if a0 = (10 : Int32) then
    f_tap_isBlank_24 
    else
    if a0 = (13 : Int32) then
    f_tap_isBlank_24 
    else
    if a0 = (32 : Int32) then
    f_tap_isBlank_24 
    else
    (0 : Int32)
def f_tap_isLetter (a0 : Int32) : Int32 :=
  if a0 < (97 : Int32) then
    (0 : Int32)
    else
    if (122 : Int32) < a0 then
    (0 : Int32)
    else
    (1 : Int32)
def f_tap_wordOrName_2 : Nat → Int64 → Int32 → rx_St → Option (Int32)
  | 0, _, _, _ => none
  | n + 1, v1, v3, σ =>
    if (23 : Int32) ≤ v3 then
    some (23 : Int32)
    else
    (rx_g v3 23 (
    if (lg_cmp (σ.2 6 v3.toNatClampNeg) v1) = (0 : Int32) then
    some v3
    else
    f_tap_wordOrName_2 n v1 (v3 + (1 : Int32)) σ))
def f_tap_wordOrName (a0 : Int64) (σ : rx_St) : Option (Int32) :=
  f_tap_wordOrName_2 rx_fu a0 (0 : Int32) σ
def f_tap_keep (a0 : Int32) (a1 : Int32) (a2 : Int64) (σ : rx_St) : Option (rx_St) :=
  if (500 : Int32) < (σ.1 1 5) then
    some σ
    else
    (rx_g (σ.1 1 5) 502 (
    let σ1 : rx_St := rx_si σ 3 (σ.1 1 5).toNatClampNeg a0;
    rx_g (σ1.1 1 5) 502 (
    let σ2 : rx_St := rx_si σ1 4 (σ1.1 1 5).toNatClampNeg a1;
    rx_g (σ2.1 1 5) 502 (
    let σ3 : rx_St := rx_sl σ2 5 (σ2.1 1 5).toNatClampNeg a2;
    let σ4 : rx_St := rx_si σ3 1 5 ((σ3.1 1 5) + (1 : Int32));
    some σ4))))
def f_tap_scanLetters_58 (v1 : Int32) (v2 : Int32) (v3 : Int64) (s1 : Int32) (σ : rx_St) : Option (Int32 × rx_St) :=
    (f_tap_keep s1 v1 v3 σ).bind fun y1 =>
    some (v2, y1)
def f_tap_scanLetters_39 (v1 : Int32) (v2 : Int32) (v3 : Int64) (σ : rx_St) : Option (Int32 × rx_St) :=
    if (v2 - v1) ≤ (8 : Int32) then
    ((f_tap_wordOrName v3 σ).bind fun y1 =>
    f_tap_scanLetters_58 v1 v2 v3 y1 σ)
    else
    f_tap_scanLetters_58 v1 v2 v3 (38 : Int32) σ
def f_tap_scanLetters_4 : Nat → Int32 → Int32 → Int64 → rx_St → Option (Int32 × rx_St)
  | 0, _, _, _, _ => none
  | n + 1, v1, v2, v3, σ =>
    if (σ.1 1 1) ≤ v2 then
    f_tap_scanLetters_39 v1 v2 v3 σ
    else
    ((f_tap_byteAt v2 σ).bind fun y1 =>
    if (f_tap_isLetter y1) = (0 : Int32) then
    f_tap_scanLetters_39 v1 v2 v3 σ
    else
    ((f_tap_byteAt v2 σ).bind fun y2 =>
    let x3 : Int64 := f_tap_pack v3 y2;
    f_tap_scanLetters_4 n v1 (v2 + (1 : Int32)) x3 σ))
def f_tap_scanLetters (a0 : Int32) (σ : rx_St) : Option (Int32 × rx_St) :=
  f_tap_scanLetters_4 rx_fu a0 a0 (0 : Int64) σ
def f_tap_isDigit (a0 : Int32) : Int32 :=
  if a0 < (48 : Int32) then
    (0 : Int32)
    else
    if (57 : Int32) < a0 then
    (0 : Int32)
    else
    (1 : Int32)
def f_tap_scanDigits_60 (v1 : Int32) (v2 : Int32) (v3 : Int64) (s1 : Int32) (σ : rx_St) : Option (Int32 × rx_St) :=
    (f_tap_keep s1 v1 v3 σ).bind fun y1 =>
    some (v2, y1)
def f_tap_scanDigits_45 (v1 : Int32) (v2 : Int32) (v3 : Int64) (σ : rx_St) : Option (Int32 × rx_St) :=
    if (v2 - v1) ≤ (4 : Int32) then
    f_tap_scanDigits_60 v1 v2 v3 (24 : Int32) σ
    else
    f_tap_scanDigits_60 v1 v2 v3 (38 : Int32) σ
def f_tap_scanDigits_4 : Nat → Int32 → Int32 → Int64 → rx_St → Option (Int32 × rx_St)
  | 0, _, _, _, _ => none
  | n + 1, v1, v2, v3, σ =>
    if (σ.1 1 1) ≤ v2 then
    f_tap_scanDigits_45 v1 v2 v3 σ
    else
    ((f_tap_byteAt v2 σ).bind fun y1 =>
    if (f_tap_isDigit y1) = (0 : Int32) then
    f_tap_scanDigits_45 v1 v2 v3 σ
    else
    ((f_tap_byteAt v2 σ).bind fun y2 =>
    let x3 : Int64 := (v3 * (10 : Int64)) + ((y2 - (48 : Int32)).toInt64);
    f_tap_scanDigits_4 n v1 (v2 + (1 : Int32)) x3 σ))
def f_tap_scanDigits (a0 : Int32) (σ : rx_St) : Option (Int32 × rx_St) :=
  f_tap_scanDigits_4 rx_fu a0 a0 (0 : Int64) σ
def f_tap_doubleSign (a0 : Int32) : Int32 :=
  if a0 = (33 : Int32) then
    (32 : Int32)
    else
    if a0 = (60 : Int32) then
    (34 : Int32)
    else
    if a0 = (61 : Int32) then
    (31 : Int32)
    else
    (38 : Int32)
def f_tap_singleSign (a0 : Int32) : Int32 :=
  if a0 = (40 : Int32) then
    (35 : Int32)
    else
    if a0 = (41 : Int32) then
    (36 : Int32)
    else
    if a0 = (42 : Int32) then
    (29 : Int32)
    else
    if a0 = (43 : Int32) then
    (27 : Int32)
    else
    if a0 = (44 : Int32) then
    (38 : Int32)
    else
    if a0 = (45 : Int32) then
    (28 : Int32)
    else
    if a0 = (46 : Int32) then
    (38 : Int32)
    else
    if a0 = (47 : Int32) then
    (30 : Int32)
    else
    if a0 = (48 : Int32) then
    (38 : Int32)
    else
    if a0 = (49 : Int32) then
    (38 : Int32)
    else
    if a0 = (50 : Int32) then
    (38 : Int32)
    else
    if a0 = (51 : Int32) then
    (38 : Int32)
    else
    if a0 = (52 : Int32) then
    (38 : Int32)
    else
    if a0 = (53 : Int32) then
    (38 : Int32)
    else
    if a0 = (54 : Int32) then
    (38 : Int32)
    else
    if a0 = (55 : Int32) then
    (38 : Int32)
    else
    if a0 = (56 : Int32) then
    (38 : Int32)
    else
    if a0 = (57 : Int32) then
    (38 : Int32)
    else
    if a0 = (58 : Int32) then
    (38 : Int32)
    else
    if a0 = (59 : Int32) then
    (25 : Int32)
    else
    if a0 = (60 : Int32) then
    (33 : Int32)
    else
    if a0 = (61 : Int32) then
    (26 : Int32)
    else
    (38 : Int32)
def f_tap_scanToken_96 (v1 : Int32) (v5 : Int32) (s1 : Int32) (σ : rx_St) : Option (Int32 × rx_St) :=
    (f_tap_keep s1 v1 (0 : Int64) σ).bind fun y1 =>
    some (v1 + v5, y1)
def f_tap_scanToken_77 (v1 : Int32) (v2 : Int32) (v4 : Int32) (s0 : Int32) (σ : rx_St) : Option (Int32 × rx_St) :=
    if v4 = (38 : Int32) then
    f_tap_scanToken_96 v1 s0 (f_tap_singleSign v2) σ
    else
    f_tap_scanToken_96 v1 s0 v4 σ
def f_tap_scanToken_63 (v1 : Int32) (v2 : Int32) (s0 : Int32) (σ : rx_St) : Option (Int32 × rx_St) :=
    if s0 = (38 : Int32) then
    f_tap_scanToken_77 v1 v2 s0 (1 : Int32) σ
    else
    f_tap_scanToken_77 v1 v2 s0 (2 : Int32) σ
def f_tap_scanToken_49 (v1 : Int32) (v2 : Int32) (s0 : Int32) (σ : rx_St) : Option (Int32 × rx_St) :=
    if s0 = (0 : Int32) then
    f_tap_scanToken_63 v1 v2 (38 : Int32) σ
    else
    f_tap_scanToken_63 v1 v2 (f_tap_doubleSign v2) σ
def f_tap_scanToken (a0 : Int32) (σ : rx_St) : Option (Int32 × rx_St) :=
  (f_tap_byteAt a0 σ).bind fun y1 =>
    if (f_tap_isLetter y1) = (0 : Int32) then
    if (f_tap_isDigit y1) = (0 : Int32) then
    ((f_tap_byteAt (a0 + (1 : Int32)) σ).bind fun y2 =>
    if y2 = (61 : Int32) then
    f_tap_scanToken_49 a0 y1 (1 : Int32) σ
    else
    f_tap_scanToken_49 a0 y1 (0 : Int32) σ)
    else
    ((f_tap_scanDigits a0 σ).bind fun y3 =>
    some (y3.1, y3.2))
    else
    ((f_tap_scanLetters a0 σ).bind fun y4 =>
    some (y4.1, y4.2))
def f_tap_scan_57 (σ : rx_St) : Option (rx_St) :=
    rx_g (σ.1 1 5) 502 (
    let σ1 : rx_St := rx_si σ 3 (σ.1 1 5).toNatClampNeg (37 : Int32);
    rx_g (σ1.1 1 5) 502 (
    let σ2 : rx_St := rx_si σ1 4 (σ1.1 1 5).toNatClampNeg (σ1.1 1 1);
    some σ2))
def f_tap_scan_45 (k7 : Int32 → rx_St → Option (rx_St)) (v1 : Int32) (s0 : Int32) (σ : rx_St) : Option (rx_St) :=
    let x1 : Int32 := f_j_max (v1 + (1 : Int32)) s0;
    k7 x1 σ
def f_tap_scan_7 : Nat → Int32 → rx_St → Option (rx_St)
  | 0, _, _ => none
  | n + 1, v1, σ =>
    if (σ.1 1 1) ≤ v1 then
    f_tap_scan_57 σ
    else
    if (500 : Int32) < (σ.1 1 5) then
    f_tap_scan_57 σ
    else
    ((f_tap_byteAt v1 σ).bind fun y1 =>
    if (f_tap_isBlank y1) = (0 : Int32) then
    ((f_tap_scanToken v1 σ).bind fun y2 =>
    f_tap_scan_45 (f_tap_scan_7 n) v1 y2.1 y2.2)
    else
    f_tap_scan_45 (f_tap_scan_7 n) v1 v1 σ)
def f_tap_scan (σ : rx_St) : Option (rx_St) :=
  let σ1 : rx_St := rx_si σ 1 5 (0 : Int32);
    f_tap_scan_7 rx_fu (0 : Int32) σ1
def f_tow_moveTo_12 (w : Nat) : Nat → Int32 → rx_St → Option (rx_St)
  | 0, _, _ => none
  | n + 1, v2, σ =>
    if (σ.1 (7 + 14 * w) 0) ≤ v2 then
    (let σ1 : rx_St := rx_si σ 38 8 ((σ.1 38 8) + (1 : Int32));
    some σ1)
    else
    (rx_g v2 6 (
    rx_g v2 6 (
    let σ2 : rx_St := rx_si σ 39 v2.toNatClampNeg (σ.1 (8 + 14 * w) v2.toNatClampNeg);
    f_tow_moveTo_12 w n (v2 + (1 : Int32)) σ2)))
def f_tow_moveTo (w : Nat) (σ : rx_St) : Option (rx_St) :=
  let σ1 : rx_St := rx_si σ 38 2 (0 : Int32);
    f_tow_moveTo_12 w rx_fu (0 : Int32) σ1
def f_wor_hasVar (w : Nat) (a0 : Int32) (a1 : Int32) (σ : rx_St) : Option (Int32) :=
  if (f_wor_hasKind w a0 σ) = (0 : Int32) then
    some (0 : Int32)
    else
    if a1 < (0 : Int32) then
    some (0 : Int32)
    else
    (rx_g a0 5 (
    if (σ.1 (11 + 14 * w) a0.toNatClampNeg) ≤ a1 then
    some (0 : Int32)
    else
    some (1 : Int32)))
def f_tow_oneHasVar (w : Nat) (a0 : Int32) (a1 : Int32) (σ : rx_St) : Option (Int32) :=
  if (f_tow_hasOne a0 σ) = (0 : Int32) then
    some (0 : Int32)
    else
    (rx_g a0 20 (
    (f_wor_hasVar w (σ.1 40 a0.toNatClampNeg) a1 σ).bind fun y1 =>
    if y1 = (0 : Int32) then
    some (0 : Int32)
    else
    some (1 : Int32)))
def f_tow_putSetting (w : Nat) (a0 : Int32) (a1 : Int32) (σ : rx_St) : Option (Int32 × rx_St) :=
  if (f_wor_hasSetting w a0 σ) = (0 : Int32) then
    some ((0 : Int32), σ)
    else
    if (f_c_isNumber a1) = (0 : Int32) then
    some ((0 : Int32), σ)
    else
    (rx_g a0 6 (
    let σ1 : rx_St := rx_si σ 39 a0.toNatClampNeg a1;
    let σ2 : rx_St := rx_si σ1 38 8 ((σ1.1 38 8) + (1 : Int32));
    some ((1 : Int32), σ2)))
def f_tow_addOne_76 (w : Nat) : Nat → Int32 → Int32 → rx_St → Option (Int32 × rx_St)
  | 0, _, _, _ => none
  | n + 1, v1, v4, σ =>
    if (6 : Int32) ≤ v4 then
    (let σ1 : rx_St := rx_si σ 38 2 ((σ.1 38 2) + (1 : Int32));
    let σ2 : rx_St := rx_si σ1 38 8 ((σ1.1 38 8) + (1 : Int32));
    some ((σ2.1 38 2) - (1 : Int32), σ2))
    else
    (rx_g ((v1 * (6 : Int32)) + v4) 30 (
    rx_g (((σ.1 38 2) * (6 : Int32)) + v4) 120 (
    let σ3 : rx_St := rx_si σ 43 (((σ.1 38 2) * (6 : Int32)) + v4).toNatClampNeg (σ.1 (13 + 14 * w) ((v1 * (6 : Int32)) + v4).toNatClampNeg);
    f_tow_addOne_76 w n v1 (v4 + (1 : Int32)) σ3)))
def f_tow_addOne (w : Nat) (a0 : Int32) (a1 : Int32) (a2 : Int32) (σ : rx_St) : Option (Int32 × rx_St) :=
  if (20 : Int32) ≤ (σ.1 38 2) then
    some ((-1 : Int32), σ)
    else
    if (f_wor_hasKind w a0 σ) = (0 : Int32) then
    some ((-1 : Int32), σ)
    else
    if a1 < (0 : Int32) then
    some ((-1 : Int32), σ)
    else
    if (10 : Int32) ≤ a1 then
    some ((-1 : Int32), σ)
    else
    if a2 < (1 : Int32) then
    some ((-1 : Int32), σ)
    else
    if a2 ≤ (99 : Int32) then
    (rx_g (σ.1 38 2) 20 (
    let σ1 : rx_St := rx_si σ 40 (σ.1 38 2).toNatClampNeg a0;
    rx_g (σ1.1 38 2) 20 (
    let σ2 : rx_St := rx_si σ1 41 (σ1.1 38 2).toNatClampNeg a1;
    rx_g (σ2.1 38 2) 20 (
    let σ3 : rx_St := rx_si σ2 42 (σ2.1 38 2).toNatClampNeg a2;
    f_tow_addOne_76 w rx_fu a0 (0 : Int32) σ3))))
    else
    some ((-1 : Int32), σ)
def f_tow_putBegin (w : Nat) (a0 : Int32) (a1 : Int32) (a2 : Int32) (σ : rx_St) : Option (Int32 × rx_St) :=
  (f_tow_oneHasVar w a0 a1 σ).bind fun y1 =>
    if y1 = (0 : Int32) then
    some ((0 : Int32), σ)
    else
    if (f_c_isNumber a2) = (0 : Int32) then
    some ((0 : Int32), σ)
    else
    (rx_g ((a0 * (6 : Int32)) + a1) 120 (
    let σ1 : rx_St := rx_si σ 43 ((a0 * (6 : Int32)) + a1).toNatClampNeg a2;
    let σ2 : rx_St := rx_si σ1 38 8 ((σ1.1 38 8) + (1 : Int32));
    some ((1 : Int32), σ2)))
def f_tow_dealOrder (a0 : Int32) (σ : rx_St) : Option (rx_St) :=
  rx_c (a0 = 0 ∨ a0 = 1) (
    let σ1 : rx_St := rx_si σ 38 7 a0;
    let σ2 : rx_St := rx_si σ1 38 8 ((σ1.1 38 8) + (1 : Int32));
    some σ2)
def f_c_feed (a0 : Int32) (a1 : Int32) (a2 : Int32) (a3 : Int32) (a4 : Int32) (σ : rx_St) : Option (Int32 × rx_St) :=
  if ((σ.1 1 1) + (20 : Int32)) ≤ (2000 : Int32) then
    ((f_tap_append a0 σ).bind fun y1 =>
    (f_tap_append a1 y1).bind fun y2 =>
    (f_tap_append a2 y2).bind fun y3 =>
    (f_tap_append a3 y3).bind fun y4 =>
    (f_tap_append a4 y4).bind fun y5 =>
    some (y5.1 1 1, y5))
    else
    some ((-1 : Int32), σ)
def f_c_back (a0 : Int32) (σ : rx_St) : Option (Int32 × rx_St) :=
  if a0 < (0 : Int32) then
    some ((-1 : Int32), σ)
    else
    if a0 ≤ (σ.1 1 1) then
    (let σ1 : rx_St := rx_si σ 1 1 ((σ.1 1 1) - a0);
    some (σ1.1 1 1, σ1))
    else
    some ((-1 : Int32), σ)
def f_c_read (w : Nat) (p3 : Nat) (σ : rx_St) : Option (Int32 × rx_St × List Nat) :=
  (f_tap_scan σ).bind fun y1 =>
    (f_rea_parse (1 - w) y1).bind fun y2 =>
    (f_rea_faultPlace y2.2).bind fun y3 =>
    let σ1 : rx_St := rx_si y2.2 0 5 y3;
    if y2.1 = (0 : Int32) then
    ((f_chk_check (1 - w) σ1).bind fun y4 =>
    let σ2 : rx_St := rx_si y4.2 0 5 (f_chk_faultPlace y4.2);
    let σ3 : rx_St := rx_si σ2 1 1 (0 : Int32);
    if y4.1 = (0 : Int32) then
    ((f_tow_moveTo (1 - w) σ3).bind fun y5 =>
    let σ4 : rx_St := rx_si y5 72 2 (0 : Int32);
    (f_gri_empty σ4).bind fun y6 =>
    some (y4.1, (y6, [(21 - 14 * w), (7 + 14 * w), (21 - 14 * w), (21 - 14 * w), (21 - 14 * w)])))
    else
    some (y4.1, (σ3, [(7 + 14 * w), (21 - 14 * w), (21 - 14 * w), (21 - 14 * w), (7 + 14 * w)])))
    else
    (let σ5 : rx_St := rx_si σ1 1 1 (0 : Int32);
    if y2.1 = (0 : Int32) then
    ((f_tow_moveTo (1 - w) σ5).bind fun y7 =>
    let σ6 : rx_St := rx_si y7 72 2 (0 : Int32);
    (f_gri_empty σ6).bind fun y8 =>
    some (y2.1, (y8, [(21 - 14 * w), (7 + 14 * w), (21 - 14 * w), p3, (21 - 14 * w)])))
    else
    some (y2.1, (σ5, [(7 + 14 * w), (21 - 14 * w), (21 - 14 * w), p3, (7 + 14 * w)])))
def f_c_place (σ : rx_St) : Int32 :=
  (σ.1 0 5)
def f_c_set (w : Nat) (a0 : Int32) (a1 : Int32) (σ : rx_St) : Option (Int32 × rx_St) :=
  (f_tow_putSetting w a0 a1 σ).bind fun y1 =>
    some (y1.1, y1.2)
def f_c_one (w : Nat) (a0 : Int32) (a1 : Int32) (a2 : Int32) (σ : rx_St) : Option (Int32 × rx_St) :=
  (f_tow_addOne w a0 a1 a2 σ).bind fun y1 =>
    some (y1.1, y1.2)
def f_c_begin (w : Nat) (a0 : Int32) (a1 : Int32) (a2 : Int32) (σ : rx_St) : Option (Int32 × rx_St) :=
  (f_tow_putBegin w a0 a1 a2 σ).bind fun y1 =>
    some (y1.1, y1.2)
def f_c_order (a0 : Int32) (σ : rx_St) : Option (rx_St) :=
  (f_tow_dealOrder a0 σ).bind fun y1 =>
    some y1
def f_c_isTick (a0 : Int32) : Int32 :=
  if a0 < (0 : Int32) then
    (0 : Int32)
    else
    if (40 : Int32) ≤ a0 then
    (0 : Int32)
    else
    (1 : Int32)
def f_c_lot_49 (v1 : Int32) (v2 : Int32) (v3 : Int32) (v4 : Int32) (v5 : Int32) (s0 : Int32) : Option (Int32) :=
    if s0 = (0 : Int32) then
    ((f_c_dealLot v1 v2 v3 v4 v5).bind fun y1 =>
    some y1)
    else
    some (-1 : Int32)
def f_c_lot_44 (v1 : Int32) (v2 : Int32) (v3 : Int32) (v4 : Int32) (v5 : Int32) : Option (Int32) :=
    f_c_lot_49 v1 v2 v3 v4 v5 (1 : Int32)
def f_c_lot (a0 : Int32) (a1 : Int32) (a2 : Int32) (a3 : Int32) (a4 : Int32) : Option (Int32) :=
  if a1 < (0 : Int32) then
    f_c_lot_44 a0 a1 a2 a3 a4
    else
    if (20 : Int32) ≤ a1 then
    f_c_lot_44 a0 a1 a2 a3 a4
    else
    if (f_c_isTick a2) = (0 : Int32) then
    f_c_lot_44 a0 a1 a2 a3 a4
    else
    if a3 < (0 : Int32) then
    f_c_lot_44 a0 a1 a2 a3 a4
    else
    if (1000 : Int32) < a3 then
    f_c_lot_44 a0 a1 a2 a3 a4
    else
    if a4 < (1 : Int32) then
    f_c_lot_44 a0 a1 a2 a3 a4
    else
    if a4 ≤ (9999 : Int32) then
    f_c_lot_49 a0 a1 a2 a3 a4 (0 : Int32)
    else
    f_c_lot_44 a0 a1 a2 a3 a4
def f_c_isTime (a0 : Int32) : Int32 :=
  if a0 < (0 : Int32) then
    (0 : Int32)
    else
    if (40 : Int32) < a0 then
    (0 : Int32)
    else
    (1 : Int32)
def f_c_state (w : Nat) (a0 : Int32) (a1 : Int32) (a2 : Int32) (a3 : Int32) (σ : rx_St) : Option (Int32 × rx_St) :=
  if (f_c_isTime a1) = (0 : Int32) then
    some ((-1000000 : Int32), σ)
    else
    ((f_tow_oneHasVar w a2 a3 σ).bind fun y1 =>
    if y1 = (0 : Int32) then
    some ((-1000000 : Int32), σ)
    else
    ((f_run_goPlain 0 w a0 a1 σ).bind fun y2 =>
    rx_g ((a2 * (6 : Int32)) + a3) 120 (
    some (y2.1 59 ((a2 * (6 : Int32)) + a3).toNatClampNeg, y2))))
def f_c_at (w : Nat) (a0 : Int32) (a1 : Int32) (a2 : Int32) (σ : rx_St) : Option (Int32 × rx_St) :=
  if (f_c_isTime a1) = (0 : Int32) then
    some ((-1 : Int32), σ)
    else
    if (f_tow_hasOne a2 σ) = (0 : Int32) then
    some ((-1 : Int32), σ)
    else
    ((f_run_goPlain 0 w a0 a1 σ).bind fun y1 =>
    rx_g a2 20 (
    if (y1.1 61 a2.toNatClampNeg) = (0 : Int32) then
    (rx_g a2 20 (
    some (y1.1 60 a2.toNatClampNeg, y1)))
    else
    some ((-2 : Int32), y1)))
def f_c_figure (w : Nat) (a0 : Int32) (a1 : Int32) (a2 : Int32) (a3 : Int32) (σ : rx_St) : Option (Int32 × rx_St) :=
  if (f_c_isTime a1) = (0 : Int32) then
    some ((-1000000000 : Int32), σ)
    else
    ((f_wor_hasVar w a2 a3 σ).bind fun y1 =>
    if y1 = (0 : Int32) then
    some ((-1000000000 : Int32), σ)
    else
    ((f_run_goPlain 0 w a0 a1 σ).bind fun y2 =>
    (f_run_total 0 a2 a3 y2).bind fun y3 =>
    some (y3, y2)))
def f_c_wishes (w : Nat) (a0 : Int32) (a1 : Int32) (a2 : Int32) (σ : rx_St) : Option (Int32 × rx_St) :=
  if (f_c_isTick a1) = (0 : Int32) then
    some ((-1 : Int32), σ)
    else
    if (f_tow_hasOne a2 σ) = (0 : Int32) then
    some ((-1 : Int32), σ)
    else
    ((f_run_goPlain 0 w a0 (a1 + (1 : Int32)) σ).bind fun y1 =>
    rx_g a2 20 (
    some (y1.1 45 a2.toNatClampNeg, y1)))
def f_c_canUndo (a0 : Int32) (a1 : Int32) (a2 : Int32) (σ : rx_St) : Int32 :=
  if (f_c_isTime a0) = (0 : Int32) then
    (0 : Int32)
    else
    if a2 < (0 : Int32) then
    (0 : Int32)
    else
    if a0 ≤ a2 then
    (0 : Int32)
    else
    if (f_tow_hasOne a1 σ) = (0 : Int32) then
    (0 : Int32)
    else
    (1 : Int32)
def f_c_undo_134 (w : Nat) (k49 : Int32 → Int32 → Int32 → Int32 → rx_St → Option (rx_St)) (k85 : Int32 → Int32 → Int32 → Int32 → Int32 → rx_St → Option (rx_St)) (v2 : Int32) (v3 : Int32) (v4 : Int32) (v5 : Int32) (v6 : Int32) (σ : rx_St) : Option (rx_St) :=
    k85 v2 v3 v4 v5 (v6 + (1 : Int32)) σ
def f_c_undo_85 (w : Nat) (k49 : Int32 → Int32 → Int32 → Int32 → rx_St → Option (rx_St)) : Nat → Int32 → Int32 → Int32 → Int32 → Int32 → rx_St → Option (rx_St)
  | 0, _, _, _, _, _, _ => none
  | n + 1, v2, v3, v4, v5, v6, σ =>
    if (σ.1 38 2) ≤ v6 then
    k49 v2 v3 v4 (v5 + (1 : Int32)) σ
    else
    (rx_g v6 20 (
    if (σ.1 71 v6.toNatClampNeg) = (-2 : Int32) then
    ((f_run_differs 1 0 v6 σ).bind fun y1 =>
    if y1 = (0 : Int32) then
    f_c_undo_134 w k49 (f_c_undo_85 w k49 n) v2 v3 v4 v5 v6 σ
    else
    (rx_g v6 20 (
    let σ1 : rx_St := rx_si σ 71 v6.toNatClampNeg v5;
    f_c_undo_134 w k49 (f_c_undo_85 w k49 n) v2 v3 v4 v5 v6 σ1)))
    else
    f_c_undo_134 w k49 (f_c_undo_85 w k49 n) v2 v3 v4 v5 v6 σ))
def f_c_undo_79 (w : Nat) (k49 : Int32 → Int32 → Int32 → Int32 → rx_St → Option (rx_St)) (v2 : Int32) (v3 : Int32) (v4 : Int32) (v5 : Int32) (s1 : Int32) (σ : rx_St) : Option (rx_St) :=
    (f_run_step 1 w s1 σ).bind fun y1 =>
    f_c_undo_85 w k49 rx_fu v2 v3 v4 v5 (0 : Int32) y1
def f_c_undo_49 (w : Nat) : Nat → Int32 → Int32 → Int32 → Int32 → rx_St → Option (rx_St)
  | 0, _, _, _, _, _ => none
  | n + 1, v2, v3, v4, v5, σ =>
    if v2 ≤ v5 then
    some σ
    else
    ((f_run_step 0 w (-1 : Int32) σ).bind fun y1 =>
    if v5 = v4 then
    f_c_undo_79 w (f_c_undo_49 w n) v2 v3 v4 v5 v3 y1
    else
    f_c_undo_79 w (f_c_undo_49 w n) v2 v3 v4 v5 (-1 : Int32) y1)
def f_c_undo_19 (w : Nat) : Nat → Int32 → Int32 → Int32 → Int32 → rx_St → Option (rx_St)
  | 0, _, _, _, _, _ => none
  | n + 1, v2, v3, v4, v5, σ =>
    if (σ.1 38 2) ≤ v5 then
    f_c_undo_49 w rx_fu v2 v3 v4 (0 : Int32) σ
    else
    (rx_g v5 20 (
    let σ1 : rx_St := rx_si σ 71 v5.toNatClampNeg (-2 : Int32);
    f_c_undo_19 w n v2 v3 v4 (v5 + (1 : Int32)) σ1))
def f_c_undo (w : Nat) (a0 : Int32) (a1 : Int32) (a2 : Int32) (a3 : Int32) (σ : rx_St) : Option (rx_St) :=
  (f_run_restart 0 w a0 σ).bind fun y1 =>
    (f_run_restart 1 w a0 y1).bind fun y2 =>
    f_c_undo_19 w rx_fu a1 a2 a3 (0 : Int32) y2
def f_c_changed_59 (w : Nat) (k28 : Int32 → Int32 → rx_St → Option (Int32 × rx_St)) (v5 : Int32) (v6 : Int32) (σ : rx_St) : Option (Int32 × rx_St) :=
    k28 v5 (v6 + (1 : Int32)) σ
def f_c_changed_28 (w : Nat) : Nat → Int32 → Int32 → rx_St → Option (Int32 × rx_St)
  | 0, _, _, _ => none
  | n + 1, v5, v6, σ =>
    if (σ.1 38 2) ≤ v6 then
    some (v5, σ)
    else
    (rx_g v6 20 (
    if (σ.1 71 v6.toNatClampNeg) < (0 : Int32) then
    f_c_changed_59 w (f_c_changed_28 w n) v5 v6 σ
    else
    (let x1 : Int32 := v5 ||| (rx_ishl (1 : Int32) v6);
    f_c_changed_59 w (f_c_changed_28 w n) x1 v6 σ)))
def f_c_changed (w : Nat) (a0 : Int32) (a1 : Int32) (a2 : Int32) (a3 : Int32) (σ : rx_St) : Option (Int32 × rx_St) :=
  if (f_c_canUndo a1 a2 a3 σ) = (0 : Int32) then
    some ((-1 : Int32), σ)
    else
    ((f_c_undo w a0 a1 a2 a3 σ).bind fun y1 =>
    f_c_changed_28 w rx_fu (0 : Int32) (0 : Int32) y1)
def f_c_first (w : Nat) (a0 : Int32) (a1 : Int32) (a2 : Int32) (a3 : Int32) (a4 : Int32) (σ : rx_St) : Option (Int32 × rx_St) :=
  if (f_c_canUndo a1 a2 a3 σ) = (0 : Int32) then
    some ((-1 : Int32), σ)
    else
    if (f_tow_hasOne a4 σ) = (0 : Int32) then
    some ((-1 : Int32), σ)
    else
    ((f_c_undo w a0 a1 a2 a3 σ).bind fun y1 =>
    rx_g a4 20 (
    some (y1.1 71 a4.toNatClampNeg, y1)))
def f_c_cause (w : Nat) (a0 : Int32) (a1 : Int32) (σ : rx_St) : Option (Int32 × rx_St) :=
  (f_cau_tell w a0 a1 σ).bind fun y1 =>
    some (y1.1, y1.2)
def f_c_clear (σ : rx_St) : Option (Int32 × rx_St) :=
  let σ1 : rx_St := rx_si σ 72 2 (0 : Int32);
    some (σ.1 72 2, σ1)
def f_c_share (w : Nat) (a0 : Int32) (a1 : Int32) (a2 : Int32) (a3 : Int32) (a4 : Int32) (σ : rx_St) : Option (Int64 × rx_St) :=
  if a0 < (0 : Int32) then
    some ((-1000000000000 : Int64), σ)
    else
    if (σ.1 72 2) ≤ a0 then
    some ((-1000000000000 : Int64), σ)
    else
    if (f_c_isTime a2) = (0 : Int32) then
    some ((-1000000000000 : Int64), σ)
    else
    ((f_wor_hasVar w a3 a4 σ).bind fun y1 =>
    if y1 = (0 : Int32) then
    some ((-1000000000000 : Int64), σ)
    else
    ((f_cau_sumOverOrders w a0 a1 a2 a3 a4 σ).bind fun y2 =>
    some (y2.1, y2.2)))
def f_c_seen (w : Nat) (a0 : Int32) (a1 : Int32) (a2 : Int32) (a3 : Int32) (a4 : Int32) (σ : rx_St) : Option (Int32 × rx_St) :=
  if (f_c_isTime a0) = (0 : Int32) then
    some ((-1 : Int32), σ)
    else
    ((f_wor_hasVar w a1 a2 σ).bind fun y1 =>
    if y1 = (0 : Int32) then
    some ((-1 : Int32), σ)
    else
    if a3 ≤ a4 then
    ((f_gri_tellSeen a0 a1 a2 a3 a4 σ).bind fun y2 =>
    some (y2.1, y2.2))
    else
    some ((-1 : Int32), σ))
def f_c_span (w : Nat) (a0 : Int32) (a1 : Int32) (a2 : Int32) (a3 : Int32) (σ : rx_St) : Option (Int32 × rx_St) :=
  (f_gri_tellSpan w a0 a1 a2 a3 σ).bind fun y1 =>
    some (y1.1, y1.2)
def f_c_isSeeds (a0 : Int32) : Int32 :=
  if a0 < (1 : Int32) then
    (0 : Int32)
    else
    if (3 : Int32) < a0 then
    (0 : Int32)
    else
    (1 : Int32)
def f_c_meets (w : Nat) (a0 : Int32) (σ : rx_St) : Option (Int32 × rx_St) :=
  if (f_c_isSeeds a0) = (0 : Int32) then
    some ((-1 : Int32), σ)
    else
    ((f_gri_trySeeds w a0 σ).bind fun y1 =>
    (f_gri_countMeeting a0 y1).bind fun y2 =>
    some (y2, y1))
def f_c_met (w : Nat) (a0 : Int32) (a1 : Int32) (a2 : Int32) (σ : rx_St) : Option (Int32 × rx_St) :=
  if (f_c_isSeeds a0) = (0 : Int32) then
    some ((-1000000 : Int32), σ)
    else
    if a1 < (0 : Int32) then
    some ((-1000000 : Int32), σ)
    else
    if a2 < (0 : Int32) then
    some ((-1000000 : Int32), σ)
    else
    if a2 < (σ.1 76 8) then
    ((f_gri_trySeeds w a0 σ).bind fun y1 =>
    (f_gri_meetingPoint a0 a1 y1).bind fun y2 =>
    if (0 : Int32) ≤ y2 then
    ((f_gri_number y2 a2 y1).bind fun y3 =>
    some (y3, y1))
    else
    some ((-1000000 : Int32), y1))
    else
    some ((-1000000 : Int32), σ)
def f_c_untold (w : Nat) (a0 : Int32) (σ : rx_St) : Option (Int32 × rx_St) :=
  if (f_c_isSeeds a0) = (0 : Int32) then
    some ((-1 : Int32), σ)
    else
    ((f_gri_trySeeds w a0 σ).bind fun y1 =>
    (f_gri_untoldSpans a0 y1).bind fun y2 =>
    some (y2, y1))
def f_c_would_127 (w : Nat) (s1 : Int32) (s2 : Int32) (s3 : Int32) (s4 : Int32) (s5 : Int32) (s6 : Int32) (σ : rx_St) : Option (Int32 × rx_St) :=
    (f_gri_outermost w s1 s2 s3 s4 s5 s6 σ).bind fun y1 =>
    some (y1.1, y1.2)
def f_c_would (w : Nat) (a0 : Int32) (a1 : Int32) (a2 : Int32) (a3 : Int32) (a4 : Int32) (a5 : Int32) (a6 : Int32) (σ : rx_St) : Option (Int32 × rx_St) :=
  if (f_c_isSeeds a0) = (0 : Int32) then
    some ((-1000000000 : Int32), σ)
    else
    if (f_wor_hasSetting w a1 σ) = (0 : Int32) then
    some ((-1000000000 : Int32), σ)
    else
    if (f_c_isNumber a2) = (0 : Int32) then
    some ((-1000000000 : Int32), σ)
    else
    if (f_c_isTime a3) = (0 : Int32) then
    some ((-1000000000 : Int32), σ)
    else
    ((f_wor_hasVar w a4 a5 σ).bind fun y1 =>
    if y1 = (0 : Int32) then
    some ((-1000000000 : Int32), σ)
    else
    if a6 < (0 : Int32) then
    some ((-1000000000 : Int32), σ)
    else
    if a6 ≤ (2 : Int32) then
    ((f_gri_trySeeds w a0 σ).bind fun y2 =>
    let x3 : Int32 := (a4 * (6 : Int32)) + a5;
    if a6 = (2 : Int32) then
    ((f_gri_countMore w a0 a1 a2 a3 x3 y2).bind fun y4 =>
    some (y4.1, y4.2))
    else
    if a6 = (1 : Int32) then
    f_c_would_127 w a0 a1 a2 a3 x3 (1 : Int32) y2
    else
    f_c_would_127 w a0 a1 a2 a3 x3 (0 : Int32) y2)
    else
    some ((-1000000000 : Int32), σ))
def f_c_tells (a0 : Int32) (a1 : Int32) (a2 : Int32) : Option (Int32) :=
  if (f_pla_hasEffects a0 a2) = (0 : Int32) then
    some (-1 : Int32)
    else
    if (f_pla_hasPlan a0 a1) = (0 : Int32) then
    some (-1 : Int32)
    else
    ((f_pla_isTelling a0 a1 a2).bind fun y1 =>
    if y1 = (0 : Int32) then
    some (0 : Int32)
    else
    some (1 : Int32))
def f_c_fewest (a0 : Int32) (a1 : Int32) : Option (Int32) :=
  if (f_pla_hasEffects a0 a1) = (0 : Int32) then
    some (-1 : Int32)
    else
    ((f_pla_fewestRows a0 a1).bind fun y1 =>
    some y1)
def f_c_count (w : Nat) (a0 : Int32) (σ : rx_St) : Option (Int32) :=
  if (f_wor_hasKind w (a0 - (10 : Int32)) σ) = (0 : Int32) then
    if (f_wor_hasKind w (a0 - (20 : Int32)) σ) = (0 : Int32) then
    if a0 = (0 : Int32) then
    some (σ.1 (7 + 14 * w) 0)
    else
    if a0 = (1 : Int32) then
    some (σ.1 (7 + 14 * w) 3)
    else
    if a0 = (2 : Int32) then
    some (σ.1 38 2)
    else
    if a0 = (3 : Int32) then
    some (σ.1 72 2)
    else
    if a0 = (4 : Int32) then
    some (σ.1 76 2)
    else
    if a0 = (5 : Int32) then
    some (σ.1 76 8)
    else
    if a0 = (6 : Int32) then
    some (σ.1 1 1)
    else
    some (-1 : Int32)
    else
    (rx_g (a0 - (20 : Int32)) 5 (
    some (σ.1 (12 + 14 * w) (a0 - (20 : Int32)).toNatClampNeg)))
    else
    (rx_g (a0 - (10 : Int32)) 5 (
    some (σ.1 (11 + 14 * w) (a0 - (10 : Int32)).toNatClampNeg)))
def f_m_thrown (σ : rx_St) : Int32 :=
  (σ.1 87 0)
def f_m_more (a0 : Int64) (a1 : Int32) : Int64 :=
  if a1 = (0 : Int32) then
    a0
    else
    (((27 : Int64) * a0) + (((a1 - (97 : Int32)) + (1 : Int32)).toInt64))
def f_m_word (a0 : Int32) (a1 : Int32) (a2 : Int32) (a3 : Int32) (a4 : Int32) (a5 : Int32) (a6 : Int32) : Int64 :=
  (f_m_more (f_m_more (f_m_more (f_m_more (f_m_more (f_m_more (f_m_more (0 : Int64) a0) a1) a2) a3) a4) a5) a6)
def f_m_put_3 : Nat → Int32 → Int32 → rx_St → Option (rx_St)
  | 0, _, _, _ => none
  | n + 1, v1, v2, σ =>
    if v2 < (0 : Int32) then
    some σ
    else
    (rx_g (σ.1 87 2) 2000 (
    let σ1 : rx_St := rx_si σ 88 (σ.1 87 2).toNatClampNeg (vp_nar .byte ((rx_ishr v1 v2).toInt8.toInt32));
    let σ2 : rx_St := rx_si σ1 87 2 ((σ1.1 87 2) + (1 : Int32));
    f_m_put_3 n v1 (v2 + (-8 : Int32)) σ2))
def f_m_put (a0 : Int32) (σ : rx_St) : Option (rx_St) :=
  f_m_put_3 rx_fu a0 (24 : Int32) σ
def f_m_feed (a0 : Int32) (a1 : Int32) (a2 : Int32) (a3 : Int32) (a4 : Int32) (σ : rx_St) : Option (Int32 × rx_St) :=
  let σ1 : rx_St := rx_si σ 87 0 (0 : Int32);
    if ((σ1.1 87 2) + (20 : Int32)) ≤ (2000 : Int32) then
    ((f_m_put a0 σ1).bind fun y1 =>
    (f_m_put a1 y1).bind fun y2 =>
    (f_m_put a2 y2).bind fun y3 =>
    (f_m_put a3 y3).bind fun y4 =>
    (f_m_put a4 y4).bind fun y5 =>
    some (y5.1 87 2, y5))
    else
    some ((-1 : Int32), σ1)
def f_m_back (a0 : Int32) (σ : rx_St) : Option (Int32 × rx_St) :=
  let σ1 : rx_St := rx_si σ 87 0 (0 : Int32);
    if a0 < (0 : Int32) then
    some ((-1 : Int32), σ1)
    else
    if a0 ≤ (σ1.1 87 2) then
    (let σ2 : rx_St := rx_si σ1 87 2 ((σ1.1 87 2) - a0);
    some (σ2.1 87 2, σ2))
    else
    some ((-1 : Int32), σ1)
def f_m_at (a0 : Int32) (σ : rx_St) : Option (Int32) :=
  if (σ.1 87 4) ≤ a0 then
    some (0 : Int32)
    else
    (rx_g a0 2000 (
    some ((σ.1 89 a0.toNatClampNeg) &&& (255 : Int32))))
def f_m_isDigit (a0 : Int32) : Int32 :=
  if a0 < (48 : Int32) then
    (0 : Int32)
    else
    if (57 : Int32) < a0 then
    (0 : Int32)
    else
    (1 : Int32)
def f_m_isLetter (a0 : Int32) : Int32 :=
  if a0 < (97 : Int32) then
    (0 : Int32)
    else
    if (122 : Int32) < a0 then
    (0 : Int32)
    else
    (1 : Int32)
def f_m_token (a0 : Int32) (a1 : Int32) (a2 : Int32) (a3 : Int64) (σ : rx_St) : Option (rx_St) :=
  rx_g (σ.1 87 10) 503 (
    let σ1 : rx_St := rx_si σ 90 (σ.1 87 10).toNatClampNeg a0;
    rx_g (σ1.1 87 10) 503 (
    let σ2 : rx_St := rx_si σ1 91 (σ1.1 87 10).toNatClampNeg a1;
    rx_g (σ2.1 87 10) 503 (
    let σ3 : rx_St := rx_si σ2 92 (σ2.1 87 10).toNatClampNeg a2;
    rx_g (σ3.1 87 10) 503 (
    let σ4 : rx_St := rx_sl σ3 93 (σ3.1 87 10).toNatClampNeg a3;
    let σ5 : rx_St := rx_si σ4 87 10 ((σ4.1 87 10) + (1 : Int32));
    some σ5))))
def f_m_sign_173 (v1 : Int32) (v4 : Int32) (v5 : Int32) (σ : rx_St) : Option (Int32 × rx_St) :=
    (f_m_token v5 v1 (0 : Int32) (0 : Int64) σ).bind fun y1 =>
    if v4 ≤ (0 : Int32) then
    some ((1 : Int32), y1)
    else
    some ((2 : Int32), y1)
def f_m_sign_44 (v1 : Int32) (v2 : Int32) (s0 : Int32) (σ : rx_St) : Option (Int32 × rx_St) :=
    if s0 ≤ (0 : Int32) then
    if v2 = (59 : Int32) then
    f_m_sign_173 v1 s0 (4 : Int32) σ
    else
    if v2 = (40 : Int32) then
    f_m_sign_173 v1 s0 (6 : Int32) σ
    else
    if v2 = (41 : Int32) then
    f_m_sign_173 v1 s0 (7 : Int32) σ
    else
    if v2 = (43 : Int32) then
    f_m_sign_173 v1 s0 (8 : Int32) σ
    else
    if v2 = (45 : Int32) then
    f_m_sign_173 v1 s0 (9 : Int32) σ
    else
    if v2 = (42 : Int32) then
    f_m_sign_173 v1 s0 (10 : Int32) σ
    else
    if v2 = (60 : Int32) then
    f_m_sign_173 v1 s0 (13 : Int32) σ
    else
    if v2 = (47 : Int32) then
    f_m_sign_173 v1 s0 (15 : Int32) σ
    else
    if v2 = (61 : Int32) then
    f_m_sign_173 v1 s0 (5 : Int32) σ
    else
    f_m_sign_173 v1 s0 (3 : Int32) σ
    else
    f_m_sign_173 v1 s0 s0 σ
def f_m_sign (a0 : Int32) (a1 : Int32) (a2 : Int32) (σ : rx_St) : Option (Int32 × rx_St) :=
  if a2 = (61 : Int32) then
    if a1 = (61 : Int32) then
    f_m_sign_44 a0 a1 (11 : Int32) σ
    else
    if a1 = (33 : Int32) then
    f_m_sign_44 a0 a1 (12 : Int32) σ
    else
    if a1 = (60 : Int32) then
    f_m_sign_44 a0 a1 (14 : Int32) σ
    else
    f_m_sign_44 a0 a1 (0 : Int32) σ
    else
    f_m_sign_44 a0 a1 (0 : Int32) σ
def f_m_cut_291 (k7 : Int32 → rx_St → Option (rx_St)) (v1 : Int32) (σ : rx_St) : Option (rx_St) :=
    k7 v1 σ
def f_m_cut_67 (k7 : Int32 → rx_St → Option (rx_St)) (v1 : Int32) (σ : rx_St) : Option (rx_St) :=
    f_m_cut_291 k7 (v1 + (1 : Int32)) σ
def f_m_cut_261 (k7 : Int32 → rx_St → Option (rx_St)) (v1 : Int32) (v3 : Int32) (v4 : Int32) (s1 : Int32) (σ : rx_St) : Option (rx_St) :=
    (f_m_token s1 v1 v4 (0 : Int64) σ).bind fun y1 =>
    f_m_cut_291 k7 (v1 + v3) y1
def f_m_cut_244 (k7 : Int32 → rx_St → Option (rx_St)) (k208 : Int32 → Int32 → Int32 → rx_St → Option (rx_St)) (v1 : Int32) (v3 : Int32) (v4 : Int32) (σ : rx_St) : Option (rx_St) :=
    k208 v1 (v3 + (1 : Int32)) v4 σ
def f_m_cut_208 (k7 : Int32 → rx_St → Option (rx_St)) : Nat → Int32 → Int32 → Int32 → rx_St → Option (rx_St)
  | 0, _, _, _, _ => none
  | n + 1, v1, v3, v4, σ =>
    (f_m_at (v1 + v3) σ).bind fun y1 =>
    if (f_m_isDigit y1) = (0 : Int32) then
    if v3 ≤ (4 : Int32) then
    f_m_cut_261 k7 v1 v3 v4 (2 : Int32) σ
    else
    f_m_cut_261 k7 v1 v3 v4 (3 : Int32) σ
    else
    if (4 : Int32) ≤ v3 then
    f_m_cut_244 k7 (f_m_cut_208 k7 n) v1 v3 v4 σ
    else
    ((f_m_at (v1 + v3) σ).bind fun y2 =>
    let x3 : Int32 := (((10 : Int32) * v4) + y2) - (48 : Int32);
    f_m_cut_244 k7 (f_m_cut_208 k7 n) v1 v3 x3 σ)
def f_m_cut_179 (k7 : Int32 → rx_St → Option (rx_St)) (v1 : Int32) (v3 : Int32) (v4 : Int64) (v6 : Int32) (σ : rx_St) : Option (rx_St) :=
    (f_m_token v6 v1 (0 : Int32) v4 σ).bind fun y1 =>
    f_m_cut_291 k7 (v1 + v3) y1
def f_m_cut_173 (k7 : Int32 → rx_St → Option (rx_St)) (k146 : Int32 → Int32 → Int64 → Int32 → Int32 → rx_St → Option (rx_St)) (v1 : Int32) (v3 : Int32) (v4 : Int64) (v6 : Int32) (v7 : Int32) (σ : rx_St) : Option (rx_St) :=
    k146 v1 v3 v4 v6 (v7 + (1 : Int32)) σ
def f_m_cut_146 (k7 : Int32 → rx_St → Option (rx_St)) : Nat → Int32 → Int32 → Int64 → Int32 → Int32 → rx_St → Option (rx_St)
  | 0, _, _, _, _, _, _ => none
  | n + 1, v1, v3, v4, v6, v7, σ =>
    if (23 : Int32) ≤ v7 then
    f_m_cut_179 k7 v1 v3 v4 v6 σ
    else
    (rx_g v7 23 (
    if (lg_cmp (σ.2 94 v7.toNatClampNeg) v4) = (0 : Int32) then
    (let x1 : Int32 := (20 : Int32) + v7;
    f_m_cut_173 k7 (f_m_cut_146 k7 n) v1 v3 v4 x1 v7 σ)
    else
    f_m_cut_173 k7 (f_m_cut_146 k7 n) v1 v3 v4 v6 v7 σ))
def f_m_cut_135 (k7 : Int32 → rx_St → Option (rx_St)) (v1 : Int32) (v3 : Int32) (v4 : Int64) (s0 : Int32) (σ : rx_St) : Option (rx_St) :=
    if (7 : Int32) < v3 then
    f_m_cut_179 k7 v1 v3 v4 s0 σ
    else
    f_m_cut_146 k7 rx_fu v1 v3 v4 s0 (0 : Int32) σ
def f_m_cut_118 (k7 : Int32 → rx_St → Option (rx_St)) (k85 : Int32 → Int32 → Int64 → rx_St → Option (rx_St)) (v1 : Int32) (v3 : Int32) (v4 : Int64) (σ : rx_St) : Option (rx_St) :=
    k85 v1 (v3 + (1 : Int32)) v4 σ
def f_m_cut_85 (k7 : Int32 → rx_St → Option (rx_St)) : Nat → Int32 → Int32 → Int64 → rx_St → Option (rx_St)
  | 0, _, _, _, _ => none
  | n + 1, v1, v3, v4, σ =>
    (f_m_at (v1 + v3) σ).bind fun y1 =>
    if (f_m_isLetter y1) = (0 : Int32) then
    if v3 ≤ (8 : Int32) then
    f_m_cut_135 k7 v1 v3 v4 (1 : Int32) σ
    else
    f_m_cut_135 k7 v1 v3 v4 (3 : Int32) σ
    else
    if (8 : Int32) ≤ v3 then
    f_m_cut_118 k7 (f_m_cut_85 k7 n) v1 v3 v4 σ
    else
    ((f_m_at (v1 + v3) σ).bind fun y2 =>
    f_m_cut_118 k7 (f_m_cut_85 k7 n) v1 v3 (f_m_more v4 y2) σ)
def f_m_cut_7 : Nat → Int32 → rx_St → Option (rx_St)
  | 0, _, _ => none
  | n + 1, v1, σ =>
    if (500 : Int32) < (σ.1 87 10) then
    some σ
    else
    ((f_m_at v1 σ).bind fun y1 =>
    if v1 < (σ.1 87 4) then
    if y1 = (9 : Int32) then
    f_m_cut_67 (f_m_cut_7 n) v1 σ
    else
    if y1 = (10 : Int32) then
    f_m_cut_67 (f_m_cut_7 n) v1 σ
    else
    if y1 = (13 : Int32) then
    f_m_cut_67 (f_m_cut_7 n) v1 σ
    else
    if y1 = (32 : Int32) then
    f_m_cut_67 (f_m_cut_7 n) v1 σ
    else
    if (f_m_isLetter y1) = (0 : Int32) then
    if (f_m_isDigit y1) = (0 : Int32) then
    ((f_m_at (v1 + (1 : Int32)) σ).bind fun y2 =>
    (f_m_sign v1 y1 y2 σ).bind fun y3 =>
    f_m_cut_291 (f_m_cut_7 n) (v1 + y3.1) y3.2)
    else
    f_m_cut_208 (f_m_cut_7 n) rx_fu v1 (0 : Int32) (0 : Int32) σ
    else
    f_m_cut_85 (f_m_cut_7 n) rx_fu v1 (0 : Int32) (0 : Int64) σ
    else
    ((f_m_token (0 : Int32) (σ.1 87 4) (0 : Int32) (0 : Int64) σ).bind fun y4 =>
    some y4))
def f_m_cut (σ : rx_St) : Option (rx_St) :=
  let σ1 : rx_St := rx_si σ 87 10 (0 : Int32);
    f_m_cut_7 rx_fu (0 : Int32) σ1
def f_m_is (a0 : Int32) (σ : rx_St) : Option (Int32) :=
  if (σ.1 87 13) = (0 : Int32) then
    (rx_g (σ.1 87 11) 503 (
    if (σ.1 90 (σ.1 87 11).toNatClampNeg) = a0 then
    some (1 : Int32)
    else
    some (0 : Int32)))
    else
    some (0 : Int32)
def f_m_fail (a0 : Int32) (σ : rx_St) : Option (rx_St) :=
  if (σ.1 87 13) ≤ (0 : Int32) then
    (let σ1 : rx_St := rx_si σ 87 13 a0;
    rx_g (σ1.1 87 11) 503 (
    let σ2 : rx_St := rx_si σ1 87 14 (σ1.1 91 (σ1.1 87 11).toNatClampNeg);
    some σ2))
    else
    some σ
def f_m_wrong_46 (v1 : Int32) (v3 : Int32) (σ : rx_St) : Option (rx_St) :=
    let σ1 : rx_St := rx_si σ 87 15 v1;
    let σ2 : rx_St := rx_si σ1 87 16 v3;
    some σ2
def f_m_wrong (a0 : Int32) (a1 : Int32) (σ : rx_St) : Option (rx_St) :=
  rx_g a1 503 (
    let x1 : Int32 := σ.1 91 a1.toNatClampNeg;
    if (0 : Int32) < (σ.1 87 13) then
    some σ
    else
    if (σ.1 87 15) = (0 : Int32) then
    f_m_wrong_46 a0 x1 σ
    else
    if (σ.1 87 16) < x1 then
    some σ
    else
    if x1 = (σ.1 87 16) then
    if a0 < (σ.1 87 15) then
    f_m_wrong_46 a0 x1 σ
    else
    some σ
    else
    f_m_wrong_46 a0 x1 σ)
def f_m_next (σ : rx_St) : Option (rx_St) :=
  if (σ.1 87 11) = (500 : Int32) then
    ((f_m_fail (2 : Int32) σ).bind fun y1 =>
    some y1)
    else
    (let σ1 : rx_St := rx_si σ 87 11 ((σ.1 87 11) + (1 : Int32));
    some σ1)
def f_m_must (a0 : Int32) (σ : rx_St) : Option (rx_St) :=
  (f_m_is a0 σ).bind fun y1 =>
    if y1 = (0 : Int32) then
    ((f_m_fail (1 : Int32) σ).bind fun y2 =>
    some y2)
    else
    ((f_m_next σ).bind fun y3 =>
    some y3)
def f_m_isNamed_44 : Nat → Int64 → Int32 → rx_St → Option (Int32)
  | 0, _, _, _ => none
  | n + 1, v1, v3, σ =>
    rx_g (σ.1 87 19) 2 (
    if (σ.1 98 (σ.1 87 19).toNatClampNeg) ≤ v3 then
    some (0 : Int32)
    else
    (rx_g (((5 : Int32) * (σ.1 87 19)) + v3) 10 (
    if (lg_cmp (σ.2 99 (((5 : Int32) * (σ.1 87 19)) + v3).toNatClampNeg) v1) = (0 : Int32) then
    some (1 : Int32)
    else
    f_m_isNamed_44 n v1 (v3 + (1 : Int32)) σ)))
def f_m_isNamed_2 : Nat → Int64 → Int32 → rx_St → Option (Int32)
  | 0, _, _, _ => none
  | n + 1, v1, v3, σ =>
    rx_g (σ.1 87 19) 2 (
    if (σ.1 95 (σ.1 87 19).toNatClampNeg) ≤ v3 then
    f_m_isNamed_44 rx_fu v1 (0 : Int32) σ
    else
    (rx_g (((6 : Int32) * (σ.1 87 19)) + v3) 12 (
    if (lg_cmp (σ.2 96 (((6 : Int32) * (σ.1 87 19)) + v3).toNatClampNeg) v1) = (0 : Int32) then
    some (1 : Int32)
    else
    f_m_isNamed_2 n v1 (v3 + (1 : Int32)) σ)))
def f_m_isNamed (a0 : Int64) (σ : rx_St) : Option (Int32) :=
  f_m_isNamed_2 rx_fu a0 (0 : Int32) σ
def f_m_tellSet_96 (v1 : Int32) (v2 : Int32) (σ : rx_St) : Option (rx_St) :=
    rx_g (σ.1 87 19) 2 (
    rx_g v1 503 (
    rx_g (((6 : Int32) * (σ.1 87 19)) + (σ.1 95 (σ.1 87 19).toNatClampNeg)) 12 (
    let σ1 : rx_St := rx_sl σ 96 (((6 : Int32) * (σ.1 87 19)) + (σ.1 95 (σ.1 87 19).toNatClampNeg)).toNatClampNeg (σ.2 93 v1.toNatClampNeg);
    rx_g (σ1.1 87 19) 2 (
    rx_g (((6 : Int32) * (σ1.1 87 19)) + (σ1.1 95 (σ1.1 87 19).toNatClampNeg)) 12 (
    let σ2 : rx_St := rx_si σ1 97 (((6 : Int32) * (σ1.1 87 19)) + (σ1.1 95 (σ1.1 87 19).toNatClampNeg)).toNatClampNeg v2;
    rx_g (σ2.1 87 19) 2 (
    rx_g (σ2.1 87 19) 2 (
    let σ3 : rx_St := rx_si σ2 95 (σ2.1 87 19).toNatClampNeg ((σ2.1 95 (σ2.1 87 19).toNatClampNeg) + (1 : Int32));
    some σ3)))))))
def f_m_tellSet_58 (v1 : Int32) (s0 : Int32) (σ : rx_St) : Option (rx_St) :=
    (f_m_must (2 : Int32) σ).bind fun y1 =>
    (f_m_must (4 : Int32) y1).bind fun y2 =>
    if (y2.1 87 13) ≤ (0 : Int32) then
    (rx_g v1 503 (
    (f_m_isNamed (y2.2 93 v1.toNatClampNeg) y2).bind fun y3 =>
    if y3 = (0 : Int32) then
    f_m_tellSet_96 v1 s0 y2
    else
    ((f_m_wrong (3 : Int32) v1 y2).bind fun y4 =>
    f_m_tellSet_96 v1 s0 y4)))
    else
    some y2
def f_m_tellSet_19 (σ : rx_St) : Option (rx_St) :=
    (f_m_next σ).bind fun y1 =>
    (f_m_must (1 : Int32) y1).bind fun y2 =>
    (f_m_must (5 : Int32) y2).bind fun y3 =>
    if (y3.1 87 13) ≤ (0 : Int32) then
    (rx_g (y3.1 87 11) 503 (
    f_m_tellSet_58 (y1.1 87 11) (y3.1 92 (y3.1 87 11).toNatClampNeg) y3))
    else
    f_m_tellSet_58 (y1.1 87 11) (0 : Int32) y3
def f_m_tellSet (σ : rx_St) : Option (rx_St) :=
  rx_g (σ.1 87 19) 2 (
    if (σ.1 95 (σ.1 87 19).toNatClampNeg) = (6 : Int32) then
    ((f_m_fail (2 : Int32) σ).bind fun y1 =>
    f_m_tellSet_19 y1)
    else
    f_m_tellSet_19 σ)
def f_m_varOf_3 : Nat → Int32 → Int64 → Int32 → rx_St → Option (Int32)
  | 0, _, _, _, _ => none
  | n + 1, v1, v2, v4, σ =>
    rx_g v1 10 (
    if (σ.1 100 v1.toNatClampNeg) ≤ v4 then
    some (-1 : Int32)
    else
    (rx_g (((6 : Int32) * v1) + v4) 60 (
    if (lg_cmp (σ.2 101 (((6 : Int32) * v1) + v4).toNatClampNeg) v2) = (0 : Int32) then
    some v4
    else
    f_m_varOf_3 n v1 v2 (v4 + (1 : Int32)) σ)))
def f_m_varOf (a0 : Int32) (a1 : Int64) (σ : rx_St) : Option (Int32) :=
  f_m_varOf_3 rx_fu a0 a1 (0 : Int32) σ
def f_m_tellVar_137 (v1 : Int32) (v2 : Int32) (v3 : Int32) (v4 : Int32) (σ : rx_St) : Option (rx_St) :=
    rx_g (σ.1 87 56) 10 (
    let x1 : Int32 := ((6 : Int32) * (σ.1 87 56)) + (σ.1 100 (σ.1 87 56).toNatClampNeg);
    rx_g v2 503 (
    rx_g x1 60 (
    let σ1 : rx_St := rx_sl σ 101 x1.toNatClampNeg (σ.2 93 v2.toNatClampNeg);
    rx_g x1 60 (
    let σ2 : rx_St := rx_si σ1 102 x1.toNatClampNeg (v3 * v4);
    rx_g x1 60 (
    let σ3 : rx_St := rx_si σ2 103 x1.toNatClampNeg (vp_nar .boolean v1);
    rx_g (σ3.1 87 56) 10 (
    rx_g (σ3.1 87 56) 10 (
    let σ4 : rx_St := rx_si σ3 100 (σ3.1 87 56).toNatClampNeg ((σ3.1 100 (σ3.1 87 56).toNatClampNeg) + (1 : Int32));
    some σ4)))))))
def f_m_tellVar_93 (v1 : Int32) (v2 : Int32) (v3 : Int32) (s0 : Int32) (σ : rx_St) : Option (rx_St) :=
    (f_m_must (2 : Int32) σ).bind fun y1 =>
    (f_m_must (4 : Int32) y1).bind fun y2 =>
    if (y2.1 87 13) ≤ (0 : Int32) then
    (rx_g v2 503 (
    (f_m_varOf (y2.1 87 56) (y2.2 93 v2.toNatClampNeg) y2).bind fun y3 =>
    if y3 = (-1 : Int32) then
    f_m_tellVar_137 v1 v2 v3 s0 y2
    else
    ((f_m_wrong (3 : Int32) v2 y2).bind fun y4 =>
    f_m_tellVar_137 v1 v2 v3 s0 y4)))
    else
    some y2
def f_m_tellVar_73 (v1 : Int32) (v2 : Int32) (v3 : Int32) (σ : rx_St) : Option (rx_St) :=
    if (σ.1 87 13) ≤ (0 : Int32) then
    (rx_g (σ.1 87 11) 503 (
    f_m_tellVar_93 v1 v2 v3 (σ.1 92 (σ.1 87 11).toNatClampNeg) σ))
    else
    f_m_tellVar_93 v1 v2 v3 (0 : Int32) σ
def f_m_tellVar_59 (v1 : Int32) (v2 : Int32) (s0 : Int32) (σ : rx_St) : Option (rx_St) :=
    (f_m_is (9 : Int32) σ).bind fun y1 =>
    if y1 = (0 : Int32) then
    f_m_tellVar_73 v1 v2 s0 σ
    else
    ((f_m_next σ).bind fun y2 =>
    f_m_tellVar_73 v1 v2 s0 y2)
def f_m_tellVar_19 (σ : rx_St) : Option (rx_St) :=
    (f_m_is (24 : Int32) σ).bind fun y1 =>
    (f_m_next σ).bind fun y2 =>
    (f_m_must (1 : Int32) y2).bind fun y3 =>
    (f_m_must (5 : Int32) y3).bind fun y4 =>
    (f_m_is (9 : Int32) y4).bind fun y5 =>
    if y5 = (0 : Int32) then
    f_m_tellVar_59 y1 (y2.1 87 11) (1 : Int32) y4
    else
    f_m_tellVar_59 y1 (y2.1 87 11) (-1 : Int32) y4
def f_m_tellVar (σ : rx_St) : Option (rx_St) :=
  rx_g (σ.1 87 56) 10 (
    if (σ.1 100 (σ.1 87 56).toNatClampNeg) = (6 : Int32) then
    ((f_m_fail (2 : Int32) σ).bind fun y1 =>
    f_m_tellVar_19 y1)
    else
    f_m_tellVar_19 σ)
def f_m_emit (a0 : Int32) (a1 : Int32) (σ : rx_St) : Option (rx_St) :=
  rx_g (σ.1 87 46) 1400 (
    let σ1 : rx_St := rx_si σ 120 (σ.1 87 46).toNatClampNeg a0;
    rx_g (σ1.1 87 46) 1400 (
    let σ2 : rx_St := rx_si σ1 121 (σ1.1 87 46).toNatClampNeg a1;
    rx_g (σ2.1 87 46) 1400 (
    let σ3 : rx_St := rx_si σ2 122 (σ2.1 87 46).toNatClampNeg (0 : Int32);
    let σ4 : rx_St := rx_si σ3 87 46 ((σ3.1 87 46) + (1 : Int32));
    some σ4)))
def f_m_asks (a0 : Int32) (a1 : Int32) (a2 : Int32) (a3 : Int32) (σ : rx_St) : Option (rx_St) :=
  rx_g (σ.1 87 50) 500 (
    let σ1 : rx_St := rx_si σ 123 (σ.1 87 50).toNatClampNeg a0;
    rx_g (σ1.1 87 50) 500 (
    let σ2 : rx_St := rx_si σ1 124 (σ1.1 87 50).toNatClampNeg a1;
    rx_g (σ2.1 87 50) 500 (
    let σ3 : rx_St := rx_si σ2 125 (σ2.1 87 50).toNatClampNeg (σ2.1 87 56);
    rx_g (σ3.1 87 50) 500 (
    let σ4 : rx_St := rx_si σ3 126 (σ3.1 87 50).toNatClampNeg a2;
    rx_g (σ4.1 87 50) 500 (
    let σ5 : rx_St := rx_si σ4 127 (σ4.1 87 50).toNatClampNeg a3;
    let σ6 : rx_St := rx_si σ5 87 50 ((σ5.1 87 50) + (1 : Int32));
    some σ6)))))
def f_m_unit_404 (s1 : Int32) (σ : rx_St) : Option (rx_St) :=
    (f_m_emit s1 (0 : Int32) σ).bind fun y1 =>
    some y1
def f_m_unit_381 (v3 : Int32) (v4 : Int32) (v5 : Int32) (s1 : Int32) (σ : rx_St) : Option (rx_St) :=
    (f_m_asks s1 (σ.1 87 46) v4 v5 σ).bind fun y1 =>
    if v3 = (0 : Int32) then
    f_m_unit_404 (8 : Int32) y1
    else
    f_m_unit_404 (7 : Int32) y1
def f_m_unit_363 (v3 : Int32) (v4 : Int32) (v5 : Int32) (σ : rx_St) : Option (rx_St) :=
    if (σ.1 87 13) ≤ (0 : Int32) then
    if v3 = (0 : Int32) then
    f_m_unit_381 v3 v4 v5 (1 : Int32) σ
    else
    f_m_unit_381 v3 v4 v5 (0 : Int32) σ
    else
    some σ
def f_m_unit_326 (σ : rx_St) : Option (rx_St) :=
    (f_m_is (41 : Int32) σ).bind fun y1 =>
    (f_m_next σ).bind fun y2 =>
    (f_m_must (1 : Int32) y2).bind fun y3 =>
    if y1 = (0 : Int32) then
    f_m_unit_363 y1 (y2.1 87 11) (y3.1 87 11) y3
    else
    ((f_m_must (1 : Int32) y3).bind fun y4 =>
    f_m_unit_363 y1 (y2.1 87 11) (y3.1 87 11) y4)
def f_m_unit_297 (v4 : Int32) (σ : rx_St) : Option (rx_St) :=
    (f_m_emit (6 : Int32) v4 σ).bind fun y1 =>
    some y1
def f_m_unit_272 (v3 : Int32) (s0 : Int32) (σ : rx_St) : Option (rx_St) :=
    (f_m_must (2 : Int32) σ).bind fun y1 =>
    if (y1.1 87 13) = (0 : Int32) then
    if s0 = (0 : Int32) then
    ((f_m_wrong (5 : Int32) v3 y1).bind fun y2 =>
    f_m_unit_297 s0 y2)
    else
    f_m_unit_297 s0 y1
    else
    f_m_unit_297 s0 y1
def f_m_unit_234 (σ : rx_St) : Option (rx_St) :=
    (f_m_is (40 : Int32) σ).bind fun y1 =>
    if y1 = (0 : Int32) then
    ((f_m_is (41 : Int32) σ).bind fun y2 =>
    if y2 = (0 : Int32) then
    ((f_m_is (42 : Int32) σ).bind fun y3 =>
    if y3 = (0 : Int32) then
    ((f_m_fail (1 : Int32) σ).bind fun y4 =>
    some y4)
    else
    f_m_unit_326 σ)
    else
    f_m_unit_326 σ)
    else
    ((f_m_next σ).bind fun y5 =>
    if (y5.1 87 13) ≤ (0 : Int32) then
    (rx_g (y5.1 87 11) 503 (
    f_m_unit_272 (y5.1 87 11) (y5.1 92 (y5.1 87 11).toNatClampNeg) y5))
    else
    f_m_unit_272 (y5.1 87 11) (0 : Int32) y5)
def f_m_unit_194 (s1 : Int32) (s2 : Int32) (σ : rx_St) : Option (rx_St) :=
    (f_m_emit s1 s2 σ).bind fun y1 =>
    (f_m_next y1).bind fun y2 =>
    some y2
def f_m_unit_173 (v3 : Int32) (v4 : Int32) (s1 : Int32) (σ : rx_St) : Option (rx_St) :=
    if v3 = (-1 : Int32) then
    if v4 = (-1 : Int32) then
    f_m_unit_194 s1 (0 : Int32) σ
    else
    f_m_unit_194 s1 v4 σ
    else
    f_m_unit_194 s1 v3 σ
def f_m_unit_162 (v3 : Int32) (v4 : Int32) (σ : rx_St) : Option (rx_St) :=
    if v3 = (-1 : Int32) then
    f_m_unit_173 v3 v4 (2 : Int32) σ
    else
    f_m_unit_173 v3 v4 (1 : Int32) σ
def f_m_unit_139 (k87 : Int32 → Int32 → Int32 → Int32 → rx_St → Option (rx_St)) (v2 : Int32) (v3 : Int32) (v4 : Int32) (v5 : Int32) (σ : rx_St) : Option (rx_St) :=
    k87 v2 v3 v4 (v5 + (1 : Int32)) σ
def f_m_unit_87 : Nat → Int32 → Int32 → Int32 → Int32 → rx_St → Option (rx_St)
  | 0, _, _, _, _, _ => none
  | n + 1, v2, v3, v4, v5, σ =>
    rx_g (σ.1 87 19) 2 (
    if (σ.1 95 (σ.1 87 19).toNatClampNeg) ≤ v5 then
    if v3 = (-1 : Int32) then
    if v4 = (-1 : Int32) then
    ((f_m_wrong (4 : Int32) v2 σ).bind fun y1 =>
    f_m_unit_162 v3 v4 y1)
    else
    f_m_unit_162 v3 v4 σ
    else
    f_m_unit_162 v3 v4 σ
    else
    if v4 = (-1 : Int32) then
    (rx_g (((6 : Int32) * (σ.1 87 19)) + v5) 12 (
    rx_g (σ.1 87 11) 503 (
    if (lg_cmp (σ.2 96 (((6 : Int32) * (σ.1 87 19)) + v5).toNatClampNeg) (σ.2 93 (σ.1 87 11).toNatClampNeg)) = (0 : Int32) then
    f_m_unit_139 (f_m_unit_87 n) v2 v3 v5 v5 σ
    else
    f_m_unit_139 (f_m_unit_87 n) v2 v3 v4 v5 σ)))
    else
    f_m_unit_139 (f_m_unit_87 n) v2 v3 v4 v5 σ)
def f_m_unit_20 (s0 : Int32) (σ : rx_St) : Option (rx_St) :=
    (f_m_is (2 : Int32) σ).bind fun y1 =>
    if y1 = (0 : Int32) then
    ((f_m_is (1 : Int32) σ).bind fun y2 =>
    if y2 = (0 : Int32) then
    if s0 < (37 : Int32) then
    f_m_unit_234 σ
    else
    if (39 : Int32) < s0 then
    f_m_unit_234 σ
    else
    ((f_m_emit ((s0 - (37 : Int32)) + (3 : Int32)) (0 : Int32) σ).bind fun y3 =>
    (f_m_next y3).bind fun y4 =>
    some y4)
    else
    (rx_g (σ.1 87 11) 503 (
    (f_m_varOf (σ.1 87 56) (σ.2 93 (σ.1 87 11).toNatClampNeg) σ).bind fun y5 =>
    f_m_unit_87 rx_fu (σ.1 87 11) y5 (-1 : Int32) (0 : Int32) σ)))
    else
    (rx_g (σ.1 87 11) 503 (
    (f_m_emit (0 : Int32) (σ.1 92 (σ.1 87 11).toNatClampNeg) σ).bind fun y6 =>
    (f_m_next y6).bind fun y7 =>
    some y7))
def f_m_unit (σ : rx_St) : Option (rx_St) :=
  if (σ.1 87 13) ≤ (0 : Int32) then
    (rx_g (σ.1 87 11) 503 (
    f_m_unit_20 (σ.1 90 (σ.1 87 11).toNatClampNeg) σ))
    else
    f_m_unit_20 (0 : Int32) σ
def f_m_comesOut_88 (k0 : Int32 → rx_St → Option (rx_St)) (v1 : Int32) (s1 : Int32) (σ : rx_St) : Option (rx_St) :=
    (f_m_emit s1 (0 : Int32) σ).bind fun y1 =>
    k0 v1 y1
def f_m_comesOut_42 (k0 : Int32 → rx_St → Option (rx_St)) (v1 : Int32) (v2 : Int32) (σ : rx_St) : Option (rx_St) :=
    let σ1 : rx_St := rx_si σ 87 58 ((σ.1 87 58) - (1 : Int32));
    if v2 = (8 : Int32) then
    f_m_comesOut_88 k0 v1 (9 : Int32) σ1
    else
    if v2 = (9 : Int32) then
    f_m_comesOut_88 k0 v1 (10 : Int32) σ1
    else
    if v2 = (10 : Int32) then
    f_m_comesOut_88 k0 v1 (11 : Int32) σ1
    else
    f_m_comesOut_88 k0 v1 (12 : Int32) σ1
def f_m_comesOut_0 : Nat → Int32 → rx_St → Option (rx_St)
  | 0, _, _ => none
  | n + 1, v1, σ =>
    if (σ.1 87 58) ≤ (0 : Int32) then
    some σ
    else
    (rx_g ((σ.1 87 58) - (1 : Int32)) 64 (
    let x1 : Int32 := σ.1 128 ((σ.1 87 58) - (1 : Int32)).toNatClampNeg;
    if x1 = (6 : Int32) then
    some σ
    else
    if v1 = (0 : Int32) then
    f_m_comesOut_42 (f_m_comesOut_0 n) v1 x1 σ
    else
    if x1 = (8 : Int32) then
    some σ
    else
    if x1 = (9 : Int32) then
    some σ
    else
    f_m_comesOut_42 (f_m_comesOut_0 n) v1 x1 σ))
def f_m_comesOut (a0 : Int32) (σ : rx_St) : Option (rx_St) :=
  f_m_comesOut_0 rx_fu a0 σ
def f_m_expression_204 (σ : rx_St) : Option (rx_St) :=
    (f_m_comesOut (0 : Int32) σ).bind fun y1 =>
    some y1
def f_m_expression_234 (k12 : Int32 → Int32 → rx_St → Option (rx_St)) (v1 : Int32) (v2 : Int32) (s1 : Int32) (σ : rx_St) : Option (rx_St) :=
    (f_m_comesOut s1 σ).bind fun y1 =>
    rx_g (y1.1 87 11) 503 (
    rx_g (y1.1 87 58) 64 (
    let σ1 : rx_St := rx_si y1 128 (y1.1 87 58).toNatClampNeg (y1.1 90 (y1.1 87 11).toNatClampNeg);
    let σ2 : rx_St := rx_si σ1 87 58 ((σ1.1 87 58) + (1 : Int32));
    (f_m_next σ2).bind fun y2 =>
    k12 v1 v2 y2))
def f_m_expression_229 (k12 : Int32 → Int32 → rx_St → Option (rx_St)) (v1 : Int32) (v2 : Int32) (σ : rx_St) : Option (rx_St) :=
    f_m_expression_234 k12 v1 v2 (1 : Int32) σ
def f_m_expression_186 (k12 : Int32 → Int32 → rx_St → Option (rx_St)) (v1 : Int32) (s0 : Int32) (σ : rx_St) : Option (rx_St) :=
    if s0 = (0 : Int32) then
    if (σ.1 87 12) ≤ v1 then
    f_m_expression_204 σ
    else
    ((f_m_fail (1 : Int32) σ).bind fun y1 =>
    f_m_expression_204 y1)
    else
    ((f_m_is (10 : Int32) σ).bind fun y2 =>
    if y2 = (0 : Int32) then
    ((f_m_is (15 : Int32) σ).bind fun y3 =>
    if y3 = (0 : Int32) then
    f_m_expression_234 k12 v1 s0 (0 : Int32) σ
    else
    f_m_expression_229 k12 v1 s0 σ)
    else
    f_m_expression_229 k12 v1 s0 σ)
def f_m_expression_181 (k12 : Int32 → Int32 → rx_St → Option (rx_St)) (v1 : Int32) (σ : rx_St) : Option (rx_St) :=
    f_m_expression_186 k12 v1 (1 : Int32) σ
def f_m_expression_145 (k12 : Int32 → Int32 → rx_St → Option (rx_St)) (v1 : Int32) (σ : rx_St) : Option (rx_St) :=
    (f_m_is (8 : Int32) σ).bind fun y1 =>
    if y1 = (0 : Int32) then
    ((f_m_is (9 : Int32) σ).bind fun y2 =>
    if y2 = (0 : Int32) then
    ((f_m_is (10 : Int32) σ).bind fun y3 =>
    if y3 = (0 : Int32) then
    ((f_m_is (15 : Int32) σ).bind fun y4 =>
    if y4 = (0 : Int32) then
    f_m_expression_186 k12 v1 (0 : Int32) σ
    else
    f_m_expression_181 k12 v1 σ)
    else
    f_m_expression_181 k12 v1 σ)
    else
    f_m_expression_181 k12 v1 σ)
    else
    f_m_expression_181 k12 v1 σ
def f_m_expression_96 (k12 : Int32 → Int32 → rx_St → Option (rx_St)) : Nat → Int32 → rx_St → Option (rx_St)
  | 0, _, _ => none
  | n + 1, v1, σ =>
    (f_m_is (7 : Int32) σ).bind fun y1 =>
    if y1 = (0 : Int32) then
    f_m_expression_145 k12 v1 σ
    else
    if (σ.1 87 12) ≤ v1 then
    f_m_expression_145 k12 v1 σ
    else
    ((f_m_comesOut (0 : Int32) σ).bind fun y2 =>
    let σ1 : rx_St := rx_si y2 87 58 ((y2.1 87 58) - (1 : Int32));
    let σ2 : rx_St := rx_si σ1 87 12 ((σ1.1 87 12) - (1 : Int32));
    (f_m_next σ2).bind fun y3 =>
    f_m_expression_96 k12 n v1 y3)
def f_m_expression_46 (k12 : Int32 → Int32 → rx_St → Option (rx_St)) (k23 : Int32 → rx_St → Option (rx_St)) (v1 : Int32) (σ : rx_St) : Option (rx_St) :=
    let σ1 : rx_St := rx_si σ 87 12 ((σ.1 87 12) + (1 : Int32));
    (f_m_next σ1).bind fun y1 =>
    rx_g (y1.1 87 58) 64 (
    let σ2 : rx_St := rx_si y1 128 (y1.1 87 58).toNatClampNeg (6 : Int32);
    let σ3 : rx_St := rx_si σ2 87 58 ((σ2.1 87 58) + (1 : Int32));
    k23 v1 σ3)
def f_m_expression_23 (k12 : Int32 → Int32 → rx_St → Option (rx_St)) : Nat → Int32 → rx_St → Option (rx_St)
  | 0, _, _ => none
  | n + 1, v1, σ =>
    (f_m_is (6 : Int32) σ).bind fun y1 =>
    if y1 = (0 : Int32) then
    ((f_m_unit σ).bind fun y2 =>
    if (y2.1 87 13) ≤ (0 : Int32) then
    f_m_expression_96 k12 rx_fu v1 y2
    else
    some y2)
    else
    if (σ.1 87 12) = (6 : Int32) then
    ((f_m_fail (2 : Int32) σ).bind fun y3 =>
    f_m_expression_46 k12 (f_m_expression_23 k12 n) v1 y3)
    else
    f_m_expression_46 k12 (f_m_expression_23 k12 n) v1 σ
def f_m_expression_12 : Nat → Int32 → Int32 → rx_St → Option (rx_St)
  | 0, _, _, _ => none
  | n + 1, v1, v2, σ =>
    if v2 = (0 : Int32) then
    some σ
    else
    if (σ.1 87 13) = (0 : Int32) then
    f_m_expression_23 (f_m_expression_12 n) rx_fu v1 σ
    else
    some σ
def f_m_expression (σ : rx_St) : Option (rx_St) :=
  let σ1 : rx_St := rx_si σ 87 58 (0 : Int32);
    f_m_expression_12 rx_fu (σ1.1 87 12) (1 : Int32) σ1
def f_m_literal_85 (v1 : Int32) (v2 : Int32) (v3 : Int32) (v4 : Int32) (σ : rx_St) : Option (rx_St) :=
    (f_m_next σ).bind fun y1 =>
    (f_m_expression y1).bind fun y2 =>
    if (y2.1 87 13) ≤ (0 : Int32) then
    (rx_g (y2.1 87 39) 500 (
    let σ1 : rx_St := rx_si y2 114 (y2.1 87 39).toNatClampNeg v4;
    rx_g (σ1.1 87 39) 500 (
    let σ2 : rx_St := rx_si σ1 115 (σ1.1 87 39).toNatClampNeg (vp_nar .boolean v2);
    rx_g (σ2.1 87 39) 500 (
    let σ3 : rx_St := rx_si σ2 116 (σ2.1 87 39).toNatClampNeg (vp_nar .boolean v1);
    rx_g (σ3.1 87 39) 500 (
    let σ4 : rx_St := rx_si σ3 117 (σ3.1 87 39).toNatClampNeg v3;
    rx_g (σ4.1 87 39) 500 (
    let σ5 : rx_St := rx_si σ4 118 (σ4.1 87 39).toNatClampNeg (y1.1 87 46);
    rx_g (σ5.1 87 39) 500 (
    let σ6 : rx_St := rx_si σ5 119 (σ5.1 87 39).toNatClampNeg (σ5.1 87 46);
    let σ7 : rx_St := rx_si σ6 87 39 ((σ6.1 87 39) + (1 : Int32));
    some σ7)))))))
    else
    some y2
def f_m_literal_80 (v1 : Int32) (v2 : Int32) (v3 : Int32) (v4 : Int32) (σ : rx_St) : Option (rx_St) :=
    (f_m_fail (1 : Int32) σ).bind fun y1 =>
    f_m_literal_85 v1 v2 v3 v4 y1
def f_m_literal_60 (v1 : Int32) (v2 : Int32) (v3 : Int32) (s0 : Int32) (σ : rx_St) : Option (rx_St) :=
    if (σ.1 87 13) = (0 : Int32) then
    if s0 < (0 : Int32) then
    f_m_literal_80 v1 v2 v3 s0 σ
    else
    if s0 ≤ (3 : Int32) then
    f_m_literal_85 v1 v2 v3 s0 σ
    else
    f_m_literal_80 v1 v2 v3 s0 σ
    else
    f_m_literal_85 v1 v2 v3 s0 σ
def f_m_literal_20 (k2 : Int32 → Int32 → rx_St → Option (rx_St)) (v1 : Int32) (s0 : Int32) (σ : rx_St) : Option (rx_St) :=
    (f_m_next σ).bind fun y1 =>
    k2 v1 s0 y1
def f_m_literal_2 : Nat → Int32 → Int32 → rx_St → Option (rx_St)
  | 0, _, _, _ => none
  | n + 1, v1, v2, σ =>
    (f_m_is (36 : Int32) σ).bind fun y1 =>
    if y1 = (0 : Int32) then
    ((f_m_expression σ).bind fun y2 =>
    if (y2.1 87 13) ≤ (0 : Int32) then
    (rx_g (y2.1 87 11) 503 (
    f_m_literal_60 v1 v2 (σ.1 87 46) ((y2.1 90 (y2.1 87 11).toNatClampNeg) - (11 : Int32)) y2))
    else
    f_m_literal_60 v1 v2 (σ.1 87 46) (0 : Int32) y2)
    else
    if v2 = (0 : Int32) then
    f_m_literal_20 (f_m_literal_2 n) v1 (1 : Int32) σ
    else
    f_m_literal_20 (f_m_literal_2 n) v1 (0 : Int32) σ
def f_m_literal (a0 : Int32) (σ : rx_St) : Option (rx_St) :=
  f_m_literal_2 rx_fu a0 (0 : Int32) σ
def f_m_ownVar_45 (v2 : Int32) (σ : rx_St) : Option (Int32 × rx_St) :=
    if v2 = (-1 : Int32) then
    some ((0 : Int32), σ)
    else
    some (v2, σ)
def f_m_ownVar (σ : rx_St) : Option (Int32 × rx_St) :=
  (f_m_must (1 : Int32) σ).bind fun y1 =>
    if (y1.1 87 13) ≤ (0 : Int32) then
    (rx_g (σ.1 87 11) 503 (
    (f_m_varOf (y1.1 87 56) (y1.2 93 (σ.1 87 11).toNatClampNeg) y1).bind fun y2 =>
    if y2 = (-1 : Int32) then
    ((f_m_wrong (4 : Int32) (σ.1 87 11) y1).bind fun y3 =>
    f_m_ownVar_45 y2 y3)
    else
    f_m_ownVar_45 y2 y1))
    else
    some ((0 : Int32), y1)
def f_m_tellWish_237 (v1 : Int32) (v2 : Int32) (v3 : Int32) (σ : rx_St) : Option (rx_St) :=
    (f_m_must (4 : Int32) σ).bind fun y1 =>
    rx_g v3 480 (
    let σ1 : rx_St := rx_si y1 108 v3.toNatClampNeg v2;
    if (σ1.1 87 13) = (0 : Int32) then
    (rx_g v1 80 (
    rx_g v1 80 (
    let σ2 : rx_St := rx_si σ1 107 v1.toNatClampNeg ((σ1.1 107 v1.toNatClampNeg) + (1 : Int32));
    some σ2)))
    else
    some σ1)
def f_m_tellWish_209 (v1 : Int32) (v2 : Int32) (v3 : Int32) (v4 : Int32) (σ : rx_St) : Option (rx_St) :=
    (f_m_must (1 : Int32) σ).bind fun y1 =>
    if (y1.1 87 13) = (0 : Int32) then
    ((f_m_asks (2 : Int32) v3 (σ.1 87 11) v4 y1).bind fun y2 =>
    f_m_tellWish_237 v1 v2 v3 y2)
    else
    f_m_tellWish_237 v1 v2 v3 y1
def f_m_tellWish_187 (v1 : Int32) (v2 : Int32) (v3 : Int32) (v4 : Int32) (σ : rx_St) : Option (rx_St) :=
    (f_m_is (32 : Int32) σ).bind fun y1 =>
    if y1 = (0 : Int32) then
    ((f_m_must (31 : Int32) σ).bind fun y2 =>
    f_m_tellWish_209 v1 v2 v3 v4 y2)
    else
    ((f_m_next σ).bind fun y3 =>
    f_m_tellWish_209 v1 v2 v3 v4 y3)
def f_m_tellWish_155 (v1 : Int32) (v2 : Int32) (v3 : Int32) (v4 : Int32) (σ : rx_St) : Option (rx_St) :=
    rx_g v3 480 (
    let σ1 : rx_St := rx_si σ 113 v3.toNatClampNeg (σ.1 87 46);
    if v2 = (2 : Int32) then
    ((f_m_must (30 : Int32) σ1).bind fun y1 =>
    (f_m_is (32 : Int32) y1).bind fun y2 =>
    if y2 = (0 : Int32) then
    f_m_tellWish_187 v1 v2 v3 v4 y1
    else
    f_m_tellWish_187 v1 (3 : Int32) v3 v4 y1)
    else
    f_m_tellWish_237 v1 v2 v3 σ1)
def f_m_tellWish_135 (v1 : Int32) (v2 : Int32) (v3 : Int32) (v4 : Int32) (s1 : Int32) (s2 : Int32) (σ : rx_St) : Option (rx_St) :=
    rx_g s1 480 (
    let σ1 : rx_St := rx_si σ 109 s1.toNatClampNeg s2;
    rx_g v3 480 (
    let σ2 : rx_St := rx_si σ1 112 v3.toNatClampNeg (σ1.1 87 46);
    if v2 = (4 : Int32) then
    f_m_tellWish_155 v1 v2 v3 v4 σ2
    else
    ((f_m_expression σ2).bind fun y1 =>
    f_m_tellWish_155 v1 v2 v3 v4 y1)))
def f_m_tellWish_127 (v1 : Int32) (v2 : Int32) (v3 : Int32) (v4 : Int32) (s1 : Int32) (σ : rx_St) : Option (rx_St) :=
    (f_m_ownVar σ).bind fun y1 =>
    f_m_tellWish_135 v1 v2 v3 v4 s1 y1.1 y1.2
def f_m_tellWish_83 (v1 : Int32) (v2 : Int32) (σ : rx_St) : Option (rx_St) :=
    if (σ.1 87 13) ≤ (0 : Int32) then
    (rx_g v1 80 (
    let x1 : Int32 := ((6 : Int32) * v1) + (σ.1 107 v1.toNatClampNeg);
    (f_m_next σ).bind fun y2 =>
    if v2 = (0 : Int32) then
    f_m_tellWish_127 v1 v2 x1 (y2.1 87 11) x1 y2
    else
    if v2 = (2 : Int32) then
    f_m_tellWish_127 v1 v2 x1 (y2.1 87 11) x1 y2
    else
    f_m_tellWish_135 v1 v2 x1 (y2.1 87 11) x1 (0 : Int32) y2))
    else
    some σ
def f_m_tellWish_53 (v1 : Int32) (s0 : Int32) (σ : rx_St) : Option (rx_St) :=
    if s0 = (-1 : Int32) then
    ((f_m_fail (1 : Int32) σ).bind fun y1 =>
    f_m_tellWish_83 v1 s0 y1)
    else
    (rx_g v1 80 (
    if (σ.1 107 v1.toNatClampNeg) = (6 : Int32) then
    ((f_m_fail (2 : Int32) σ).bind fun y2 =>
    f_m_tellWish_83 v1 s0 y2)
    else
    f_m_tellWish_83 v1 s0 σ))
def f_m_tellWish (a0 : Int32) (σ : rx_St) : Option (rx_St) :=
  (f_m_is (27 : Int32) σ).bind fun y1 =>
    if y1 = (0 : Int32) then
    ((f_m_is (28 : Int32) σ).bind fun y2 =>
    if y2 = (0 : Int32) then
    ((f_m_is (29 : Int32) σ).bind fun y3 =>
    if y3 = (0 : Int32) then
    ((f_m_is (33 : Int32) σ).bind fun y4 =>
    if y4 = (0 : Int32) then
    f_m_tellWish_53 a0 (-1 : Int32) σ
    else
    f_m_tellWish_53 a0 (4 : Int32) σ)
    else
    f_m_tellWish_53 a0 (2 : Int32) σ)
    else
    f_m_tellWish_53 a0 (1 : Int32) σ)
    else
    f_m_tellWish_53 a0 (0 : Int32) σ
def f_m_tellRule_170 (σ : rx_St) : Option (rx_St) :=
    (f_m_must (22 : Int32) σ).bind fun y1 =>
    if (y1.1 87 13) = (0 : Int32) then
    (rx_g (y1.1 87 56) 10 (
    rx_g (y1.1 87 56) 10 (
    let σ1 : rx_St := rx_si y1 104 (y1.1 87 56).toNatClampNeg ((y1.1 104 (y1.1 87 56).toNatClampNeg) + (1 : Int32));
    some σ1)))
    else
    some y1
def f_m_tellRule_146 : Nat → Int32 → rx_St → Option (rx_St)
  | 0, _, _ => none
  | n + 1, v1, σ =>
    if (σ.1 87 13) = (0 : Int32) then
    ((f_m_is (22 : Int32) σ).bind fun y1 =>
    if y1 = (0 : Int32) then
    ((f_m_tellWish v1 σ).bind fun y2 =>
    f_m_tellRule_146 n v1 y2)
    else
    f_m_tellRule_170 σ)
    else
    f_m_tellRule_170 σ
def f_m_tellRule_136 (v1 : Int32) (σ : rx_St) : Option (rx_St) :=
    rx_g v1 80 (
    let σ1 : rx_St := rx_si σ 106 v1.toNatClampNeg (σ.1 87 39);
    f_m_tellRule_146 rx_fu v1 σ1)
def f_m_tellRule_124 (k83 : Int32 → Int32 → Int32 → rx_St → Option (rx_St)) (v1 : Int32) (v3 : Int32) (s0 : Int32) (σ : rx_St) : Option (rx_St) :=
    if s0 = (0 : Int32) then
    k83 v1 s0 v3 σ
    else
    ((f_m_next σ).bind fun y1 =>
    k83 v1 s0 v3 y1)
def f_m_tellRule_119 (k83 : Int32 → Int32 → Int32 → rx_St → Option (rx_St)) (v1 : Int32) (v3 : Int32) (σ : rx_St) : Option (rx_St) :=
    f_m_tellRule_124 k83 v1 v3 (1 : Int32) σ
def f_m_tellRule_83 : Nat → Int32 → Int32 → Int32 → rx_St → Option (rx_St)
  | 0, _, _, _, _ => none
  | n + 1, v1, v2, v3, σ =>
    if v2 = (0 : Int32) then
    f_m_tellRule_136 v1 σ
    else
    if (σ.1 87 13) = (0 : Int32) then
    ((f_m_literal v3 σ).bind fun y1 =>
    (f_m_is (34 : Int32) y1).bind fun y2 =>
    if y2 = (0 : Int32) then
    ((f_m_is (35 : Int32) y1).bind fun y3 =>
    if y3 = (0 : Int32) then
    f_m_tellRule_124 (f_m_tellRule_83 n) v1 y2 (0 : Int32) y1
    else
    f_m_tellRule_119 (f_m_tellRule_83 n) v1 y2 y1)
    else
    f_m_tellRule_119 (f_m_tellRule_83 n) v1 y2 y1)
    else
    f_m_tellRule_136 v1 σ
def f_m_tellRule_81 (v1 : Int32) (v2 : Int32) (σ : rx_St) : Option (rx_St) :=
    f_m_tellRule_83 rx_fu v1 v2 (1 : Int32) σ
def f_m_tellRule_19 (σ : rx_St) : Option (rx_St) :=
    if (σ.1 87 13) ≤ (0 : Int32) then
    (rx_g (σ.1 87 56) 10 (
    let x1 : Int32 := ((8 : Int32) * (σ.1 87 56)) + (σ.1 104 (σ.1 87 56).toNatClampNeg);
    (f_m_next σ).bind fun y2 =>
    rx_g x1 80 (
    let σ1 : rx_St := rx_si y2 105 x1.toNatClampNeg (y2.1 87 39);
    rx_g x1 80 (
    let σ2 : rx_St := rx_si σ1 107 x1.toNatClampNeg (0 : Int32);
    (f_m_is (26 : Int32) σ2).bind fun y3 =>
    if y3 = (0 : Int32) then
    f_m_tellRule_81 x1 y3 σ2
    else
    ((f_m_next σ2).bind fun y4 =>
    f_m_tellRule_81 x1 y3 y4)))))
    else
    some σ
def f_m_tellRule (σ : rx_St) : Option (rx_St) :=
  rx_g (σ.1 87 56) 10 (
    if (σ.1 104 (σ.1 87 56).toNatClampNeg) = (8 : Int32) then
    ((f_m_fail (2 : Int32) σ).bind fun y1 =>
    f_m_tellRule_19 y1)
    else
    f_m_tellRule_19 σ)
def f_m_tellKind_152 : Nat → rx_St → Option (rx_St)
  | 0, _ => none
  | n + 1, σ =>
    (f_m_is (25 : Int32) σ).bind fun y1 =>
    if y1 = (0 : Int32) then
    ((f_m_must (22 : Int32) σ).bind fun y2 =>
    some y2)
    else
    ((f_m_tellRule σ).bind fun y3 =>
    f_m_tellKind_152 n y3)
def f_m_tellKind_145 (k127 : rx_St → Option (rx_St)) (σ : rx_St) : Option (rx_St) :=
    (f_m_tellVar σ).bind fun y1 =>
    k127 y1
def f_m_tellKind_127 : Nat → rx_St → Option (rx_St)
  | 0, _ => none
  | n + 1, σ =>
    (f_m_is (23 : Int32) σ).bind fun y1 =>
    if y1 = (0 : Int32) then
    ((f_m_is (24 : Int32) σ).bind fun y2 =>
    if y2 = (0 : Int32) then
    f_m_tellKind_152 rx_fu σ
    else
    f_m_tellKind_145 (f_m_tellKind_127 n) σ)
    else
    f_m_tellKind_145 (f_m_tellKind_127 n) σ
def f_m_tellKind_59 (v1 : Int32) (σ : rx_St) : Option (rx_St) :=
    rx_g (σ.1 87 19) 2 (
    let σ1 : rx_St := rx_si σ 87 56 (((5 : Int32) * (σ.1 87 19)) + (σ.1 98 (σ.1 87 19).toNatClampNeg));
    rx_g v1 503 (
    rx_g (σ1.1 87 56) 10 (
    let σ2 : rx_St := rx_sl σ1 99 (σ1.1 87 56).toNatClampNeg (σ1.2 93 v1.toNatClampNeg);
    rx_g (σ2.1 87 56) 10 (
    let σ3 : rx_St := rx_si σ2 100 (σ2.1 87 56).toNatClampNeg (0 : Int32);
    rx_g (σ3.1 87 56) 10 (
    let σ4 : rx_St := rx_si σ3 104 (σ3.1 87 56).toNatClampNeg (0 : Int32);
    rx_g (σ4.1 87 19) 2 (
    rx_g (σ4.1 87 19) 2 (
    let σ5 : rx_St := rx_si σ4 98 (σ4.1 87 19).toNatClampNeg ((σ4.1 98 (σ4.1 87 19).toNatClampNeg) + (1 : Int32));
    f_m_tellKind_127 rx_fu σ5)))))))
def f_m_tellKind_18 (σ : rx_St) : Option (rx_St) :=
    (f_m_next σ).bind fun y1 =>
    (f_m_must (1 : Int32) y1).bind fun y2 =>
    if (y2.1 87 13) ≤ (0 : Int32) then
    (rx_g (y1.1 87 11) 503 (
    (f_m_isNamed (y2.2 93 (y1.1 87 11).toNatClampNeg) y2).bind fun y3 =>
    if y3 = (0 : Int32) then
    f_m_tellKind_59 (y1.1 87 11) y2
    else
    ((f_m_wrong (3 : Int32) (y1.1 87 11) y2).bind fun y4 =>
    f_m_tellKind_59 (y1.1 87 11) y4)))
    else
    some y2
def f_m_tellKind (σ : rx_St) : Option (rx_St) :=
  rx_g (σ.1 87 19) 2 (
    if (σ.1 98 (σ.1 87 19).toNatClampNeg) = (5 : Int32) then
    ((f_m_fail (2 : Int32) σ).bind fun y1 =>
    f_m_tellKind_18 y1)
    else
    f_m_tellKind_18 σ)
def f_m_answers_137 (v1 : Int32) (v2 : Int32) (v3 : Int32) (σ : rx_St) : Option (rx_St) :=
    rx_g v1 500 (
    rx_g (σ.1 124 v1.toNatClampNeg) 480 (
    let σ1 : rx_St := rx_si σ 110 (σ.1 124 v1.toNatClampNeg).toNatClampNeg (v2 - ((5 : Int32) * (σ.1 87 19)));
    rx_g v1 500 (
    rx_g (σ1.1 124 v1.toNatClampNeg) 480 (
    let σ2 : rx_St := rx_si σ1 111 (σ1.1 124 v1.toNatClampNeg).toNatClampNeg v3;
    some σ2))))
def f_m_answers_233 (v1 : Int32) (v2 : Int32) (v3 : Int32) (σ : rx_St) : Option (rx_St) :=
    rx_g v1 500 (
    rx_g (σ.1 124 v1.toNatClampNeg) 1400 (
    let σ1 : rx_St := rx_si σ 121 (σ.1 124 v1.toNatClampNeg).toNatClampNeg (v2 - ((5 : Int32) * (σ.1 87 19)));
    rx_g v1 500 (
    rx_g (σ1.1 124 v1.toNatClampNeg) 1400 (
    let σ2 : rx_St := rx_si σ1 122 (σ1.1 124 v1.toNatClampNeg).toNatClampNeg v3;
    some σ2))))
def f_m_answers_110 (v1 : Int32) (v2 : Int32) (s0 : Int32) (σ : rx_St) : Option (rx_St) :=
    rx_g v1 500 (
    if (σ.1 123 v1.toNatClampNeg) = (2 : Int32) then
    if s0 = (-1 : Int32) then
    (rx_g v1 500 (
    (f_m_wrong (4 : Int32) (σ.1 126 v1.toNatClampNeg) σ).bind fun y1 =>
    f_m_answers_137 v1 v2 s0 y1))
    else
    f_m_answers_137 v1 v2 s0 σ
    else
    if s0 = (-1 : Int32) then
    (rx_g v1 500 (
    (f_m_wrong (4 : Int32) (σ.1 127 v1.toNatClampNeg) σ).bind fun y2 =>
    f_m_answers_233 v1 v2 s0 y2))
    else
    (rx_g v1 500 (
    if (σ.1 123 v1.toNatClampNeg) = (0 : Int32) then
    (rx_g v1 500 (
    if v2 = (σ.1 125 v1.toNatClampNeg) then
    f_m_answers_233 v1 v2 s0 σ
    else
    (rx_g (((6 : Int32) * v2) + s0) 60 (
    if (σ.1 103 (((6 : Int32) * v2) + s0).toNatClampNeg) = (0 : Int32) then
    f_m_answers_233 v1 v2 s0 σ
    else
    (rx_g v1 500 (
    (f_m_wrong (6 : Int32) (σ.1 127 v1.toNatClampNeg) σ).bind fun y3 =>
    f_m_answers_233 v1 v2 s0 y3))))))
    else
    f_m_answers_233 v1 v2 s0 σ)))
def f_m_answers_57 (k9 : Int32 → Int32 → Int32 → rx_St → Option (rx_St)) (v1 : Int32) (v2 : Int32) (v3 : Int32) (σ : rx_St) : Option (rx_St) :=
    k9 v1 v2 (v3 + (1 : Int32)) σ
def f_m_answers_9 : Nat → Int32 → Int32 → Int32 → rx_St → Option (rx_St)
  | 0, _, _, _, _ => none
  | n + 1, v1, v2, v3, σ =>
    rx_g (σ.1 87 19) 2 (
    if (((5 : Int32) * (σ.1 87 19)) + (σ.1 98 (σ.1 87 19).toNatClampNeg)) ≤ v3 then
    if v2 = (-1 : Int32) then
    (rx_g v1 500 (
    (f_m_wrong (4 : Int32) (σ.1 126 v1.toNatClampNeg) σ).bind fun y1 =>
    some y1))
    else
    (rx_g v1 500 (
    if (σ.1 123 v1.toNatClampNeg) = (1 : Int32) then
    f_m_answers_110 v1 v2 (0 : Int32) σ
    else
    (rx_g v1 500 (
    rx_g (σ.1 127 v1.toNatClampNeg) 503 (
    (f_m_varOf v2 (σ.2 93 (σ.1 127 v1.toNatClampNeg).toNatClampNeg) σ).bind fun y2 =>
    f_m_answers_110 v1 v2 y2 σ)))))
    else
    if v2 = (-1 : Int32) then
    (rx_g v3 10 (
    rx_g v1 500 (
    rx_g (σ.1 126 v1.toNatClampNeg) 503 (
    if (lg_cmp (σ.2 99 v3.toNatClampNeg) (σ.2 93 (σ.1 126 v1.toNatClampNeg).toNatClampNeg)) = (0 : Int32) then
    f_m_answers_57 (f_m_answers_9 n) v1 v3 v3 σ
    else
    f_m_answers_57 (f_m_answers_9 n) v1 v2 v3 σ))))
    else
    f_m_answers_57 (f_m_answers_9 n) v1 v2 v3 σ)
def f_m_answers (a0 : Int32) (σ : rx_St) : Option (rx_St) :=
  let x1 : Int32 := (5 : Int32) * (σ.1 87 19);
    f_m_answers_9 rx_fu a0 (-1 : Int32) x1 σ
def f_m_read_276 : Nat → Int32 → rx_St → Option (Int32 × rx_St)
  | 0, _, _ => none
  | n + 1, v1, σ =>
    rx_g (σ.1 87 18) 2 (
    if (σ.1 95 (σ.1 87 18).toNatClampNeg) ≤ v1 then
    (let σ1 : rx_St := rx_si σ 87 60 (0 : Int32);
    let σ2 : rx_St := rx_si σ1 87 90 (0 : Int32);
    let σ3 : rx_St := rx_si σ2 87 96 (0 : Int32);
    let σ4 : rx_St := rx_si σ3 87 86 (0 : Int32);
    some ((0 : Int32), σ4))
    else
    (rx_g (((6 : Int32) * (σ.1 87 18)) + v1) 12 (
    rx_g v1 6 (
    let σ5 : rx_St := rx_si σ 129 v1.toNatClampNeg (σ.1 97 (((6 : Int32) * (σ.1 87 18)) + v1).toNatClampNeg);
    f_m_read_276 n (v1 + (1 : Int32)) σ5))))
def f_m_read_239 (s1 : Int32) (σ : rx_St) : Option (Int32 × rx_St) :=
    let σ1 : rx_St := rx_si σ 87 17 s1;
    if (σ1.1 87 13) ≤ (0 : Int32) then
    if (σ1.1 87 15) ≤ (0 : Int32) then
    (let σ2 : rx_St := rx_si σ1 87 18 (σ1.1 87 19);
    f_m_read_276 rx_fu (0 : Int32) σ2)
    else
    some (σ1.1 87 15, σ1)
    else
    some (σ1.1 87 13, σ1)
def f_m_read_209 (σ : rx_St) : Option (Int32 × rx_St) :=
    if (σ.1 87 13) ≤ (0 : Int32) then
    if (σ.1 87 15) ≤ (0 : Int32) then
    f_m_read_239 (-1 : Int32) σ
    else
    f_m_read_239 (σ.1 87 16) σ
    else
    f_m_read_239 (σ.1 87 14) σ
def f_m_read_183 : Nat → Int32 → rx_St → Option (Int32 × rx_St)
  | 0, _, _ => none
  | n + 1, v1, σ =>
    if (σ.1 87 50) ≤ v1 then
    f_m_read_209 σ
    else
    if (σ.1 87 13) = (0 : Int32) then
    ((f_m_answers v1 σ).bind fun y1 =>
    f_m_read_183 n (v1 + (1 : Int32)) y1)
    else
    f_m_read_209 σ
def f_m_read_181 (σ : rx_St) : Option (Int32 × rx_St) :=
    f_m_read_183 rx_fu (0 : Int32) σ
def f_m_read_145 : Nat → rx_St → Option (Int32 × rx_St)
  | 0, _ => none
  | n + 1, σ =>
    (f_m_is (21 : Int32) σ).bind fun y1 =>
    if y1 = (0 : Int32) then
    if (σ.1 87 13) = (0 : Int32) then
    ((f_m_is (0 : Int32) σ).bind fun y2 =>
    if y2 = (0 : Int32) then
    ((f_m_fail (1 : Int32) σ).bind fun y3 =>
    f_m_read_181 y3)
    else
    f_m_read_181 σ)
    else
    f_m_read_181 σ
    else
    ((f_m_tellKind σ).bind fun y4 =>
    f_m_read_145 n y4)
def f_m_read_129 : Nat → rx_St → Option (Int32 × rx_St)
  | 0, _ => none
  | n + 1, σ =>
    (f_m_is (20 : Int32) σ).bind fun y1 =>
    if y1 = (0 : Int32) then
    f_m_read_145 rx_fu σ
    else
    ((f_m_tellSet σ).bind fun y2 =>
    f_m_read_129 n y2)
def f_m_read_15 : Nat → Int32 → rx_St → Option (Int32 × rx_St)
  | 0, _, _ => none
  | n + 1, v1, σ =>
    if (σ.1 87 4) ≤ v1 then
    (let σ1 : rx_St := rx_si σ 87 2 (0 : Int32);
    (f_m_cut σ1).bind fun y1 =>
    let σ2 : rx_St := rx_si y1 87 11 (0 : Int32);
    let σ3 : rx_St := rx_si σ2 87 12 (0 : Int32);
    let σ4 : rx_St := rx_si σ3 87 13 (0 : Int32);
    let σ5 : rx_St := rx_si σ4 87 15 (0 : Int32);
    let σ6 : rx_St := rx_si σ5 87 19 ((1 : Int32) - (σ5.1 87 18));
    rx_g (σ6.1 87 19) 2 (
    let σ7 : rx_St := rx_si σ6 95 (σ6.1 87 19).toNatClampNeg (0 : Int32);
    rx_g (σ7.1 87 19) 2 (
    let σ8 : rx_St := rx_si σ7 98 (σ7.1 87 19).toNatClampNeg (0 : Int32);
    let σ9 : rx_St := rx_si σ8 87 46 ((700 : Int32) * (σ8.1 87 19));
    let σ10 : rx_St := rx_si σ9 87 39 ((250 : Int32) * (σ9.1 87 19));
    let σ11 : rx_St := rx_si σ10 87 50 (0 : Int32);
    f_m_read_129 rx_fu σ11)))
    else
    (rx_g v1 2000 (
    rx_g v1 2000 (
    let σ12 : rx_St := rx_si σ 89 v1.toNatClampNeg (vp_nar .byte (σ.1 88 v1.toNatClampNeg));
    f_m_read_15 n (v1 + (1 : Int32)) σ12)))
def f_m_read (σ : rx_St) : Option (Int32 × rx_St) :=
  let σ1 : rx_St := rx_si σ 87 0 (0 : Int32);
    let σ2 : rx_St := rx_si σ1 87 4 (σ1.1 87 2);
    f_m_read_15 rx_fu (0 : Int32) σ2
def f_m_place (σ : rx_St) : Option (Int32 × rx_St) :=
  let σ1 : rx_St := rx_si σ 87 0 (0 : Int32);
    some (σ1.1 87 17, σ1)
def f_m_in (a0 : Int32) (a1 : Int32) (a2 : Int32) : Int32 :=
  if a0 < a1 then
    (0 : Int32)
    else
    if a2 < a0 then
    (0 : Int32)
    else
    (1 : Int32)
def f_m_isNumber (a0 : Int32) : Int32 :=
  (f_m_in a0 (-9999 : Int32) (9999 : Int32))
def f_m_isSetting (a0 : Int32) (σ : rx_St) : Option (Int32) :=
  if a0 < (0 : Int32) then
    some (0 : Int32)
    else
    (rx_g (σ.1 87 18) 2 (
    if (σ.1 95 (σ.1 87 18).toNatClampNeg) ≤ a0 then
    some (0 : Int32)
    else
    some (1 : Int32)))
def f_m_isOne (a0 : Int32) (σ : rx_St) : Int32 :=
  if a0 < (0 : Int32) then
    (0 : Int32)
    else
    if (σ.1 87 60) ≤ a0 then
    (0 : Int32)
    else
    (1 : Int32)
def f_m_set (a0 : Int32) (a1 : Int32) (σ : rx_St) : Option (Int32 × rx_St) :=
  let σ1 : rx_St := rx_si σ 87 0 (0 : Int32);
    (f_m_isSetting a0 σ1).bind fun y1 =>
    if y1 = (0 : Int32) then
    some ((0 : Int32), σ1)
    else
    if (f_m_isNumber a1) = (0 : Int32) then
    some ((0 : Int32), σ1)
    else
    (rx_g a0 6 (
    let σ2 : rx_St := rx_si σ1 129 a0.toNatClampNeg a1;
    some ((1 : Int32), σ2)))
def f_m_setting (a0 : Int32) (σ : rx_St) : Option (Int32 × rx_St) :=
  let σ1 : rx_St := rx_si σ 87 0 (0 : Int32);
    (f_m_isSetting a0 σ1).bind fun y1 =>
    if y1 = (0 : Int32) then
    (let σ2 : rx_St := rx_si σ1 87 0 (1 : Int32);
    some ((0 : Int32), σ2))
    else
    (rx_g a0 6 (
    some (σ1.1 129 a0.toNatClampNeg, σ1)))
def f_m_one_86 : Nat → Int32 → Int32 → rx_St → Option (Int32 × rx_St)
  | 0, _, _, _ => none
  | n + 1, v1, v4, σ =>
    rx_g (((5 : Int32) * (σ.1 87 18)) + v1) 10 (
    if (σ.1 100 (((5 : Int32) * (σ.1 87 18)) + v1).toNatClampNeg) ≤ v4 then
    (let σ1 : rx_St := rx_si σ 87 60 ((σ.1 87 60) + (1 : Int32));
    some ((σ1.1 87 60) - (1 : Int32), σ1))
    else
    (rx_g (((6 : Int32) * (((5 : Int32) * (σ.1 87 18)) + v1)) + v4) 60 (
    rx_g (((6 : Int32) * (σ.1 87 60)) + v4) 120 (
    let σ2 : rx_St := rx_si σ 133 (((6 : Int32) * (σ.1 87 60)) + v4).toNatClampNeg (σ.1 102 (((6 : Int32) * (((5 : Int32) * (σ.1 87 18)) + v1)) + v4).toNatClampNeg);
    f_m_one_86 n v1 (v4 + (1 : Int32)) σ2))))
def f_m_one (a0 : Int32) (a1 : Int32) (a2 : Int32) (σ : rx_St) : Option (Int32 × rx_St) :=
  let σ1 : rx_St := rx_si σ 87 0 (0 : Int32);
    if (σ1.1 87 60) = (20 : Int32) then
    some ((-1 : Int32), σ1)
    else
    if a0 < (0 : Int32) then
    some ((-1 : Int32), σ1)
    else
    (rx_g (σ1.1 87 18) 2 (
    if (σ1.1 98 (σ1.1 87 18).toNatClampNeg) ≤ a0 then
    some ((-1 : Int32), σ1)
    else
    if (f_m_in a1 (0 : Int32) (9 : Int32)) = (0 : Int32) then
    some ((-1 : Int32), σ1)
    else
    if (f_m_in a2 (1 : Int32) (99 : Int32)) = (0 : Int32) then
    some ((-1 : Int32), σ1)
    else
    (rx_g (σ1.1 87 60) 20 (
    let σ2 : rx_St := rx_si σ1 130 (σ1.1 87 60).toNatClampNeg a0;
    rx_g (σ2.1 87 60) 20 (
    let σ3 : rx_St := rx_si σ2 131 (σ2.1 87 60).toNatClampNeg a1;
    rx_g (σ3.1 87 60) 20 (
    let σ4 : rx_St := rx_si σ3 132 (σ3.1 87 60).toNatClampNeg a2;
    f_m_one_86 rx_fu a0 (0 : Int32) σ4))))))
def f_m_isVar (a0 : Int32) (a1 : Int32) (σ : rx_St) : Option (Int32) :=
  if (f_m_isOne a0 σ) = (0 : Int32) then
    some (0 : Int32)
    else
    if a1 < (0 : Int32) then
    some (0 : Int32)
    else
    (rx_g a0 20 (
    rx_g (((5 : Int32) * (σ.1 87 18)) + (σ.1 130 a0.toNatClampNeg)) 10 (
    if (σ.1 100 (((5 : Int32) * (σ.1 87 18)) + (σ.1 130 a0.toNatClampNeg)).toNatClampNeg) ≤ a1 then
    some (0 : Int32)
    else
    some (1 : Int32))))
def f_m_begin (a0 : Int32) (a1 : Int32) (a2 : Int32) (σ : rx_St) : Option (Int32 × rx_St) :=
  let σ1 : rx_St := rx_si σ 87 0 (0 : Int32);
    (f_m_isVar a0 a1 σ1).bind fun y1 =>
    if y1 = (0 : Int32) then
    some ((0 : Int32), σ1)
    else
    if (f_m_isNumber a2) = (0 : Int32) then
    some ((0 : Int32), σ1)
    else
    (rx_g (((6 : Int32) * a0) + a1) 120 (
    let σ2 : rx_St := rx_si σ1 133 (((6 : Int32) * a0) + a1).toNatClampNeg a2;
    some ((1 : Int32), σ2)))
def f_m_order (a0 : Int32) (σ : rx_St) : Option (rx_St) :=
  let σ1 : rx_St := rx_si σ 87 0 (0 : Int32);
    rx_c (a0 = 0 ∨ a0 = 1) (
    let σ2 : rx_St := rx_si σ1 87 65 a0;
    some σ2)
def f_m_mixed (a0 : Int32) (a1 : Int32) : Int32 :=
  let x1 : Int32 := ((a0 ^^^ a1) * (1103515245 : Int32)) + (12345 : Int32);
    (x1 ^^^ (rx_iushr x1 (15 : Int32)))
def f_m_lotOf (a0 : Int32) (a1 : Int32) (a2 : Int32) (a3 : Int32) (a4 : Int32) : Option (Int32) :=
  let x1 : Int32 := f_m_mixed (f_m_mixed (f_m_mixed a0 a1) a2) a3;
    rx_c (¬ a4 = 0) (
    some (rx_irem (rx_iushr x1 (1 : Int32)) a4))
def f_m_lot (a0 : Int32) (a1 : Int32) (a2 : Int32) (a3 : Int32) (a4 : Int32) (σ : rx_St) : Option (Int32 × rx_St) :=
  let σ1 : rx_St := rx_si σ 87 0 (0 : Int32);
    if (f_m_in a4 (1 : Int32) (9999 : Int32)) = (0 : Int32) then
    some ((-1 : Int32), σ1)
    else
    if (f_m_in a1 (0 : Int32) (19 : Int32)) = (0 : Int32) then
    some ((-1 : Int32), σ1)
    else
    if (f_m_in a2 (0 : Int32) (39 : Int32)) = (0 : Int32) then
    some ((-1 : Int32), σ1)
    else
    if (f_m_in a3 (0 : Int32) (1000 : Int32)) = (0 : Int32) then
    some ((-1 : Int32), σ1)
    else
    ((f_m_lotOf a0 a1 a2 a3 a4).bind fun y1 =>
    some (y1, σ1))
def f_m_takesNumbers_2 : Nat → Int32 → rx_St → Option (rx_St)
  | 0, _, _ => none
  | n + 1, v1, σ =>
    if (6 : Int32) ≤ v1 then
    some σ
    else
    (rx_g v1 6 (
    rx_g v1 6 (
    let σ1 : rx_St := rx_si σ 134 v1.toNatClampNeg (σ.1 129 v1.toNatClampNeg);
    f_m_takesNumbers_2 n (v1 + (1 : Int32)) σ1)))
def f_m_takesNumbers (σ : rx_St) : Option (rx_St) :=
  f_m_takesNumbers_2 rx_fu (0 : Int32) σ
def f_m_sumOf_77 (k5 : Int32 → Int32 → Int32 → Int32 → rx_St → Option (Int32)) (v1 : Int32) (v2 : Int32) (v3 : Int32) (v4 : Int32) (σ : rx_St) : Option (Int32) :=
    k5 v1 v2 v3 (v4 + (1 : Int32)) σ
def f_m_sumOf_5 : Nat → Int32 → Int32 → Int32 → Int32 → rx_St → Option (Int32)
  | 0, _, _, _, _, _ => none
  | n + 1, v1, v2, v3, v4, σ =>
    if (σ.1 87 60) ≤ v4 then
    some v3
    else
    (rx_g v4 20 (
    if (σ.1 137 v4.toNatClampNeg) = (0 : Int32) then
    (rx_g v4 20 (
    if (σ.1 130 v4.toNatClampNeg) = v1 then
    (rx_g v4 20 (
    rx_g (σ.1 87 80) 20 (
    if (σ.1 136 v4.toNatClampNeg) = (σ.1 136 (σ.1 87 80).toNatClampNeg) then
    (rx_g (((6 : Int32) * v4) + v2) 120 (
    rx_g v4 20 (
    let x1 : Int32 := v3 + ((σ.1 135 (((6 : Int32) * v4) + v2).toNatClampNeg) * (σ.1 132 v4.toNatClampNeg));
    f_m_sumOf_77 (f_m_sumOf_5 n) v1 v2 x1 v4 σ)))
    else
    f_m_sumOf_77 (f_m_sumOf_5 n) v1 v2 v3 v4 σ)))
    else
    f_m_sumOf_77 (f_m_sumOf_5 n) v1 v2 v3 v4 σ))
    else
    f_m_sumOf_77 (f_m_sumOf_5 n) v1 v2 v3 v4 σ))
def f_m_sumOf (a0 : Int32) (a1 : Int32) (σ : rx_St) : Option (Int32) :=
  f_m_sumOf_5 rx_fu a0 a1 (0 : Int32) (0 : Int32) σ
def f_m_manyOf_66 (k4 : Int32 → Int32 → Int32 → rx_St → Option (Int32)) (v1 : Int32) (v2 : Int32) (v3 : Int32) (σ : rx_St) : Option (Int32) :=
    k4 v1 v2 (v3 + (1 : Int32)) σ
def f_m_manyOf_57 (k4 : Int32 → Int32 → Int32 → rx_St → Option (Int32)) (v1 : Int32) (v2 : Int32) (v3 : Int32) (σ : rx_St) : Option (Int32) :=
    rx_g v3 20 (
    let x1 : Int32 := v2 + (σ.1 132 v3.toNatClampNeg);
    f_m_manyOf_66 k4 v1 x1 v3 σ)
def f_m_manyOf_4 : Nat → Int32 → Int32 → Int32 → rx_St → Option (Int32)
  | 0, _, _, _, _ => none
  | n + 1, v1, v2, v3, σ =>
    if (σ.1 87 60) ≤ v3 then
    some v2
    else
    (rx_g v3 20 (
    if (σ.1 137 v3.toNatClampNeg) = (0 : Int32) then
    if v1 = (-1 : Int32) then
    (rx_g v3 20 (
    rx_g (σ.1 87 80) 20 (
    if (σ.1 136 v3.toNatClampNeg) = (σ.1 136 (σ.1 87 80).toNatClampNeg) then
    f_m_manyOf_57 (f_m_manyOf_4 n) v1 v2 v3 σ
    else
    f_m_manyOf_66 (f_m_manyOf_4 n) v1 v2 v3 σ)))
    else
    (rx_g v3 20 (
    if (σ.1 130 v3.toNatClampNeg) = v1 then
    f_m_manyOf_57 (f_m_manyOf_4 n) v1 v2 v3 σ
    else
    f_m_manyOf_66 (f_m_manyOf_4 n) v1 v2 v3 σ))
    else
    f_m_manyOf_66 (f_m_manyOf_4 n) v1 v2 v3 σ))
def f_m_manyOf (a0 : Int32) (σ : rx_St) : Option (Int32) :=
  f_m_manyOf_4 rx_fu a0 (0 : Int32) (0 : Int32) σ
def f_m_nextLot (a0 : Int32) (σ : rx_St) : Option (Int32 × rx_St) :=
  let σ1 : rx_St := rx_si σ 87 81 ((σ.1 87 81) + (1 : Int32));
    (f_m_lotOf (σ1.1 87 78) (σ1.1 87 80) (σ1.1 87 79) ((σ1.1 87 81) - (1 : Int32)) a0).bind fun y1 =>
    some (y1, σ1)
def f_m_leafOf (a0 : Int32) (σ : rx_St) : Option (Int32 × rx_St) :=
  rx_g a0 1400 (
    if (σ.1 120 a0.toNatClampNeg) = (0 : Int32) then
    (rx_g a0 1400 (
    some (σ.1 121 a0.toNatClampNeg, σ)))
    else
    if (σ.1 120 a0.toNatClampNeg) = (1 : Int32) then
    (rx_g a0 1400 (
    rx_g (((6 : Int32) * (σ.1 87 80)) + (σ.1 121 a0.toNatClampNeg)) 120 (
    some (σ.1 135 (((6 : Int32) * (σ.1 87 80)) + (σ.1 121 a0.toNatClampNeg)).toNatClampNeg, σ))))
    else
    if (σ.1 120 a0.toNatClampNeg) = (2 : Int32) then
    (rx_g a0 1400 (
    rx_g (σ.1 121 a0.toNatClampNeg) 6 (
    some (σ.1 134 (σ.1 121 a0.toNatClampNeg).toNatClampNeg, σ))))
    else
    if (σ.1 120 a0.toNatClampNeg) = (3 : Int32) then
    some (σ.1 87 79, σ)
    else
    if (σ.1 120 a0.toNatClampNeg) = (4 : Int32) then
    ((f_m_manyOf (-1 : Int32) σ).bind fun y4 =>
    some (y4, σ))
    else
    if (σ.1 120 a0.toNatClampNeg) = (5 : Int32) then
    (rx_g (σ.1 87 80) 20 (
    some (σ.1 136 (σ.1 87 80).toNatClampNeg, σ)))
    else
    if (σ.1 120 a0.toNatClampNeg) = (6 : Int32) then
    (rx_g a0 1400 (
    (f_m_nextLot (σ.1 121 a0.toNatClampNeg) σ).bind fun y3 =>
    some (y3.1, y3.2)))
    else
    if (σ.1 120 a0.toNatClampNeg) = (7 : Int32) then
    (rx_g a0 1400 (
    rx_g a0 1400 (
    (f_m_sumOf (σ.1 121 a0.toNatClampNeg) (σ.1 122 a0.toNatClampNeg) σ).bind fun y2 =>
    some (y2, σ))))
    else
    (rx_g a0 1400 (
    (f_m_manyOf (σ.1 121 a0.toNatClampNeg) σ).bind fun y1 =>
    some (y1, σ))))
def f_m_termOf_155 (k10 : Int32 → Int32 → Int32 → rx_St → Option (Int32 × rx_St)) (v2 : Int32) (v3 : Int32) (v4 : Int32) (σ : rx_St) : Option (Int32 × rx_St) :=
    k10 v2 v3 (v4 + (1 : Int32)) σ
def f_m_termOf_154 (k10 : Int32 → Int32 → Int32 → rx_St → Option (Int32 × rx_St)) (v2 : Int32) (v3 : Int32) (v4 : Int32) (s1 : Int32) (s2 : Int32) (σ : rx_St) : Option (Int32 × rx_St) :=
    rx_g s1 500 (
    let σ1 : rx_St := rx_si σ 146 s1.toNatClampNeg s2;
    f_m_termOf_155 k10 v2 v3 v4 σ1)
def f_m_termOf_88 (k10 : Int32 → Int32 → Int32 → rx_St → Option (Int32 × rx_St)) (v2 : Int32) (v3 : Int32) (v4 : Int32) (v5 : Int32) (v6 : Int32) (v7 : Int32) (σ : rx_St) : Option (Int32 × rx_St) :=
    if v5 = (9 : Int32) then
    f_m_termOf_154 k10 v2 v3 v4 (v3 - (1 : Int32)) (v6 + v7) σ
    else
    if v5 = (10 : Int32) then
    f_m_termOf_154 k10 v2 v3 v4 (v3 - (1 : Int32)) (v6 - v7) σ
    else
    if v5 = (11 : Int32) then
    f_m_termOf_154 k10 v2 v3 v4 (v3 - (1 : Int32)) (v6 * v7) σ
    else
    if v7 = (0 : Int32) then
    f_m_termOf_154 k10 v2 v3 v4 (v3 - (1 : Int32)) (0 : Int32) σ
    else
    (rx_c (¬ v7 = 0) (
    f_m_termOf_154 k10 v2 v3 v4 (v3 - (1 : Int32)) (v6 / v7) σ))
def f_m_termOf_10 : Nat → Int32 → Int32 → Int32 → rx_St → Option (Int32 × rx_St)
  | 0, _, _, _, _ => none
  | n + 1, v2, v3, v4, σ =>
    if v2 ≤ v4 then
    if (σ.1 87 83) = (0 : Int32) then
    some (σ.1 146 (0 : Int32).toNatClampNeg, σ)
    else
    some ((0 : Int32), σ)
    else
    (rx_g v4 1400 (
    let x1 : Int32 := σ.1 120 v4.toNatClampNeg;
    if (9 : Int32) ≤ x1 then
    (rx_g ((v3 + (-1 : Int32)) - (1 : Int32)) 500 (
    let x2 : Int32 := σ.1 146 ((v3 + (-1 : Int32)) - (1 : Int32)).toNatClampNeg;
    rx_g (v3 + (-1 : Int32)) 500 (
    let x3 : Int32 := σ.1 146 (v3 + (-1 : Int32)).toNatClampNeg;
    if x1 = (12 : Int32) then
    if x3 = (0 : Int32) then
    (let σ1 : rx_St := rx_si σ 87 83 (1 : Int32);
    f_m_termOf_88 (f_m_termOf_10 n) v2 (v3 + (-1 : Int32)) v4 x1 x2 x3 σ1)
    else
    f_m_termOf_88 (f_m_termOf_10 n) v2 (v3 + (-1 : Int32)) v4 x1 x2 x3 σ
    else
    f_m_termOf_88 (f_m_termOf_10 n) v2 (v3 + (-1 : Int32)) v4 x1 x2 x3 σ)))
    else
    ((f_m_leafOf v4 σ).bind fun y4 =>
    rx_g v3 500 (
    let σ2 : rx_St := rx_si y4.2 146 v3.toNatClampNeg y4.1;
    f_m_termOf_155 (f_m_termOf_10 n) v2 (v3 + (1 : Int32)) v4 σ2))))
def f_m_termOf (a0 : Int32) (a1 : Int32) (σ : rx_St) : Option (Int32 × rx_St) :=
  let σ1 : rx_St := rx_si σ 87 83 (0 : Int32);
    f_m_termOf_10 rx_fu a1 (0 : Int32) a0 σ1
def f_m_isTrue_155 (v1 : Int32) (s0 : Int32) (σ : rx_St) : Option (Int32 × rx_St) :=
    rx_g v1 500 (
    if s0 = (σ.1 115 v1.toNatClampNeg) then
    some ((0 : Int32), σ)
    else
    some ((1 : Int32), σ))
def f_m_isTrue_154 (v1 : Int32) (σ : rx_St) : Option (Int32 × rx_St) :=
    f_m_isTrue_155 v1 (0 : Int32) σ
def f_m_isTrue_139 (v1 : Int32) (v3 : Int32) (s0 : Int32) (σ : rx_St) : Option (Int32 × rx_St) :=
    if s0 = (0 : Int32) then
    f_m_isTrue_154 v1 σ
    else
    if v3 = (0 : Int32) then
    f_m_isTrue_155 v1 (1 : Int32) σ
    else
    f_m_isTrue_154 v1 σ
def f_m_isTrue_56 (v1 : Int32) (v2 : Int32) (v4 : Int32) (s0 : Int32) (σ : rx_St) : Option (Int32 × rx_St) :=
    rx_g v1 500 (
    if (σ.1 114 v1.toNatClampNeg) = (0 : Int32) then
    if v2 = v4 then
    f_m_isTrue_139 v1 s0 (1 : Int32) σ
    else
    f_m_isTrue_139 v1 s0 (0 : Int32) σ
    else
    (rx_g v1 500 (
    if (σ.1 114 v1.toNatClampNeg) = (1 : Int32) then
    if v2 = v4 then
    f_m_isTrue_139 v1 s0 (0 : Int32) σ
    else
    f_m_isTrue_139 v1 s0 (1 : Int32) σ
    else
    (rx_g v1 500 (
    if (σ.1 114 v1.toNatClampNeg) = (2 : Int32) then
    if v4 ≤ v2 then
    f_m_isTrue_139 v1 s0 (0 : Int32) σ
    else
    f_m_isTrue_139 v1 s0 (1 : Int32) σ
    else
    if v4 < v2 then
    f_m_isTrue_139 v1 s0 (0 : Int32) σ
    else
    f_m_isTrue_139 v1 s0 (1 : Int32) σ)))))
def f_m_isTrue_51 (v1 : Int32) (v2 : Int32) (v4 : Int32) (σ : rx_St) : Option (Int32 × rx_St) :=
    f_m_isTrue_56 v1 v2 v4 (1 : Int32) σ
def f_m_isTrue (a0 : Int32) (σ : rx_St) : Option (Int32 × rx_St) :=
  rx_g a0 500 (
    rx_g a0 500 (
    (f_m_termOf (σ.1 117 a0.toNatClampNeg) (σ.1 118 a0.toNatClampNeg) σ).bind fun y1 =>
    rx_g a0 500 (
    rx_g a0 500 (
    (f_m_termOf (y1.2.1 118 a0.toNatClampNeg) (y1.2.1 119 a0.toNatClampNeg) y1.2).bind fun y2 =>
    if (y1.2.1 87 83) = (0 : Int32) then
    if (y2.2.1 87 83) = (0 : Int32) then
    f_m_isTrue_56 a0 y1.1 y2.1 (0 : Int32) y2.2
    else
    f_m_isTrue_51 a0 y1.1 y2.1 y2.2
    else
    f_m_isTrue_51 a0 y1.1 y2.1 y2.2))))
def f_m_holds_79 (k26 : Int32 → Int32 → Int32 → rx_St → Option (Int32 × rx_St)) (v1 : Int32) (v3 : Int32) (s0 : Int32) (σ : rx_St) : Option (Int32 × rx_St) :=
    k26 v1 s0 (v3 + (1 : Int32)) σ
def f_m_holds_78 (k26 : Int32 → Int32 → Int32 → rx_St → Option (Int32 × rx_St)) (v1 : Int32) (v3 : Int32) (σ : rx_St) : Option (Int32 × rx_St) :=
    f_m_holds_79 k26 v1 v3 (0 : Int32) σ
def f_m_holds_62 (k26 : Int32 → Int32 → Int32 → rx_St → Option (Int32 × rx_St)) (v1 : Int32) (v2 : Int32) (v3 : Int32) (σ : rx_St) : Option (Int32 × rx_St) :=
    if v2 = (0 : Int32) then
    f_m_holds_78 k26 v1 v3 σ
    else
    ((f_m_isTrue v3 σ).bind fun y1 =>
    if y1.1 = (0 : Int32) then
    f_m_holds_78 k26 v1 v3 y1.2
    else
    f_m_holds_79 k26 v1 v3 (1 : Int32) y1.2)
def f_m_holds_51 (k26 : Int32 → Int32 → Int32 → rx_St → Option (Int32 × rx_St)) (v1 : Int32) (v2 : Int32) (v3 : Int32) (σ : rx_St) : Option (Int32 × rx_St) :=
    rx_g v3 500 (
    if (σ.1 116 v3.toNatClampNeg) = (0 : Int32) then
    f_m_holds_62 k26 v1 v2 v3 σ
    else
    f_m_holds_62 k26 v1 (1 : Int32) v3 σ)
def f_m_holds_26 : Nat → Int32 → Int32 → Int32 → rx_St → Option (Int32 × rx_St)
  | 0, _, _, _, _ => none
  | n + 1, v1, v2, v3, σ =>
    rx_g v1 80 (
    if (σ.1 106 v1.toNatClampNeg) ≤ v3 then
    rx_c (v2 = 0 ∨ v2 = 1) (some (v2, σ))
    else
    (rx_g v3 500 (
    if (σ.1 116 v3.toNatClampNeg) = (0 : Int32) then
    f_m_holds_51 (f_m_holds_26 n) v1 v2 v3 σ
    else
    if v2 = (0 : Int32) then
    f_m_holds_51 (f_m_holds_26 n) v1 v2 v3 σ
    else
    some ((1 : Int32), σ))))
def f_m_holds (a0 : Int32) (σ : rx_St) : Option (Int32 × rx_St) :=
  rx_g a0 80 (
    rx_g a0 80 (
    if (σ.1 105 a0.toNatClampNeg) = (σ.1 106 a0.toNatClampNeg) then
    some ((1 : Int32), σ)
    else
    (rx_g a0 80 (
    let x1 : Int32 := σ.1 105 a0.toNatClampNeg;
    f_m_holds_26 rx_fu a0 (0 : Int32) x1 σ))))
def f_m_isOther (a0 : Int32) (a1 : Int32) (σ : rx_St) : Option (Int32) :=
  if a0 = (σ.1 87 80) then
    some (0 : Int32)
    else
    (rx_g a0 20 (
    if (σ.1 137 a0.toNatClampNeg) = (0 : Int32) then
    (rx_g a0 20 (
    if (σ.1 130 a0.toNatClampNeg) = a1 then
    (rx_g a0 20 (
    rx_g (σ.1 87 80) 20 (
    if (σ.1 136 a0.toNatClampNeg) = (σ.1 136 (σ.1 87 80).toNatClampNeg) then
    some (1 : Int32)
    else
    some (0 : Int32))))
    else
    some (0 : Int32)))
    else
    some (0 : Int32)))
def f_m_nearOf_2 : Nat → Int32 → Int32 → rx_St → Option (Int32)
  | 0, _, _, _ => none
  | n + 1, v1, v2, σ =>
    if (σ.1 87 60) ≤ v2 then
    some (-1 : Int32)
    else
    ((f_m_isOther v2 v1 σ).bind fun y1 =>
    if y1 = (0 : Int32) then
    f_m_nearOf_2 n v1 (v2 + (1 : Int32)) σ
    else
    some v2)
def f_m_nearOf (a0 : Int32) (σ : rx_St) : Option (Int32) :=
  f_m_nearOf_2 rx_fu a0 (0 : Int32) σ
def f_m_pickOf_77 (k45 : Int32 → Int32 → Int32 → rx_St → Option (Int32 × rx_St)) (v1 : Int32) (v3 : Int32) (v4 : Int32) (σ : rx_St) : Option (Int32 × rx_St) :=
    k45 v1 v3 (v4 + (1 : Int32)) σ
def f_m_pickOf_45 : Nat → Int32 → Int32 → Int32 → rx_St → Option (Int32 × rx_St)
  | 0, _, _, _, _ => none
  | n + 1, v1, v3, v4, σ =>
    if (σ.1 87 60) ≤ v4 then
    some ((-1 : Int32), σ)
    else
    ((f_m_isOther v4 v1 σ).bind fun y1 =>
    if y1 = (0 : Int32) then
    f_m_pickOf_77 (f_m_pickOf_45 n) v1 v3 v4 σ
    else
    if v3 = (0 : Int32) then
    some (v4, σ)
    else
    f_m_pickOf_77 (f_m_pickOf_45 n) v1 (v3 + (-1 : Int32)) v4 σ)
def f_m_pickOf_24 (k4 : Int32 → Int32 → Int32 → rx_St → Option (Int32 × rx_St)) (v1 : Int32) (v2 : Int32) (v3 : Int32) (σ : rx_St) : Option (Int32 × rx_St) :=
    k4 v1 v2 (v3 + (1 : Int32)) σ
def f_m_pickOf_4 : Nat → Int32 → Int32 → Int32 → rx_St → Option (Int32 × rx_St)
  | 0, _, _, _, _ => none
  | n + 1, v1, v2, v3, σ =>
    if (σ.1 87 60) ≤ v3 then
    if v2 = (0 : Int32) then
    some ((-1 : Int32), σ)
    else
    ((f_m_nextLot v2 σ).bind fun y1 =>
    f_m_pickOf_45 rx_fu v1 y1.1 (0 : Int32) y1.2)
    else
    ((f_m_isOther v3 v1 σ).bind fun y2 =>
    if y2 = (0 : Int32) then
    f_m_pickOf_24 (f_m_pickOf_4 n) v1 v2 v3 σ
    else
    f_m_pickOf_24 (f_m_pickOf_4 n) v1 (v2 + (1 : Int32)) v3 σ)
def f_m_pickOf (a0 : Int32) (σ : rx_St) : Option (Int32 × rx_St) :=
  f_m_pickOf_4 rx_fu a0 (0 : Int32) (0 : Int32) σ
def f_m_chooses_263 (k46 : Int32 → Int32 → Int32 → rx_St → Option (rx_St)) (v1 : Int32) (v2 : Int32) (v3 : Int32) (σ : rx_St) : Option (rx_St) :=
    k46 v1 v2 (v3 + (1 : Int32)) σ
def f_m_chooses_246 (k46 : Int32 → Int32 → Int32 → rx_St → Option (rx_St)) (k78 : Int32 → Int32 → Int32 → Int32 → rx_St → Option (rx_St)) (v1 : Int32) (v2 : Int32) (v3 : Int32) (v4 : Int32) (s1 : Int32) (s2 : Int32) (σ : rx_St) : Option (rx_St) :=
    rx_g s1 960 (
    let σ1 : rx_St := rx_si σ 143 s1.toNatClampNeg s2;
    rx_g v1 20 (
    rx_g v1 20 (
    let σ2 : rx_St := rx_si σ1 138 v1.toNatClampNeg ((σ1.1 138 v1.toNatClampNeg) + (1 : Int32));
    k78 v1 v2 v3 (v4 + (1 : Int32)) σ2)))
def f_m_chooses_188 (k46 : Int32 → Int32 → Int32 → rx_St → Option (rx_St)) (k78 : Int32 → Int32 → Int32 → Int32 → rx_St → Option (rx_St)) (v1 : Int32) (v2 : Int32) (v3 : Int32) (v4 : Int32) (v5 : Int32) (s1 : Int32) (s2 : Int32) (σ : rx_St) : Option (rx_St) :=
    rx_g s1 960 (
    let σ1 : rx_St := rx_si σ 142 s1.toNatClampNeg s2;
    rx_g v4 480 (
    if (σ1.1 108 v4.toNatClampNeg) = (2 : Int32) then
    (rx_g v4 480 (
    (f_m_nearOf (σ1.1 110 v4.toNatClampNeg) σ1).bind fun y1 =>
    f_m_chooses_246 k46 k78 v1 v2 v3 v4 v5 y1 σ1))
    else
    (rx_g v4 480 (
    if (σ1.1 108 v4.toNatClampNeg) = (3 : Int32) then
    (rx_g v4 480 (
    (f_m_pickOf (σ1.1 110 v4.toNatClampNeg) σ1).bind fun y2 =>
    f_m_chooses_246 k46 k78 v1 v2 v3 v4 v5 y2.1 y2.2))
    else
    f_m_chooses_246 k46 k78 v1 v2 v3 v4 v5 (-1 : Int32) σ1))))
def f_m_chooses_78 (k46 : Int32 → Int32 → Int32 → rx_St → Option (rx_St)) : Nat → Int32 → Int32 → Int32 → Int32 → rx_St → Option (rx_St)
  | 0, _, _, _, _, _ => none
  | n + 1, v1, v2, v3, v4, σ =>
    rx_g v3 80 (
    if (((6 : Int32) * v3) + (σ.1 107 v3.toNatClampNeg)) ≤ v4 then
    f_m_chooses_263 k46 v1 v2 v3 σ
    else
    (rx_g v1 20 (
    let x1 : Int32 := ((48 : Int32) * v1) + (σ.1 138 v1.toNatClampNeg);
    rx_g v4 480 (
    rx_g x1 960 (
    let σ1 : rx_St := rx_si σ 139 x1.toNatClampNeg (σ.1 108 v4.toNatClampNeg);
    rx_g v4 480 (
    rx_g x1 960 (
    let σ2 : rx_St := rx_si σ1 140 x1.toNatClampNeg (σ1.1 109 v4.toNatClampNeg);
    rx_g v4 480 (
    rx_g x1 960 (
    let σ3 : rx_St := rx_si σ2 141 x1.toNatClampNeg (σ2.1 111 v4.toNatClampNeg);
    rx_g v4 480 (
    if (σ3.1 108 v4.toNatClampNeg) = (4 : Int32) then
    f_m_chooses_188 k46 (f_m_chooses_78 k46 n) v1 v2 v3 v4 x1 x1 (0 : Int32) σ3
    else
    (rx_g v4 480 (
    rx_g v4 480 (
    (f_m_termOf (σ3.1 112 v4.toNatClampNeg) (σ3.1 113 v4.toNatClampNeg) σ3).bind fun y2 =>
    f_m_chooses_188 k46 (f_m_chooses_78 k46 n) v1 v2 v3 v4 x1 x1 y2.1 y2.2)))))))))))))
def f_m_chooses_46 : Nat → Int32 → Int32 → Int32 → rx_St → Option (rx_St)
  | 0, _, _, _, _ => none
  | n + 1, v1, v2, v3, σ =>
    rx_g v2 10 (
    if (((8 : Int32) * v2) + (σ.1 104 v2.toNatClampNeg)) ≤ v3 then
    some σ
    else
    ((f_m_holds v3 σ).bind fun y1 =>
    if y1.1 = (0 : Int32) then
    f_m_chooses_263 (f_m_chooses_46 n) v1 v2 v3 y1.2
    else
    (let x2 : Int32 := (6 : Int32) * v3;
    f_m_chooses_78 (f_m_chooses_46 n) rx_fu v1 v2 v3 x2 y1.2)))
def f_m_chooses (a0 : Int32) (σ : rx_St) : Option (rx_St) :=
  let σ1 : rx_St := rx_si σ 87 80 a0;
    let σ2 : rx_St := rx_si σ1 87 81 (0 : Int32);
    rx_g a0 20 (
    let σ3 : rx_St := rx_si σ2 138 a0.toNatClampNeg (0 : Int32);
    rx_g a0 20 (
    if (σ3.1 137 a0.toNatClampNeg) = (0 : Int32) then
    (rx_g a0 20 (
    let x1 : Int32 := ((5 : Int32) * (σ3.1 87 18)) + (σ3.1 130 a0.toNatClampNeg);
    let x2 : Int32 := (8 : Int32) * x1;
    f_m_chooses_46 rx_fu a0 x1 x2 σ3))
    else
    some σ3))
def f_m_orders_93 (k2 : Int32 → rx_St → Option (rx_St)) (v1 : Int32) (v2 : Int32) (σ : rx_St) : Option (rx_St) :=
    rx_g v2 20 (
    let σ1 : rx_St := rx_si σ 144 v2.toNatClampNeg v1;
    k2 (v1 + (1 : Int32)) σ1)
def f_m_orders_47 (k2 : Int32 → rx_St → Option (rx_St)) : Nat → Int32 → Int32 → rx_St → Option (rx_St)
  | 0, _, _, _ => none
  | n + 1, v1, v2, σ =>
    if v2 ≤ (0 : Int32) then
    f_m_orders_93 k2 v1 v2 σ
    else
    (rx_g (v2 - (1 : Int32)) 20 (
    rx_g (σ.1 144 (v2 - (1 : Int32)).toNatClampNeg) 20 (
    rx_g v1 20 (
    if (σ.1 145 (σ.1 144 (v2 - (1 : Int32)).toNatClampNeg).toNatClampNeg) ≤ (σ.1 145 v1.toNatClampNeg) then
    f_m_orders_93 k2 v1 v2 σ
    else
    (rx_g (v2 - (1 : Int32)) 20 (
    rx_g v2 20 (
    let σ1 : rx_St := rx_si σ 144 v2.toNatClampNeg (σ.1 144 (v2 - (1 : Int32)).toNatClampNeg);
    f_m_orders_47 k2 n v1 (v2 + (-1 : Int32)) σ1)))))))
def f_m_orders_44 (k2 : Int32 → rx_St → Option (rx_St)) (v1 : Int32) (s1 : Int32) (s2 : Int32) (σ : rx_St) : Option (rx_St) :=
    rx_g s1 20 (
    let σ1 : rx_St := rx_si σ 145 s1.toNatClampNeg s2;
    f_m_orders_47 k2 rx_fu v1 v1 σ1)
def f_m_orders_2 : Nat → Int32 → rx_St → Option (rx_St)
  | 0, _, _ => none
  | n + 1, v1, σ =>
    if (σ.1 87 60) ≤ v1 then
    some σ
    else
    if (σ.1 87 65) = (0 : Int32) then
    f_m_orders_44 (f_m_orders_2 n) v1 v1 (0 : Int32) σ
    else
    ((f_m_lotOf (σ.1 87 78) v1 (σ.1 87 79) (1000 : Int32) (1000 : Int32)).bind fun y1 =>
    f_m_orders_44 (f_m_orders_2 n) v1 v1 y1 σ)
def f_m_orders (σ : rx_St) : Option (rx_St) :=
  f_m_orders_2 rx_fu (0 : Int32) σ
def f_m_does_154 (v1 : Int32) (v2 : Int32) (s0 : Int32) (σ : rx_St) : Option (rx_St) :=
    if s0 < (1 : Int32) then
    some σ
    else
    (rx_g v2 960 (
    if (σ.1 143 v2.toNatClampNeg) = (-1 : Int32) then
    some σ
    else
    (rx_g v2 960 (
    rx_g (σ.1 143 v2.toNatClampNeg) 20 (
    if (σ.1 137 (σ.1 143 v2.toNatClampNeg).toNatClampNeg) = (0 : Int32) then
    (rx_g v2 960 (
    rx_g (((6 : Int32) * v1) + (σ.1 140 v2.toNatClampNeg)) 120 (
    rx_g (((6 : Int32) * v1) + (σ.1 140 v2.toNatClampNeg)) 120 (
    let σ1 : rx_St := rx_si σ 135 (((6 : Int32) * v1) + (σ.1 140 v2.toNatClampNeg)).toNatClampNeg ((σ.1 135 (((6 : Int32) * v1) + (σ.1 140 v2.toNatClampNeg)).toNatClampNeg) - s0);
    rx_g v2 960 (
    rx_g v2 960 (
    rx_g (((6 : Int32) * (σ1.1 143 v2.toNatClampNeg)) + (σ1.1 141 v2.toNatClampNeg)) 120 (
    rx_g (((6 : Int32) * (σ1.1 143 v2.toNatClampNeg)) + (σ1.1 141 v2.toNatClampNeg)) 120 (
    let σ2 : rx_St := rx_si σ1 135 (((6 : Int32) * (σ1.1 143 v2.toNatClampNeg)) + (σ1.1 141 v2.toNatClampNeg)).toNatClampNeg ((σ1.1 135 (((6 : Int32) * (σ1.1 143 v2.toNatClampNeg)) + (σ1.1 141 v2.toNatClampNeg)).toNatClampNeg) + s0);
    some σ2))))))))
    else
    some σ)))))
def f_m_does_117 (v1 : Int32) (v2 : Int32) (σ : rx_St) : Option (rx_St) :=
    rx_g v2 960 (
    rx_g (((6 : Int32) * v1) + (σ.1 140 v2.toNatClampNeg)) 120 (
    let x1 : Int32 := σ.1 135 (((6 : Int32) * v1) + (σ.1 140 v2.toNatClampNeg)).toNatClampNeg;
    rx_g v2 960 (
    if x1 ≤ (σ.1 142 v2.toNatClampNeg) then
    f_m_does_154 v1 v2 x1 σ
    else
    (rx_g v2 960 (
    f_m_does_154 v1 v2 (σ.1 142 v2.toNatClampNeg) σ)))))
def f_m_does (a0 : Int32) (a1 : Int32) (σ : rx_St) : Option (rx_St) :=
  rx_g a1 960 (
    if (σ.1 139 a1.toNatClampNeg) = (0 : Int32) then
    (rx_g a1 960 (
    rx_g (((6 : Int32) * a0) + (σ.1 140 a1.toNatClampNeg)) 120 (
    rx_g a1 960 (
    rx_g (((6 : Int32) * a0) + (σ.1 140 a1.toNatClampNeg)) 120 (
    let σ4 : rx_St := rx_si σ 135 (((6 : Int32) * a0) + (σ.1 140 a1.toNatClampNeg)).toNatClampNeg ((σ.1 135 (((6 : Int32) * a0) + (σ.1 140 a1.toNatClampNeg)).toNatClampNeg) + (σ.1 142 a1.toNatClampNeg));
    some σ4)))))
    else
    if (σ.1 139 a1.toNatClampNeg) = (1 : Int32) then
    (rx_g a0 20 (
    rx_g a1 960 (
    let x1 : Int64 := (((σ.1 136 a0.toNatClampNeg).toInt64) + ((σ.1 142 a1.toNatClampNeg).toInt64)) - (((σ.1 136 a0.toNatClampNeg).toInt64) + ((σ.1 142 a1.toNatClampNeg).toInt64)) / (10 : Int64) * (10 : Int64);
    if (0 : Int32) ≤ (lg_cmp x1 (0 : Int64)) then
    (rx_g a0 20 (
    let σ2 : rx_St := rx_si σ 136 a0.toNatClampNeg x1.toInt32;
    some σ2))
    else
    (rx_g a0 20 (
    let σ3 : rx_St := rx_si σ 136 a0.toNatClampNeg ((x1 + (10 : Int64)).toInt32);
    some σ3)))))
    else
    if (σ.1 139 a1.toNatClampNeg) = (2 : Int32) then
    f_m_does_117 a0 a1 σ
    else
    if (σ.1 139 a1.toNatClampNeg) = (3 : Int32) then
    f_m_does_117 a0 a1 σ
    else
    if (σ.1 139 a1.toNatClampNeg) = (4 : Int32) then
    (rx_g a0 20 (
    let σ1 : rx_St := rx_si σ 137 a0.toNatClampNeg (vp_nar .boolean (1 : Int32));
    some σ1))
    else
    f_m_does_117 a0 a1 σ)
def f_m_tick_148 (k90 : Int32 → rx_St → Option (rx_St)) (v2 : Int32) (s1 : Int32) (s2 : Int32) (σ : rx_St) : Option (rx_St) :=
    rx_g s1 120 (
    let σ1 : rx_St := rx_si σ 135 s1.toNatClampNeg s2;
    k90 (v2 + (1 : Int32)) σ1)
def f_m_tick_90 : Nat → Int32 → rx_St → Option (rx_St)
  | 0, _, _ => none
  | n + 1, v2, σ =>
    if ((6 : Int32) * (σ.1 87 60)) ≤ v2 then
    some σ
    else
    (rx_g v2 120 (
    if (-9999 : Int32) ≤ (σ.1 135 v2.toNatClampNeg) then
    (rx_g v2 120 (
    if (σ.1 135 v2.toNatClampNeg) ≤ (9999 : Int32) then
    (rx_g v2 120 (
    f_m_tick_148 (f_m_tick_90 n) v2 v2 (σ.1 135 v2.toNatClampNeg) σ))
    else
    f_m_tick_148 (f_m_tick_90 n) v2 v2 (9999 : Int32) σ))
    else
    f_m_tick_148 (f_m_tick_90 n) v2 v2 (-9999 : Int32) σ))
def f_m_tick_82 (k27 : Int32 → Int32 → rx_St → Option (rx_St)) (v1 : Int32) (v2 : Int32) (σ : rx_St) : Option (rx_St) :=
    k27 v1 (v2 + (1 : Int32)) σ
def f_m_tick_48 (k27 : Int32 → Int32 → rx_St → Option (rx_St)) : Nat → Int32 → Int32 → Int32 → Int32 → rx_St → Option (rx_St)
  | 0, _, _, _, _, _ => none
  | n + 1, v1, v2, v3, v4, σ =>
    rx_g v3 20 (
    if (((48 : Int32) * v3) + (σ.1 138 v3.toNatClampNeg)) ≤ v4 then
    f_m_tick_82 k27 v1 v2 σ
    else
    if v3 = v1 then
    f_m_tick_82 k27 v1 v2 σ
    else
    ((f_m_does v3 v4 σ).bind fun y1 =>
    f_m_tick_48 k27 n v1 v2 v3 (v4 + (1 : Int32)) y1))
def f_m_tick_27 : Nat → Int32 → Int32 → rx_St → Option (rx_St)
  | 0, _, _, _ => none
  | n + 1, v1, v2, σ =>
    if (σ.1 87 60) ≤ v2 then
    f_m_tick_90 rx_fu (0 : Int32) σ
    else
    (rx_g v2 20 (
    let x1 : Int32 := σ.1 144 v2.toNatClampNeg;
    let x2 : Int32 := (48 : Int32) * x1;
    f_m_tick_48 (f_m_tick_27 n) rx_fu v1 v2 x1 x2 σ))
def f_m_tick_2 : Nat → Int32 → Int32 → rx_St → Option (rx_St)
  | 0, _, _, _ => none
  | n + 1, v1, v2, σ =>
    if (σ.1 87 60) ≤ v2 then
    ((f_m_orders σ).bind fun y1 =>
    f_m_tick_27 rx_fu v1 (0 : Int32) y1)
    else
    ((f_m_chooses v2 σ).bind fun y2 =>
    f_m_tick_2 n v1 (v2 + (1 : Int32)) y2)
def f_m_tick (a0 : Int32) (σ : rx_St) : Option (rx_St) :=
  f_m_tick_2 rx_fu a0 (0 : Int32) σ
def f_m_begins_38 : Nat → Int32 → rx_St → Option (rx_St)
  | 0, _, _ => none
  | n + 1, v2, σ =>
    if (σ.1 87 60) ≤ v2 then
    some σ
    else
    (rx_g v2 20 (
    rx_g v2 20 (
    let σ1 : rx_St := rx_si σ 136 v2.toNatClampNeg (σ.1 131 v2.toNatClampNeg);
    rx_g v2 20 (
    let σ2 : rx_St := rx_si σ1 137 v2.toNatClampNeg (vp_nar .boolean (0 : Int32));
    f_m_begins_38 n (v2 + (1 : Int32)) σ2))))
def f_m_begins_7 : Nat → Int32 → rx_St → Option (rx_St)
  | 0, _, _ => none
  | n + 1, v2, σ =>
    if ((6 : Int32) * (σ.1 87 60)) ≤ v2 then
    f_m_begins_38 rx_fu (0 : Int32) σ
    else
    (rx_g v2 120 (
    rx_g v2 120 (
    let σ1 : rx_St := rx_si σ 135 v2.toNatClampNeg (σ.1 133 v2.toNatClampNeg);
    f_m_begins_7 n (v2 + (1 : Int32)) σ1)))
def f_m_begins (a0 : Int32) (σ : rx_St) : Option (rx_St) :=
  let σ1 : rx_St := rx_si σ 87 78 a0;
    f_m_begins_7 rx_fu (0 : Int32) σ1
def f_m_goes_10 : Nat → Int32 → rx_St → Option (rx_St)
  | 0, _, _ => none
  | n + 1, v2, σ =>
    if v2 ≤ (σ.1 87 79) then
    some σ
    else
    ((f_m_tick (-1 : Int32) σ).bind fun y1 =>
    let σ1 : rx_St := rx_si y1 87 79 ((y1.1 87 79) + (1 : Int32));
    f_m_goes_10 n v2 σ1)
def f_m_goes (a0 : Int32) (a1 : Int32) (σ : rx_St) : Option (rx_St) :=
  (f_m_begins a0 σ).bind fun y1 =>
    let σ1 : rx_St := rx_si y1 87 79 (0 : Int32);
    f_m_goes_10 rx_fu a1 σ1
def f_m_isTicks (a0 : Int32) : Int32 :=
  if a0 < (0 : Int32) then
    (0 : Int32)
    else
    if (40 : Int32) < a0 then
    (0 : Int32)
    else
    (1 : Int32)
def f_m_state (a0 : Int32) (a1 : Int32) (a2 : Int32) (a3 : Int32) (σ : rx_St) : Option (Int32 × rx_St) :=
  let σ1 : rx_St := rx_si σ 87 0 (0 : Int32);
    if (f_m_isTicks a1) = (0 : Int32) then
    some ((-1000000 : Int32), σ1)
    else
    ((f_m_isVar a2 a3 σ1).bind fun y1 =>
    if y1 = (0 : Int32) then
    some ((-1000000 : Int32), σ1)
    else
    ((f_m_takesNumbers σ1).bind fun y2 =>
    (f_m_goes a0 a1 y2).bind fun y3 =>
    rx_g (((6 : Int32) * a2) + a3) 120 (
    some (y3.1 135 (((6 : Int32) * a2) + a3).toNatClampNeg, y3))))
def f_m_at2 (a0 : Int32) (a1 : Int32) (a2 : Int32) (σ : rx_St) : Option (Int32 × rx_St) :=
  let σ1 : rx_St := rx_si σ 87 0 (0 : Int32);
    if (f_m_isTicks a1) = (0 : Int32) then
    some ((-1 : Int32), σ1)
    else
    if (f_m_isOne a2 σ1) = (0 : Int32) then
    some ((-1 : Int32), σ1)
    else
    ((f_m_takesNumbers σ1).bind fun y1 =>
    (f_m_goes a0 a1 y1).bind fun y2 =>
    rx_g a2 20 (
    if (y2.1 137 a2.toNatClampNeg) = (0 : Int32) then
    (rx_g a2 20 (
    some (y2.1 136 a2.toNatClampNeg, y2)))
    else
    some ((-2 : Int32), y2)))
def f_m_isFigure (a0 : Int32) (a1 : Int32) (a2 : Int32) (σ : rx_St) : Option (Int32) :=
  if (f_m_isTicks a0) = (0 : Int32) then
    some (0 : Int32)
    else
    if a1 < (0 : Int32) then
    some (0 : Int32)
    else
    (rx_g (σ.1 87 18) 2 (
    if (σ.1 98 (σ.1 87 18).toNatClampNeg) ≤ a1 then
    some (0 : Int32)
    else
    if a2 < (0 : Int32) then
    some (0 : Int32)
    else
    (rx_g (((5 : Int32) * (σ.1 87 18)) + a1) 10 (
    if (σ.1 100 (((5 : Int32) * (σ.1 87 18)) + a1).toNatClampNeg) ≤ a2 then
    some (0 : Int32)
    else
    some (1 : Int32)))))
def f_m_figureOf_58 (k12 : Int32 → Int32 → Int32 → Int32 → rx_St → Option (Int32 × rx_St)) (v3 : Int32) (v4 : Int32) (v5 : Int32) (v6 : Int32) (σ : rx_St) : Option (Int32 × rx_St) :=
    k12 v3 v4 v5 (v6 + (1 : Int32)) σ
def f_m_figureOf_12 : Nat → Int32 → Int32 → Int32 → Int32 → rx_St → Option (Int32 × rx_St)
  | 0, _, _, _, _, _ => none
  | n + 1, v3, v4, v5, v6, σ =>
    if (σ.1 87 60) ≤ v6 then
    some (v5, σ)
    else
    (rx_g v6 20 (
    if (σ.1 130 v6.toNatClampNeg) = v3 then
    (rx_g (((6 : Int32) * v6) + v4) 120 (
    rx_g v6 20 (
    let x1 : Int32 := v5 + ((σ.1 135 (((6 : Int32) * v6) + v4).toNatClampNeg) * (σ.1 132 v6.toNatClampNeg));
    f_m_figureOf_58 (f_m_figureOf_12 n) v3 v4 x1 v6 σ)))
    else
    f_m_figureOf_58 (f_m_figureOf_12 n) v3 v4 v5 v6 σ))
def f_m_figureOf (a0 : Int32) (a1 : Int32) (a2 : Int32) (a3 : Int32) (σ : rx_St) : Option (Int32 × rx_St) :=
  (f_m_goes a0 a1 σ).bind fun y1 =>
    f_m_figureOf_12 rx_fu a2 a3 (0 : Int32) (0 : Int32) y1
def f_m_figure (a0 : Int32) (a1 : Int32) (a2 : Int32) (a3 : Int32) (σ : rx_St) : Option (Int32 × rx_St) :=
  let σ1 : rx_St := rx_si σ 87 0 (0 : Int32);
    (f_m_isFigure a1 a2 a3 σ1).bind fun y1 =>
    if y1 = (0 : Int32) then
    some ((-1000000000 : Int32), σ1)
    else
    ((f_m_takesNumbers σ1).bind fun y2 =>
    (f_m_figureOf a0 a1 a2 a3 y2).bind fun y3 =>
    some (y3.1, y3.2))
def f_m_wishes (a0 : Int32) (a1 : Int32) (a2 : Int32) (σ : rx_St) : Option (Int32 × rx_St) :=
  let σ1 : rx_St := rx_si σ 87 0 (0 : Int32);
    if (f_m_in a1 (0 : Int32) (39 : Int32)) = (0 : Int32) then
    some ((-1 : Int32), σ1)
    else
    if (f_m_isOne a2 σ1) = (0 : Int32) then
    some ((-1 : Int32), σ1)
    else
    ((f_m_takesNumbers σ1).bind fun y1 =>
    (f_m_goes a0 a1 y1).bind fun y2 =>
    (f_m_chooses a2 y2).bind fun y3 =>
    rx_g a2 20 (
    some (y3.1 138 a2.toNatClampNeg, y3)))
def f_m_cellOf (a0 : Int32) (a1 : Int32) (σ : rx_St) : Option (Int32) :=
  if (6 : Int32) ≤ a1 then
    if a1 = (6 : Int32) then
    (rx_g a0 20 (
    some (σ.1 136 a0.toNatClampNeg)))
    else
    (rx_g a0 20 (
    if (σ.1 137 a0.toNatClampNeg) = (0 : Int32) then
    some (0 : Int32)
    else
    some (1 : Int32)))
    else
    (rx_g a0 20 (
    rx_g (((5 : Int32) * (σ.1 87 18)) + (σ.1 130 a0.toNatClampNeg)) 10 (
    if (σ.1 100 (((5 : Int32) * (σ.1 87 18)) + (σ.1 130 a0.toNatClampNeg)).toNatClampNeg) ≤ a1 then
    some (0 : Int32)
    else
    (rx_g (((6 : Int32) * a0) + a1) 120 (
    some (σ.1 135 (((6 : Int32) * a0) + a1).toNatClampNeg))))))
def f_m_changes_272 (k143 : Int32 → Int32 → Int32 → Int32 → rx_St → Option (Int32 × rx_St)) (k172 : Int32 → Int32 → Int32 → Int32 → Int32 → rx_St → Option (Int32 × rx_St)) (v2 : Int32) (v3 : Int32) (v4 : Int32) (v5 : Int32) (v6 : Int32) (σ : rx_St) : Option (Int32 × rx_St) :=
    k172 v2 v3 v4 v5 (v6 + (1 : Int32)) σ
def f_m_changes_252 (k143 : Int32 → Int32 → Int32 → Int32 → rx_St → Option (Int32 × rx_St)) (k172 : Int32 → Int32 → Int32 → Int32 → Int32 → rx_St → Option (Int32 × rx_St)) (v2 : Int32) (v3 : Int32) (v4 : Int32) (v5 : Int32) (v6 : Int32) (σ : rx_St) : Option (Int32 × rx_St) :=
    rx_g v6 20 (
    if (σ.1 148 v6.toNatClampNeg) = (-1 : Int32) then
    f_m_changes_272 k143 k172 v2 v3 v4 v5 v6 σ
    else
    (let x1 : Int32 := v5 ||| (rx_ishl (1 : Int32) v6);
    f_m_changes_272 k143 k172 v2 v3 v4 x1 v6 σ))
def f_m_changes_246 (k143 : Int32 → Int32 → Int32 → Int32 → rx_St → Option (Int32 × rx_St)) (k172 : Int32 → Int32 → Int32 → Int32 → Int32 → rx_St → Option (Int32 × rx_St)) (k184 : Int32 → Int32 → Int32 → Int32 → Int32 → Int32 → rx_St → Option (Int32 × rx_St)) (v2 : Int32) (v3 : Int32) (v4 : Int32) (v5 : Int32) (v6 : Int32) (v7 : Int32) (σ : rx_St) : Option (Int32 × rx_St) :=
    k184 v2 v3 v4 v5 v6 (v7 + (1 : Int32)) σ
def f_m_changes_184 (k143 : Int32 → Int32 → Int32 → Int32 → rx_St → Option (Int32 × rx_St)) (k172 : Int32 → Int32 → Int32 → Int32 → Int32 → rx_St → Option (Int32 × rx_St)) : Nat → Int32 → Int32 → Int32 → Int32 → Int32 → Int32 → rx_St → Option (Int32 × rx_St)
  | 0, _, _, _, _, _, _, _ => none
  | n + 1, v2, v3, v4, v5, v6, v7, σ =>
    if (8 : Int32) ≤ v7 then
    f_m_changes_252 k143 k172 v2 v3 v4 v5 v6 σ
    else
    (rx_g v6 20 (
    if (σ.1 148 v6.toNatClampNeg) = (-1 : Int32) then
    (rx_g ((((160 : Int32) * (σ.1 87 79)) + ((8 : Int32) * v6)) + v7) 6560 (
    (f_m_cellOf v6 v7 σ).bind fun y1 =>
    if (σ.1 147 ((((160 : Int32) * (σ.1 87 79)) + ((8 : Int32) * v6)) + v7).toNatClampNeg) = y1 then
    f_m_changes_246 k143 k172 (f_m_changes_184 k143 k172 n) v2 v3 v4 v5 v6 v7 σ
    else
    (rx_g v6 20 (
    let σ1 : rx_St := rx_si σ 148 v6.toNatClampNeg (σ.1 87 79);
    f_m_changes_246 k143 k172 (f_m_changes_184 k143 k172 n) v2 v3 v4 v5 v6 v7 σ1))))
    else
    f_m_changes_252 k143 k172 v2 v3 v4 v5 v6 σ))
def f_m_changes_172 (k143 : Int32 → Int32 → Int32 → Int32 → rx_St → Option (Int32 × rx_St)) : Nat → Int32 → Int32 → Int32 → Int32 → Int32 → rx_St → Option (Int32 × rx_St)
  | 0, _, _, _, _, _, _ => none
  | n + 1, v2, v3, v4, v5, v6, σ =>
    if (σ.1 87 60) ≤ v6 then
    (let σ1 : rx_St := rx_si σ 87 79 ((σ.1 87 79) + (1 : Int32));
    k143 v2 v3 v4 v5 σ1)
    else
    f_m_changes_184 k143 (f_m_changes_172 k143 n) rx_fu v2 v3 v4 v5 v6 (0 : Int32) σ
def f_m_changes_166 (k143 : Int32 → Int32 → Int32 → Int32 → rx_St → Option (Int32 × rx_St)) (v2 : Int32) (v3 : Int32) (v4 : Int32) (v5 : Int32) (s1 : Int32) (σ : rx_St) : Option (Int32 × rx_St) :=
    (f_m_tick s1 σ).bind fun y1 =>
    f_m_changes_172 k143 rx_fu v2 v3 v4 v5 (0 : Int32) y1
def f_m_changes_143 : Nat → Int32 → Int32 → Int32 → Int32 → rx_St → Option (Int32 × rx_St)
  | 0, _, _, _, _, _ => none
  | n + 1, v2, v3, v4, v5, σ =>
    if v2 ≤ (σ.1 87 79) then
    some (v5, σ)
    else
    if (σ.1 87 79) = v4 then
    f_m_changes_166 (f_m_changes_143 n) v2 v3 v4 v5 v3 σ
    else
    f_m_changes_166 (f_m_changes_143 n) v2 v3 v4 v5 (-1 : Int32) σ
def f_m_changes_110 : Nat → Int32 → Int32 → Int32 → Int32 → Int32 → Int32 → rx_St → Option (Int32 × rx_St)
  | 0, _, _, _, _, _, _, _ => none
  | n + 1, v1, v2, v3, v4, v5, v6, σ =>
    if (σ.1 87 60) ≤ v6 then
    ((f_m_begins v1 σ).bind fun y1 =>
    let σ1 : rx_St := rx_si y1 87 79 (0 : Int32);
    f_m_changes_143 rx_fu v2 v3 v4 v5 σ1)
    else
    (rx_g v6 20 (
    let σ2 : rx_St := rx_si σ 148 v6.toNatClampNeg (-1 : Int32);
    f_m_changes_110 n v1 v2 v3 v4 v5 (v6 + (1 : Int32)) σ2))
def f_m_changes_42 (k14 : Int32 → Int32 → Int32 → Int32 → rx_St → Option (Int32 × rx_St)) (k30 : Int32 → Int32 → Int32 → Int32 → Int32 → rx_St → Option (Int32 × rx_St)) : Nat → Int32 → Int32 → Int32 → Int32 → Int32 → Int32 → rx_St → Option (Int32 × rx_St)
  | 0, _, _, _, _, _, _, _ => none
  | n + 1, v1, v2, v3, v4, v5, v6, σ =>
    if (8 : Int32) ≤ v6 then
    k30 v1 v2 v3 v4 (v5 + (1 : Int32)) σ
    else
    ((f_m_cellOf v5 v6 σ).bind fun y1 =>
    rx_g ((((160 : Int32) * (σ.1 87 79)) + ((8 : Int32) * v5)) + v6) 6560 (
    let σ1 : rx_St := rx_si σ 147 ((((160 : Int32) * (σ.1 87 79)) + ((8 : Int32) * v5)) + v6).toNatClampNeg y1;
    f_m_changes_42 k14 k30 n v1 v2 v3 v4 v5 (v6 + (1 : Int32)) σ1))
def f_m_changes_30 (k14 : Int32 → Int32 → Int32 → Int32 → rx_St → Option (Int32 × rx_St)) : Nat → Int32 → Int32 → Int32 → Int32 → Int32 → rx_St → Option (Int32 × rx_St)
  | 0, _, _, _, _, _, _ => none
  | n + 1, v1, v2, v3, v4, v5, σ =>
    if (σ.1 87 60) ≤ v5 then
    (let σ1 : rx_St := rx_si σ 87 79 ((σ.1 87 79) + (1 : Int32));
    k14 v1 v2 v3 v4 σ1)
    else
    f_m_changes_42 k14 (f_m_changes_30 k14 n) rx_fu v1 v2 v3 v4 v5 (0 : Int32) σ
def f_m_changes_14 : Nat → Int32 → Int32 → Int32 → Int32 → rx_St → Option (Int32 × rx_St)
  | 0, _, _, _, _, _ => none
  | n + 1, v1, v2, v3, v4, σ =>
    if v2 ≤ (σ.1 87 79) then
    f_m_changes_110 rx_fu v1 v2 v3 v4 (0 : Int32) (0 : Int32) σ
    else
    ((f_m_tick (-1 : Int32) σ).bind fun y1 =>
    f_m_changes_30 (f_m_changes_14 n) rx_fu v1 v2 v3 v4 (0 : Int32) y1)
def f_m_changes (a0 : Int32) (a1 : Int32) (a2 : Int32) (a3 : Int32) (σ : rx_St) : Option (Int32 × rx_St) :=
  (f_m_takesNumbers σ).bind fun y1 =>
    (f_m_begins a0 y1).bind fun y2 =>
    let σ1 : rx_St := rx_si y2 87 79 (0 : Int32);
    f_m_changes_14 rx_fu a0 a1 a2 a3 σ1
def f_m_changed_31 (σ : rx_St) : Option (Int32 × rx_St) :=
    some ((-1 : Int32), σ)
def f_m_changed (a0 : Int32) (a1 : Int32) (a2 : Int32) (a3 : Int32) (σ : rx_St) : Option (Int32 × rx_St) :=
  let σ1 : rx_St := rx_si σ 87 0 (0 : Int32);
    if (f_m_isTicks a1) = (0 : Int32) then
    f_m_changed_31 σ1
    else
    if (f_m_isOne a2 σ1) = (0 : Int32) then
    f_m_changed_31 σ1
    else
    if a3 < (0 : Int32) then
    f_m_changed_31 σ1
    else
    if a3 < a1 then
    ((f_m_changes a0 a1 a2 a3 σ1).bind fun y1 =>
    some (y1.1, y1.2))
    else
    f_m_changed_31 σ1
def f_m_first (a0 : Int32) (a1 : Int32) (a2 : Int32) (a3 : Int32) (a4 : Int32) (σ : rx_St) : Option (Int32 × rx_St) :=
  let σ1 : rx_St := rx_si σ 87 0 (0 : Int32);
    if (f_m_isTicks a1) = (0 : Int32) then
    some ((-1 : Int32), σ1)
    else
    if (f_m_isOne a2 σ1) = (0 : Int32) then
    some ((-1 : Int32), σ1)
    else
    if (f_m_isOne a4 σ1) = (0 : Int32) then
    some ((-1 : Int32), σ1)
    else
    if a3 < (0 : Int32) then
    some ((-1 : Int32), σ1)
    else
    if a3 < a1 then
    ((f_m_changes a0 a1 a2 a3 σ1).bind fun y1 =>
    if ((rx_ishr y1.1 a4) &&& (1 : Int32)) = (0 : Int32) then
    some ((-2 : Int32), y1.2)
    else
    (rx_g a4 20 (
    some (y1.2.1 148 a4.toNatClampNeg, y1.2))))
    else
    some ((-1 : Int32), σ1)
def f_m_cause (a0 : Int32) (a1 : Int32) (σ : rx_St) : Option (Int32 × rx_St) :=
  let σ1 : rx_St := rx_si σ 87 0 (0 : Int32);
    if (σ1.1 87 86) = (4 : Int32) then
    some ((-1 : Int32), σ1)
    else
    ((f_m_isSetting a0 σ1).bind fun y1 =>
    if y1 = (0 : Int32) then
    some ((-1 : Int32), σ1)
    else
    if (f_m_isNumber a1) = (0 : Int32) then
    some ((-1 : Int32), σ1)
    else
    (rx_g (σ1.1 87 86) 4 (
    let σ2 : rx_St := rx_si σ1 149 (σ1.1 87 86).toNatClampNeg a0;
    rx_g (σ2.1 87 86) 4 (
    let σ3 : rx_St := rx_si σ2 150 (σ2.1 87 86).toNatClampNeg a1;
    let σ4 : rx_St := rx_si σ3 87 86 ((σ3.1 87 86) + (1 : Int32));
    some ((σ4.1 87 86) - (1 : Int32), σ4)))))
def f_m_clear (σ : rx_St) : Option (Int32 × rx_St) :=
  let σ1 : rx_St := rx_si σ 87 0 (0 : Int32);
    let σ2 : rx_St := rx_si σ1 87 86 (0 : Int32);
    some (σ1.1 87 86, σ2)
def f_m_bits_4 : Nat → Int32 → Int32 → Int32 → Option (Int32)
  | 0, _, _, _ => none
  | n + 1, v0, v1, v2 =>
    if (30 : Int32) ≤ v2 then
    some v1
    else
    (let x1 : Int32 := v1 + ((rx_ishr v0 v2) &&& (1 : Int32));
    f_m_bits_4 n v0 x1 (v2 + (1 : Int32)))
def f_m_bits (a0 : Int32) : Option (Int32) :=
  f_m_bits_4 rx_fu a0 (0 : Int32) (0 : Int32)
def f_m_ways_4 : Nat → Int32 → Int64 → Int32 → Option (Int64)
  | 0, _, _, _ => none
  | n + 1, v0, v1, v3 =>
    if v0 < v3 then
    some v1
    else
    (let x1 : Int64 := v1 * v3.toInt64;
    f_m_ways_4 n v0 x1 (v3 + (1 : Int32)))
def f_m_ways (a0 : Int32) : Option (Int64) :=
  f_m_ways_4 rx_fu a0 (1 : Int64) (2 : Int32)
def f_m_share_203 (k129 : Int32 → Int64 → Int32 → rx_St → Option (Int64 × rx_St)) (v1 : Int32) (v6 : Int64) (v8 : Int32) (σ : rx_St) : Option (Int64 × rx_St) :=
    k129 v1 v6 (v8 + (1 : Int32)) σ
def f_m_share_129 : Nat → Int32 → Int64 → Int32 → rx_St → Option (Int64 × rx_St)
  | 0, _, _, _, _ => none
  | n + 1, v1, v6, v8, σ =>
    if (rx_ishl (1 : Int32) (σ.1 87 86)) ≤ v8 then
    some (v6, σ)
    else
    if ((rx_ishr v8 v1) &&& (1 : Int32)) = (1 : Int32) then
    f_m_share_203 (f_m_share_129 n) v1 v6 v8 σ
    else
    ((f_m_bits v8).bind fun y1 =>
    (f_m_ways y1).bind fun y2 =>
    (f_m_ways (((σ.1 87 86) - y1) - (1 : Int32))).bind fun y3 =>
    rx_g (v8 ||| (rx_ishl (1 : Int32) v1)) 16 (
    rx_g v8 16 (
    let x4 : Int64 := v6 + ((y2 * y3) * ((σ.2 151 (v8 ||| (rx_ishl (1 : Int32) v1)).toNatClampNeg) - (σ.2 151 v8.toNatClampNeg)));
    f_m_share_203 (f_m_share_129 n) v1 x4 v8 σ)))
def f_m_share_93 (k36 : Int32 → Int32 → Int32 → Int32 → Int32 → Int32 → rx_St → Option (Int64 × rx_St)) (k54 : Int32 → Int32 → Int32 → Int32 → Int32 → Int32 → Int32 → rx_St → Option (Int64 × rx_St)) (v1 : Int32) (v2 : Int32) (v3 : Int32) (v4 : Int32) (v5 : Int32) (v6 : Int32) (v7 : Int32) (σ : rx_St) : Option (Int64 × rx_St) :=
    k54 v1 v2 v3 v4 v5 v6 (v7 + (1 : Int32)) σ
def f_m_share_54 (k36 : Int32 → Int32 → Int32 → Int32 → Int32 → Int32 → rx_St → Option (Int64 × rx_St)) : Nat → Int32 → Int32 → Int32 → Int32 → Int32 → Int32 → Int32 → rx_St → Option (Int64 × rx_St)
  | 0, _, _, _, _, _, _, _, _ => none
  | n + 1, v1, v2, v3, v4, v5, v6, v7, σ =>
    if (σ.1 87 86) ≤ v7 then
    ((f_m_figureOf v2 v3 v4 v5 σ).bind fun y1 =>
    rx_g v6 16 (
    let σ1 : rx_St := rx_sl y1.2 151 v6.toNatClampNeg y1.1.toInt64;
    k36 v1 v2 v3 v4 v5 (v6 + (1 : Int32)) σ1))
    else
    if ((rx_ishr v6 v7) &&& (1 : Int32)) = (1 : Int32) then
    (rx_g v7 4 (
    rx_g v7 4 (
    rx_g (σ.1 149 v7.toNatClampNeg) 6 (
    let σ2 : rx_St := rx_si σ 134 (σ.1 149 v7.toNatClampNeg).toNatClampNeg (σ.1 150 v7.toNatClampNeg);
    f_m_share_93 k36 (f_m_share_54 k36 n) v1 v2 v3 v4 v5 v6 v7 σ2))))
    else
    f_m_share_93 k36 (f_m_share_54 k36 n) v1 v2 v3 v4 v5 v6 v7 σ
def f_m_share_36 : Nat → Int32 → Int32 → Int32 → Int32 → Int32 → Int32 → rx_St → Option (Int64 × rx_St)
  | 0, _, _, _, _, _, _, _ => none
  | n + 1, v1, v2, v3, v4, v5, v6, σ =>
    if (rx_ishl (1 : Int32) (σ.1 87 86)) ≤ v6 then
    f_m_share_129 rx_fu v1 (0 : Int64) (0 : Int32) σ
    else
    ((f_m_takesNumbers σ).bind fun y1 =>
    f_m_share_54 (f_m_share_36 n) rx_fu v1 v2 v3 v4 v5 v6 (0 : Int32) y1)
def f_m_share (a0 : Int32) (a1 : Int32) (a2 : Int32) (a3 : Int32) (a4 : Int32) (σ : rx_St) : Option (Int64 × rx_St) :=
  let σ1 : rx_St := rx_si σ 87 0 (0 : Int32);
    if a0 < (0 : Int32) then
    some ((-1000000000000 : Int64), σ1)
    else
    if (σ1.1 87 86) ≤ a0 then
    some ((-1000000000000 : Int64), σ1)
    else
    ((f_m_isFigure a2 a3 a4 σ1).bind fun y1 =>
    if y1 = (0 : Int32) then
    some ((-1000000000000 : Int64), σ1)
    else
    f_m_share_36 rx_fu a0 a1 a2 a3 a4 (0 : Int32) σ1)
def f_m_seen (a0 : Int32) (a1 : Int32) (a2 : Int32) (a3 : Int32) (a4 : Int32) (σ : rx_St) : Option (Int32 × rx_St) :=
  let σ1 : rx_St := rx_si σ 87 0 (0 : Int32);
    if (σ1.1 87 90) = (8 : Int32) then
    some ((-1 : Int32), σ1)
    else
    ((f_m_isFigure a0 a1 a2 σ1).bind fun y1 =>
    if y1 = (0 : Int32) then
    some ((-1 : Int32), σ1)
    else
    if a3 ≤ a4 then
    (rx_g (σ1.1 87 90) 8 (
    let σ2 : rx_St := rx_si σ1 152 (σ1.1 87 90).toNatClampNeg a0;
    rx_g (σ2.1 87 90) 8 (
    let σ3 : rx_St := rx_si σ2 153 (σ2.1 87 90).toNatClampNeg a1;
    rx_g (σ3.1 87 90) 8 (
    let σ4 : rx_St := rx_si σ3 154 (σ3.1 87 90).toNatClampNeg a2;
    rx_g (σ4.1 87 90) 8 (
    let σ5 : rx_St := rx_si σ4 155 (σ4.1 87 90).toNatClampNeg a3;
    rx_g (σ5.1 87 90) 8 (
    let σ6 : rx_St := rx_si σ5 156 (σ5.1 87 90).toNatClampNeg a4;
    let σ7 : rx_St := rx_si σ6 87 90 ((σ6.1 87 90) + (1 : Int32));
    some ((σ7.1 87 90) - (1 : Int32), σ7)))))))
    else
    some ((-1 : Int32), σ1))
def f_m_points_4 : Nat → Int32 → Int32 → rx_St → Option (Int32)
  | 0, _, _, _ => none
  | n + 1, v1, v2, σ =>
    if (σ.1 87 96) ≤ v2 then
    some v1
    else
    (rx_g v2 3 (
    let x1 : Int32 := v1 * (σ.1 160 v2.toNatClampNeg);
    f_m_points_4 n x1 (v2 + (1 : Int32)) σ))
def f_m_points (σ : rx_St) : Option (Int32) :=
  f_m_points_4 rx_fu (1 : Int32) (0 : Int32) σ
def f_m_span_57 : Nat → Int32 → Int32 → Int32 → Int32 → Int32 → rx_St → Option (Int32 × rx_St)
  | 0, _, _, _, _, _, _ => none
  | n + 1, v1, v2, v3, v4, v5, σ =>
    if (σ.1 87 96) ≤ v5 then
    (rx_c (¬ v4 = 0) (
    let x2 : Int32 := ((v3 - v2) / v4) + (1 : Int32);
    if (200 : Int32) < x2 then
    some ((-1 : Int32), σ)
    else
    ((f_m_points σ).bind fun y3 =>
    if (y3 * x2) ≤ (200 : Int32) then
    (rx_g (σ.1 87 96) 3 (
    let σ1 : rx_St := rx_si σ 157 (σ.1 87 96).toNatClampNeg v1;
    rx_g (σ1.1 87 96) 3 (
    let σ2 : rx_St := rx_si σ1 158 (σ1.1 87 96).toNatClampNeg v2;
    rx_g (σ2.1 87 96) 3 (
    let σ3 : rx_St := rx_si σ2 159 (σ2.1 87 96).toNatClampNeg v4;
    rx_g (σ3.1 87 96) 3 (
    let σ4 : rx_St := rx_si σ3 160 (σ3.1 87 96).toNatClampNeg x2;
    let σ5 : rx_St := rx_si σ4 87 96 ((σ4.1 87 96) + (1 : Int32));
    (f_m_points σ5).bind fun y4 =>
    some (y4, σ5))))))
    else
    some ((-1 : Int32), σ))))
    else
    (rx_g v5 3 (
    if (σ.1 157 v5.toNatClampNeg) = v1 then
    some ((-1 : Int32), σ)
    else
    f_m_span_57 n v1 v2 v3 v4 (v5 + (1 : Int32)) σ))
def f_m_span (a0 : Int32) (a1 : Int32) (a2 : Int32) (a3 : Int32) (σ : rx_St) : Option (Int32 × rx_St) :=
  let σ1 : rx_St := rx_si σ 87 0 (0 : Int32);
    if (σ1.1 87 96) = (3 : Int32) then
    some ((-1 : Int32), σ1)
    else
    ((f_m_isSetting a0 σ1).bind fun y1 =>
    if y1 = (0 : Int32) then
    some ((-1 : Int32), σ1)
    else
    if (f_m_isNumber a1) = (0 : Int32) then
    some ((-1 : Int32), σ1)
    else
    if (f_m_isNumber a2) = (0 : Int32) then
    some ((-1 : Int32), σ1)
    else
    if a2 < a1 then
    some ((-1 : Int32), σ1)
    else
    if (f_m_in a3 (1 : Int32) (9999 : Int32)) = (0 : Int32) then
    some ((-1 : Int32), σ1)
    else
    f_m_span_57 rx_fu a0 a1 a2 a3 (0 : Int32) σ1)
def f_m_stepOf_10 : Nat → Int32 → Int32 → Int32 → rx_St → Option (Int32)
  | 0, _, _, _, _ => none
  | n + 1, v2, v3, v4, σ =>
    if v4 ≤ v2 then
    (rx_g v2 3 (
    rx_c (¬ (σ.1 160 v2.toNatClampNeg) = 0) (
    some (rx_irem v3 (σ.1 160 v2.toNatClampNeg)))))
    else
    (rx_g v4 3 (
    rx_c (¬ (σ.1 160 v4.toNatClampNeg) = 0) (
    let x3 : Int32 := v3 / (σ.1 160 v4.toNatClampNeg);
    f_m_stepOf_10 n v2 x3 (v4 + (-1 : Int32)) σ)))
def f_m_stepOf (a0 : Int32) (a1 : Int32) (σ : rx_St) : Option (Int32) :=
  let x1 : Int32 := (σ.1 87 96) - (1 : Int32);
    f_m_stepOf_10 rx_fu a1 a0 x1 σ
def f_m_stands_6 : Nat → Int32 → Int32 → rx_St → Option (rx_St)
  | 0, _, _, _ => none
  | n + 1, v1, v2, σ =>
    if (σ.1 87 96) ≤ v2 then
    some σ
    else
    (rx_g v2 3 (
    rx_g v2 3 (
    (f_m_stepOf v1 v2 σ).bind fun y1 =>
    rx_g v2 3 (
    rx_g (σ.1 157 v2.toNatClampNeg) 6 (
    let σ1 : rx_St := rx_si σ 134 (σ.1 157 v2.toNatClampNeg).toNatClampNeg ((σ.1 158 v2.toNatClampNeg) + (y1 * (σ.1 159 v2.toNatClampNeg)));
    f_m_stands_6 n v1 (v2 + (1 : Int32)) σ1)))))
def f_m_stands (a0 : Int32) (σ : rx_St) : Option (rx_St) :=
  (f_m_takesNumbers σ).bind fun y1 =>
    f_m_stands_6 rx_fu a0 (0 : Int32) y1
def f_m_isMeeting_15 (k7 : Int32 → Int32 → rx_St → Option (Int32 × rx_St)) : Nat → Int32 → Int32 → Int32 → rx_St → Option (Int32 × rx_St)
  | 0, _, _, _, _ => none
  | n + 1, v2, v3, v4, σ =>
    if (σ.1 87 90) ≤ v4 then
    k7 v2 (v3 + (1 : Int32)) σ
    else
    (rx_g v4 8 (
    rx_g v4 8 (
    rx_g v4 8 (
    (f_m_figureOf v3 (σ.1 152 v4.toNatClampNeg) (σ.1 153 v4.toNatClampNeg) (σ.1 154 v4.toNatClampNeg) σ).bind fun y1 =>
    rx_g v4 8 (
    if y1.1 < (y1.2.1 155 v4.toNatClampNeg) then
    some ((0 : Int32), y1.2)
    else
    (rx_g v4 8 (
    if y1.1 ≤ (y1.2.1 156 v4.toNatClampNeg) then
    f_m_isMeeting_15 k7 n v2 v3 (v4 + (1 : Int32)) y1.2
    else
    some ((0 : Int32), y1.2))))))))
def f_m_isMeeting_7 : Nat → Int32 → Int32 → rx_St → Option (Int32 × rx_St)
  | 0, _, _, _ => none
  | n + 1, v2, v3, σ =>
    if v2 ≤ v3 then
    some ((1 : Int32), σ)
    else
    f_m_isMeeting_15 (f_m_isMeeting_7 n) rx_fu v2 v3 (0 : Int32) σ
def f_m_isMeeting (a0 : Int32) (a1 : Int32) (σ : rx_St) : Option (Int32 × rx_St) :=
  (f_m_stands a0 σ).bind fun y1 =>
    f_m_isMeeting_7 rx_fu a1 (0 : Int32) y1
def f_m_isSeeds (a0 : Int32) : Int32 :=
  if a0 < (1 : Int32) then
    (0 : Int32)
    else
    if (3 : Int32) < a0 then
    (0 : Int32)
    else
    (1 : Int32)
def f_m_meets_38 (k18 : Int32 → Int32 → Int32 → rx_St → Option (Int32 × rx_St)) (v1 : Int32) (v2 : Int32) (v3 : Int32) (σ : rx_St) : Option (Int32 × rx_St) :=
    k18 v1 v2 (v3 + (1 : Int32)) σ
def f_m_meets_18 : Nat → Int32 → Int32 → Int32 → rx_St → Option (Int32 × rx_St)
  | 0, _, _, _, _ => none
  | n + 1, v1, v2, v3, σ =>
    (f_m_points σ).bind fun y1 =>
    if y1 ≤ v3 then
    some (v2, σ)
    else
    ((f_m_isMeeting v3 v1 σ).bind fun y2 =>
    if y2.1 = (0 : Int32) then
    f_m_meets_38 (f_m_meets_18 n) v1 v2 v3 y2.2
    else
    f_m_meets_38 (f_m_meets_18 n) v1 (v2 + (1 : Int32)) v3 y2.2)
def f_m_meets (a0 : Int32) (σ : rx_St) : Option (Int32 × rx_St) :=
  let σ1 : rx_St := rx_si σ 87 0 (0 : Int32);
    if (f_m_isSeeds a0) = (0 : Int32) then
    some ((-1 : Int32), σ1)
    else
    f_m_meets_18 rx_fu a0 (0 : Int32) (0 : Int32) σ1
def f_m_met_90 (k38 : Int32 → Int32 → Int32 → Int32 → rx_St → Option (Int32 × rx_St)) (v1 : Int32) (v3 : Int32) (v4 : Int32) (v5 : Int32) (σ : rx_St) : Option (Int32 × rx_St) :=
    k38 v1 v3 v4 (v5 + (1 : Int32)) σ
def f_m_met_38 : Nat → Int32 → Int32 → Int32 → Int32 → rx_St → Option (Int32 × rx_St)
  | 0, _, _, _, _, _ => none
  | n + 1, v1, v3, v4, v5, σ =>
    (f_m_points σ).bind fun y1 =>
    if y1 ≤ v5 then
    some ((-1000000 : Int32), σ)
    else
    ((f_m_isMeeting v5 v1 σ).bind fun y2 =>
    if y2.1 = (0 : Int32) then
    f_m_met_90 (f_m_met_38 n) v1 v3 v4 v5 y2.2
    else
    if v4 = (0 : Int32) then
    (rx_g v3 3 (
    (f_m_stepOf v5 v3 y2.2).bind fun y3 =>
    rx_g v3 3 (
    some ((y2.2.1 158 v3.toNatClampNeg) + (y3 * (y2.2.1 159 v3.toNatClampNeg)), y2.2))))
    else
    f_m_met_90 (f_m_met_38 n) v1 v3 (v4 + (-1 : Int32)) v5 y2.2)
def f_m_met (a0 : Int32) (a1 : Int32) (a2 : Int32) (σ : rx_St) : Option (Int32 × rx_St) :=
  let σ1 : rx_St := rx_si σ 87 0 (0 : Int32);
    if (f_m_isSeeds a0) = (0 : Int32) then
    some ((-1000000 : Int32), σ1)
    else
    if a1 < (0 : Int32) then
    some ((-1000000 : Int32), σ1)
    else
    if a2 < (0 : Int32) then
    some ((-1000000 : Int32), σ1)
    else
    if a2 < (σ1.1 87 96) then
    f_m_met_38 rx_fu a0 a2 a1 (0 : Int32) σ1
    else
    some ((-1000000 : Int32), σ1)
def f_m_untold_106 (k21 : Int32 → Int32 → Int32 → Int32 → rx_St → Option (Int32 × rx_St)) (v1 : Int32) (v2 : Int32) (v3 : Int32) (v4 : Int32) (σ : rx_St) : Option (Int32 × rx_St) :=
    k21 v1 v2 v3 (v4 + (1 : Int32)) σ
def f_m_untold_100 (k21 : Int32 → Int32 → Int32 → Int32 → rx_St → Option (Int32 × rx_St)) (k46 : Int32 → Int32 → Int32 → Int32 → Int32 → rx_St → Option (Int32 × rx_St)) (v1 : Int32) (v2 : Int32) (v3 : Int32) (v4 : Int32) (v5 : Int32) (σ : rx_St) : Option (Int32 × rx_St) :=
    k46 v1 v2 v3 v4 (v5 + (1 : Int32)) σ
def f_m_untold_73 (k21 : Int32 → Int32 → Int32 → Int32 → rx_St → Option (Int32 × rx_St)) (k46 : Int32 → Int32 → Int32 → Int32 → Int32 → rx_St → Option (Int32 × rx_St)) (v1 : Int32) (v2 : Int32) (v3 : Int32) (v4 : Int32) (v5 : Int32) (σ : rx_St) : Option (Int32 × rx_St) :=
    (f_m_stepOf v4 v5 σ).bind fun y1 =>
    rx_g v5 3 (
    if y1 = ((σ.1 160 v5.toNatClampNeg) - (1 : Int32)) then
    (let x2 : Int32 := v3 ||| (rx_ishl (1 : Int32) v5);
    f_m_untold_100 k21 k46 v1 v2 x2 v4 v5 σ)
    else
    f_m_untold_100 k21 k46 v1 v2 v3 v4 v5 σ)
def f_m_untold_46 (k21 : Int32 → Int32 → Int32 → Int32 → rx_St → Option (Int32 × rx_St)) : Nat → Int32 → Int32 → Int32 → Int32 → Int32 → rx_St → Option (Int32 × rx_St)
  | 0, _, _, _, _, _, _ => none
  | n + 1, v1, v2, v3, v4, v5, σ =>
    if (σ.1 87 96) ≤ v5 then
    f_m_untold_106 k21 v1 v2 v3 v4 σ
    else
    ((f_m_stepOf v4 v5 σ).bind fun y1 =>
    if y1 = (0 : Int32) then
    (let x2 : Int32 := v2 ||| (rx_ishl (1 : Int32) v5);
    f_m_untold_73 k21 (f_m_untold_46 k21 n) v1 x2 v3 v4 v5 σ)
    else
    f_m_untold_73 k21 (f_m_untold_46 k21 n) v1 v2 v3 v4 v5 σ)
def f_m_untold_21 : Nat → Int32 → Int32 → Int32 → Int32 → rx_St → Option (Int32 × rx_St)
  | 0, _, _, _, _, _ => none
  | n + 1, v1, v2, v3, v4, σ =>
    (f_m_points σ).bind fun y1 =>
    if y1 ≤ v4 then
    some (v2 &&& v3, σ)
    else
    ((f_m_isMeeting v4 v1 σ).bind fun y2 =>
    if y2.1 = (0 : Int32) then
    f_m_untold_106 (f_m_untold_21 n) v1 v2 v3 v4 y2.2
    else
    f_m_untold_46 (f_m_untold_21 n) rx_fu v1 v2 v3 v4 (0 : Int32) y2.2)
def f_m_untold (a0 : Int32) (σ : rx_St) : Option (Int32 × rx_St) :=
  let σ1 : rx_St := rx_si σ 87 0 (0 : Int32);
    if (f_m_isSeeds a0) = (0 : Int32) then
    some ((-1 : Int32), σ1)
    else
    f_m_untold_21 rx_fu a0 (0 : Int32) (0 : Int32) (0 : Int32) σ1
def f_m_would_196 (k73 : Int32 → Int32 → Int32 → Int32 → Int32 → Int32 → Int32 → Int32 → Int32 → Int32 → Int32 → Int32 → rx_St → Option (Int32 × rx_St)) (v1 : Int32) (v2 : Int32) (v3 : Int32) (v4 : Int32) (v5 : Int32) (v6 : Int32) (v7 : Int32) (v8 : Int32) (v9 : Int32) (v10 : Int32) (v11 : Int32) (v12 : Int32) (σ : rx_St) : Option (Int32 × rx_St) :=
    k73 v1 v2 v3 v4 v5 v6 v7 v8 v9 v10 v11 (v12 + (1 : Int32)) σ
def f_m_would_187 (k73 : Int32 → Int32 → Int32 → Int32 → Int32 → Int32 → Int32 → Int32 → Int32 → Int32 → Int32 → Int32 → rx_St → Option (Int32 × rx_St)) (k98 : Int32 → Int32 → Int32 → Int32 → Int32 → Int32 → Int32 → Int32 → Int32 → Int32 → Int32 → Int32 → Int32 → rx_St → Option (Int32 × rx_St)) (v1 : Int32) (v2 : Int32) (v3 : Int32) (v4 : Int32) (v5 : Int32) (v6 : Int32) (v7 : Int32) (v9 : Int32) (v10 : Int32) (v11 : Int32) (v12 : Int32) (v13 : Int32) (σ : rx_St) : Option (Int32 × rx_St) :=
    k98 v1 v2 v3 v4 v5 v6 v7 (1 : Int32) v9 v10 v11 v12 (v13 + (1 : Int32)) σ
def f_m_would_183 (k73 : Int32 → Int32 → Int32 → Int32 → Int32 → Int32 → Int32 → Int32 → Int32 → Int32 → Int32 → Int32 → rx_St → Option (Int32 × rx_St)) (k98 : Int32 → Int32 → Int32 → Int32 → Int32 → Int32 → Int32 → Int32 → Int32 → Int32 → Int32 → Int32 → Int32 → rx_St → Option (Int32 × rx_St)) (v1 : Int32) (v2 : Int32) (v3 : Int32) (v4 : Int32) (v5 : Int32) (v6 : Int32) (v7 : Int32) (v9 : Int32) (v11 : Int32) (v12 : Int32) (v13 : Int32) (v15 : Int32) (σ : rx_St) : Option (Int32 × rx_St) :=
    f_m_would_187 k73 k98 v1 v2 v3 v4 v5 v6 v7 v9 v15 v11 v12 v13 σ
def f_m_would_171 (k73 : Int32 → Int32 → Int32 → Int32 → Int32 → Int32 → Int32 → Int32 → Int32 → Int32 → Int32 → Int32 → rx_St → Option (Int32 × rx_St)) (k98 : Int32 → Int32 → Int32 → Int32 → Int32 → Int32 → Int32 → Int32 → Int32 → Int32 → Int32 → Int32 → Int32 → rx_St → Option (Int32 × rx_St)) (v1 : Int32) (v2 : Int32) (v3 : Int32) (v4 : Int32) (v5 : Int32) (v6 : Int32) (v7 : Int32) (v8 : Int32) (v9 : Int32) (v10 : Int32) (v11 : Int32) (v12 : Int32) (v13 : Int32) (v15 : Int32) (σ : rx_St) : Option (Int32 × rx_St) :=
    if v8 = (0 : Int32) then
    f_m_would_183 k73 k98 v1 v2 v3 v4 v5 v6 v7 v9 v11 v12 v13 v15 σ
    else
    if v15 ≤ v10 then
    f_m_would_187 k73 k98 v1 v2 v3 v4 v5 v6 v7 v9 v10 v11 v12 v13 σ
    else
    f_m_would_183 k73 k98 v1 v2 v3 v4 v5 v6 v7 v9 v11 v12 v13 v15 σ
def f_m_would_167 (k73 : Int32 → Int32 → Int32 → Int32 → Int32 → Int32 → Int32 → Int32 → Int32 → Int32 → Int32 → Int32 → rx_St → Option (Int32 × rx_St)) (k98 : Int32 → Int32 → Int32 → Int32 → Int32 → Int32 → Int32 → Int32 → Int32 → Int32 → Int32 → Int32 → Int32 → rx_St → Option (Int32 × rx_St)) (v1 : Int32) (v2 : Int32) (v3 : Int32) (v4 : Int32) (v5 : Int32) (v6 : Int32) (v7 : Int32) (v8 : Int32) (v10 : Int32) (v11 : Int32) (v12 : Int32) (v13 : Int32) (v15 : Int32) (σ : rx_St) : Option (Int32 × rx_St) :=
    f_m_would_171 k73 k98 v1 v2 v3 v4 v5 v6 v7 v8 v15 v10 v11 v12 v13 v15 σ
def f_m_would_155 (k73 : Int32 → Int32 → Int32 → Int32 → Int32 → Int32 → Int32 → Int32 → Int32 → Int32 → Int32 → Int32 → rx_St → Option (Int32 × rx_St)) (k98 : Int32 → Int32 → Int32 → Int32 → Int32 → Int32 → Int32 → Int32 → Int32 → Int32 → Int32 → Int32 → Int32 → rx_St → Option (Int32 × rx_St)) (v1 : Int32) (v2 : Int32) (v3 : Int32) (v4 : Int32) (v5 : Int32) (v6 : Int32) (v7 : Int32) (v8 : Int32) (v9 : Int32) (v10 : Int32) (v11 : Int32) (v12 : Int32) (v13 : Int32) (v15 : Int32) (σ : rx_St) : Option (Int32 × rx_St) :=
    if v8 = (0 : Int32) then
    f_m_would_167 k73 k98 v1 v2 v3 v4 v5 v6 v7 v8 v10 v11 v12 v13 v15 σ
    else
    if v9 ≤ v15 then
    f_m_would_171 k73 k98 v1 v2 v3 v4 v5 v6 v7 v8 v9 v10 v11 v12 v13 v15 σ
    else
    f_m_would_167 k73 k98 v1 v2 v3 v4 v5 v6 v7 v8 v10 v11 v12 v13 v15 σ
def f_m_would_98 (k73 : Int32 → Int32 → Int32 → Int32 → Int32 → Int32 → Int32 → Int32 → Int32 → Int32 → Int32 → Int32 → rx_St → Option (Int32 × rx_St)) : Nat → Int32 → Int32 → Int32 → Int32 → Int32 → Int32 → Int32 → Int32 → Int32 → Int32 → Int32 → Int32 → Int32 → rx_St → Option (Int32 × rx_St)
  | 0, _, _, _, _, _, _, _, _, _, _, _, _, _, _ => none
  | n + 1, v1, v2, v3, v4, v5, v6, v7, v8, v9, v10, v11, v12, v13, σ =>
    if v1 ≤ v13 then
    f_m_would_196 k73 v1 v2 v3 v4 v5 v6 v7 v8 v9 v10 v11 v12 σ
    else
    ((f_m_stands v12 σ).bind fun y1 =>
    (f_m_figureOf v13 v4 v5 v6 y1).bind fun y2 =>
    rx_g v2 6 (
    let σ1 : rx_St := rx_si y2.2 134 v2.toNatClampNeg v3;
    (f_m_figureOf v13 v4 v5 v6 σ1).bind fun y3 =>
    if y3.1 ≤ y2.1 then
    f_m_would_155 k73 (f_m_would_98 k73 n) v1 v2 v3 v4 v5 v6 v7 v8 v9 v10 v11 v12 v13 y3.1 y3.2
    else
    f_m_would_155 k73 (f_m_would_98 k73 n) v1 v2 v3 v4 v5 v6 v7 v8 v9 v10 (v11 + (1 : Int32)) v12 v13 y3.1 y3.2))
def f_m_would_73 : Nat → Int32 → Int32 → Int32 → Int32 → Int32 → Int32 → Int32 → Int32 → Int32 → Int32 → Int32 → Int32 → rx_St → Option (Int32 × rx_St)
  | 0, _, _, _, _, _, _, _, _, _, _, _, _, _ => none
  | n + 1, v1, v2, v3, v4, v5, v6, v7, v8, v9, v10, v11, v12, σ =>
    (f_m_points σ).bind fun y1 =>
    if y1 ≤ v12 then
    if v7 = (0 : Int32) then
    some (v9, σ)
    else
    if v7 = (1 : Int32) then
    some (v10, σ)
    else
    some (v11, σ)
    else
    ((f_m_isMeeting v12 v1 σ).bind fun y2 =>
    if y2.1 = (0 : Int32) then
    f_m_would_196 (f_m_would_73 n) v1 v2 v3 v4 v5 v6 v7 v8 v9 v10 v11 v12 y2.2
    else
    f_m_would_98 (f_m_would_73 n) rx_fu v1 v2 v3 v4 v5 v6 v7 v8 v9 v10 v11 v12 (0 : Int32) y2.2)
def f_m_would (a0 : Int32) (a1 : Int32) (a2 : Int32) (a3 : Int32) (a4 : Int32) (a5 : Int32) (a6 : Int32) (σ : rx_St) : Option (Int32 × rx_St) :=
  let σ1 : rx_St := rx_si σ 87 0 (0 : Int32);
    if (f_m_isSeeds a0) = (0 : Int32) then
    some ((-1000000000 : Int32), σ1)
    else
    ((f_m_isSetting a1 σ1).bind fun y1 =>
    if y1 = (0 : Int32) then
    some ((-1000000000 : Int32), σ1)
    else
    if (f_m_isNumber a2) = (0 : Int32) then
    some ((-1000000000 : Int32), σ1)
    else
    ((f_m_isFigure a3 a4 a5 σ1).bind fun y2 =>
    if y2 = (0 : Int32) then
    some ((-1000000000 : Int32), σ1)
    else
    if (f_m_in a6 (0 : Int32) (2 : Int32)) = (0 : Int32) then
    some ((-1000000000 : Int32), σ1)
    else
    f_m_would_73 rx_fu a0 a1 a2 a3 a4 a5 a6 (0 : Int32) (-1000000000 : Int32) (-1000000000 : Int32) (0 : Int32) (0 : Int32) σ1))
def f_m_effectOf (a0 : Int32) (a1 : Int32) : Option (Int32) :=
  let x1 : Int32 := a0 &&& (a1 ^^^ (-1 : Int32));
    (f_m_bits x1).bind fun y2 =>
    if (rx_irem y2 (2 : Int32)) = (0 : Int32) then
    some (1 : Int32)
    else
    some (-1 : Int32)
def f_m_areTold_122 (k2 : Int32 → Int32 → Int32 → Int32 → Option (Int32)) (v0 : Int32) (v1 : Int32) (v2 : Int32) (v3 : Int32) : Option (Int32) :=
    k2 v0 v1 v2 (v3 + (1 : Int32))
def f_m_areTold_116 (k2 : Int32 → Int32 → Int32 → Int32 → Option (Int32)) (k23 : Int32 → Int32 → Int32 → Int32 → Int32 → Option (Int32)) (v0 : Int32) (v1 : Int32) (v2 : Int32) (v3 : Int32) (v4 : Int32) : Option (Int32) :=
    k23 v0 v1 v2 v3 (v4 + (1 : Int32))
def f_m_areTold_103 (k2 : Int32 → Int32 → Int32 → Int32 → Option (Int32)) (k23 : Int32 → Int32 → Int32 → Int32 → Int32 → Option (Int32)) (k49 : Int32 → Int32 → Int32 → Int32 → Int32 → Int32 → Int32 → Option (Int32)) (v0 : Int32) (v1 : Int32) (v2 : Int32) (v3 : Int32) (v4 : Int32) (v5 : Int32) (v6 : Int32) : Option (Int32) :=
    k49 v0 v1 v2 v3 v4 v5 (v6 + (1 : Int32))
def f_m_areTold_100 (k2 : Int32 → Int32 → Int32 → Int32 → Option (Int32)) (k23 : Int32 → Int32 → Int32 → Int32 → Int32 → Option (Int32)) (k49 : Int32 → Int32 → Int32 → Int32 → Int32 → Int32 → Int32 → Option (Int32)) (v0 : Int32) (v1 : Int32) (v2 : Int32) (v3 : Int32) (v4 : Int32) (v6 : Int32) (s0 : Int32) (s1 : Int32) : Option (Int32) :=
    f_m_areTold_103 k2 k23 k49 v0 v1 v2 v3 v4 (s0 + s1) v6
def f_m_areTold_49 (k2 : Int32 → Int32 → Int32 → Int32 → Option (Int32)) (k23 : Int32 → Int32 → Int32 → Int32 → Int32 → Option (Int32)) : Nat → Int32 → Int32 → Int32 → Int32 → Int32 → Int32 → Int32 → Option (Int32)
  | 0, _, _, _, _, _, _, _ => none
  | n + 1, v0, v1, v2, v3, v4, v5, v6 =>
    if (rx_ishl (1 : Int32) v0) ≤ v6 then
    if v5 = (0 : Int32) then
    f_m_areTold_116 k2 k23 v0 v1 v2 v3 v4
    else
    some (0 : Int32)
    else
    if ((rx_ishr v1 v6) &&& (1 : Int32)) = (0 : Int32) then
    f_m_areTold_103 k2 k23 (f_m_areTold_49 k2 k23 n) v0 v1 v2 v3 v4 v5 v6
    else
    if v4 = v3 then
    ((f_m_effectOf v3 v6).bind fun y1 =>
    f_m_areTold_100 k2 k23 (f_m_areTold_49 k2 k23 n) v0 v1 v2 v3 v4 v6 v5 y1)
    else
    ((f_m_effectOf v3 v6).bind fun y2 =>
    (f_m_effectOf v4 v6).bind fun y3 =>
    f_m_areTold_100 k2 k23 (f_m_areTold_49 k2 k23 n) v0 v1 v2 v3 v4 v6 v5 (y2 * y3))
def f_m_areTold_23 (k2 : Int32 → Int32 → Int32 → Int32 → Option (Int32)) : Nat → Int32 → Int32 → Int32 → Int32 → Int32 → Option (Int32)
  | 0, _, _, _, _, _ => none
  | n + 1, v0, v1, v2, v3, v4 =>
    if (rx_ishl (1 : Int32) v0) ≤ v4 then
    f_m_areTold_122 k2 v0 v1 v2 v3
    else
    if ((rx_ishr v2 v4) &&& (1 : Int32)) = (0 : Int32) then
    f_m_areTold_116 k2 (f_m_areTold_23 k2 n) v0 v1 v2 v3 v4
    else
    f_m_areTold_49 k2 (f_m_areTold_23 k2 n) rx_fu v0 v1 v2 v3 v4 (0 : Int32) (0 : Int32)
def f_m_areTold_2 : Nat → Int32 → Int32 → Int32 → Int32 → Option (Int32)
  | 0, _, _, _, _ => none
  | n + 1, v0, v1, v2, v3 =>
    if (rx_ishl (1 : Int32) v0) ≤ v3 then
    some (1 : Int32)
    else
    if ((rx_ishr v2 v3) &&& (1 : Int32)) = (0 : Int32) then
    f_m_areTold_122 (f_m_areTold_2 n) v0 v1 v2 v3
    else
    f_m_areTold_23 (f_m_areTold_2 n) rx_fu v0 v1 v2 v3 v3
def f_m_areTold (a0 : Int32) (a1 : Int32) (a2 : Int32) : Option (Int32) :=
  f_m_areTold_2 rx_fu a0 a1 a2 (1 : Int32)
def f_m_isTrial (a0 : Int32) (a1 : Int32) : Int32 :=
  if a0 < (1 : Int32) then
    (0 : Int32)
    else
    if (3 : Int32) < a0 then
    (0 : Int32)
    else
    if a1 < (0 : Int32) then
    (0 : Int32)
    else
    if (rx_ishl (1 : Int32) (rx_ishl (1 : Int32) a0)) ≤ a1 then
    (0 : Int32)
    else
    if (a1 &&& (1 : Int32)) = (0 : Int32) then
    (1 : Int32)
    else
    (0 : Int32)
def f_m_tells_27 (σ : rx_St) : Option (Int32 × rx_St) :=
    some ((-1 : Int32), σ)
def f_m_tells (a0 : Int32) (a1 : Int32) (a2 : Int32) (σ : rx_St) : Option (Int32 × rx_St) :=
  let σ1 : rx_St := rx_si σ 87 0 (0 : Int32);
    if (f_m_isTrial a0 a2) = (0 : Int32) then
    f_m_tells_27 σ1
    else
    if a1 < (1 : Int32) then
    f_m_tells_27 σ1
    else
    if a1 < (rx_ishl (1 : Int32) (rx_ishl (1 : Int32) a0)) then
    ((f_m_areTold a0 a1 a2).bind fun y1 =>
    if y1 = (0 : Int32) then
    some ((0 : Int32), σ1)
    else
    some ((1 : Int32), σ1))
    else
    f_m_tells_27 σ1
def f_m_fewest_73 (k24 : Int32 → Int32 → Int32 → Int32 → Int32 → rx_St → Option (Int32 × rx_St)) (v1 : Int32) (v2 : Int32) (v3 : Int32) (v4 : Int32) (v5 : Int32) (σ : rx_St) : Option (Int32 × rx_St) :=
    k24 v1 v2 v3 v4 (v5 + (1 : Int32)) σ
def f_m_fewest_50 (k24 : Int32 → Int32 → Int32 → Int32 → Int32 → rx_St → Option (Int32 × rx_St)) (v1 : Int32) (v2 : Int32) (v3 : Int32) (v4 : Int32) (v5 : Int32) (σ : rx_St) : Option (Int32 × rx_St) :=
    (f_m_areTold v1 v5 v2).bind fun y1 =>
    if y1 = (0 : Int32) then
    f_m_fewest_73 k24 v1 v2 v3 v4 v5 σ
    else
    ((f_m_bits v5).bind fun y2 =>
    f_m_fewest_73 k24 v1 v2 v5 y2 v5 σ)
def f_m_fewest_24 : Nat → Int32 → Int32 → Int32 → Int32 → Int32 → rx_St → Option (Int32 × rx_St)
  | 0, _, _, _, _, _, _ => none
  | n + 1, v1, v2, v3, v4, v5, σ =>
    if (rx_ishl (1 : Int32) (rx_ishl (1 : Int32) v1)) ≤ v5 then
    some (v3, σ)
    else
    if v3 = (-2 : Int32) then
    f_m_fewest_50 (f_m_fewest_24 n) v1 v2 v3 v4 v5 σ
    else
    ((f_m_bits v5).bind fun y1 =>
    if v4 ≤ y1 then
    f_m_fewest_73 (f_m_fewest_24 n) v1 v2 v3 v4 v5 σ
    else
    f_m_fewest_50 (f_m_fewest_24 n) v1 v2 v3 v4 v5 σ)
def f_m_fewest (a0 : Int32) (a1 : Int32) (σ : rx_St) : Option (Int32 × rx_St) :=
  let σ1 : rx_St := rx_si σ 87 0 (0 : Int32);
    if (f_m_isTrial a0 a1) = (0 : Int32) then
    some ((-1 : Int32), σ1)
    else
    f_m_fewest_24 rx_fu a0 a1 (-2 : Int32) (0 : Int32) (1 : Int32) σ1
def f_m_count_83 (v1 : Int32) (σ : rx_St) : Option (Int32 × rx_St) :=
    if v1 = (0 : Int32) then
    (rx_g (σ.1 87 18) 2 (
    some (σ.1 95 (σ.1 87 18).toNatClampNeg, σ)))
    else
    if v1 = (1 : Int32) then
    (rx_g (σ.1 87 18) 2 (
    some (σ.1 98 (σ.1 87 18).toNatClampNeg, σ)))
    else
    if v1 = (2 : Int32) then
    some (σ.1 87 60, σ)
    else
    if v1 = (3 : Int32) then
    some (σ.1 87 86, σ)
    else
    if v1 = (4 : Int32) then
    some (σ.1 87 90, σ)
    else
    if v1 = (5 : Int32) then
    some (σ.1 87 96, σ)
    else
    if v1 = (6 : Int32) then
    some (σ.1 87 2, σ)
    else
    some ((-1 : Int32), σ)
def f_m_count_44 (v1 : Int32) (σ : rx_St) : Option (Int32 × rx_St) :=
    if v1 < (20 : Int32) then
    f_m_count_83 v1 σ
    else
    (rx_g (σ.1 87 18) 2 (
    if ((20 : Int32) + (σ.1 98 (σ.1 87 18).toNatClampNeg)) ≤ v1 then
    f_m_count_83 v1 σ
    else
    (rx_g ((((5 : Int32) * (σ.1 87 18)) + v1) - (20 : Int32)) 10 (
    some (σ.1 104 ((((5 : Int32) * (σ.1 87 18)) + v1) - (20 : Int32)).toNatClampNeg, σ)))))
def f_m_count (a0 : Int32) (σ : rx_St) : Option (Int32 × rx_St) :=
  let σ1 : rx_St := rx_si σ 87 0 (0 : Int32);
    if a0 < (10 : Int32) then
    f_m_count_44 a0 σ1
    else
    (rx_g (σ1.1 87 18) 2 (
    if ((10 : Int32) + (σ1.1 98 (σ1.1 87 18).toNatClampNeg)) ≤ a0 then
    f_m_count_44 a0 σ1
    else
    (rx_g ((((5 : Int32) * (σ1.1 87 18)) + a0) - (10 : Int32)) 10 (
    some (σ1.1 100 ((((5 : Int32) * (σ1.1 87 18)) + a0) - (10 : Int32)).toNatClampNeg, σ1)))))
