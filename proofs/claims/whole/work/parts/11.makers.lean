
set_option maxRecDepth 100000 in
set_option maxHeartbeats 4000000 in
theorem f_m_more_okc {P : List Nat} {σ : rx_St} {a0 : Int64} {a1 : Int32} : ∀ o, f_m_more a0 a1 = o → rx_OK 169 [.long a0, .int a1] 161 [] P σ (some (.long o), (161, 0, 0, [], P, σ)) := by
  intro o h
  refine rx_OK_of (by decide) (Nat.le_of_ble_eq_true rfl) ?_
  refine rx_walk [] 2000 (by decide) rx_e169 ?_
  unfold f_m_more at h
  refine rr_if h (fun c1 h => ?_) (fun c1 h => ?_)
  · skip
    cases h
    exact And.intro (rfl) rfl
  · skip
    cases h
    exact And.intro (rfl) rfl
set_option maxRecDepth 100000 in
set_option maxHeartbeats 4000000 in
theorem f_m_word_okc {P : List Nat} {σ : rx_St} {a0 : Int32} {a1 : Int32} {a2 : Int32} {a3 : Int32} {a4 : Int32} {a5 : Int32} {a6 : Int32} : ∀ o, f_m_word a0 a1 a2 a3 a4 a5 a6 = o → rx_OK 170 [.int a0, .int a1, .int a2, .int a3, .int a4, .int a5, .int a6] 161 [] P σ (some (.long o), (161, 0, 0, [], P, σ)) := by
  intro o h
  refine rx_OK_of (by decide) (Nat.le_of_ble_eq_true rfl) ?_
  refine rx_walk [] 2000 (by decide) rx_e170 ?_
  unfold f_m_word at h
  refine rr_callC (f_m_more_okc _ rfl) ⟨rfl, Nat.le_refl _, Nat.le_refl _, Nat.le_refl _⟩ ?_
  refine rr_callC (f_m_more_okc _ rfl) ⟨rfl, Nat.le_refl _, Nat.le_refl _, Nat.le_refl _⟩ ?_
  refine rr_callC (f_m_more_okc _ rfl) ⟨rfl, Nat.le_refl _, Nat.le_refl _, Nat.le_refl _⟩ ?_
  refine rr_callC (f_m_more_okc _ rfl) ⟨rfl, Nat.le_refl _, Nat.le_refl _, Nat.le_refl _⟩ ?_
  refine rr_callC (f_m_more_okc _ rfl) ⟨rfl, Nat.le_refl _, Nat.le_refl _, Nat.le_refl _⟩ ?_
  refine rr_callC (f_m_more_okc _ rfl) ⟨rfl, Nat.le_refl _, Nat.le_refl _, Nat.le_refl _⟩ ?_
  refine rr_callC (f_m_more_okc _ rfl) ⟨rfl, Nat.le_refl _, Nat.le_refl _, Nat.le_refl _⟩ ?_
  cases h
  exact And.intro (rfl) rfl
set_option maxRecDepth 100000 in
theorem rx_e112 : rx_Ext none 112 := rx_Ext_plain (by decide +kernel)
def f_wor_init_0 (σ : rx_St) : rx_St :=
  let σ1 : rx_St := rx_z σ 8;
  let σ2 : rx_St := rx_z σ1 9;
  let σ3 : rx_St := rx_z σ2 10;
  let σ4 : rx_St := rx_z σ3 11;
  let σ5 : rx_St := rx_z σ4 12;
  let σ6 : rx_St := rx_z σ5 13;
  let σ7 : rx_St := rx_z σ6 14;
  let σ8 : rx_St := rx_z σ7 15;
  let σ9 : rx_St := rx_z σ8 16;
  let σ10 : rx_St := rx_z σ9 17;
  let σ11 : rx_St := rx_z σ10 18;
  let σ12 : rx_St := rx_z σ11 19;
  let σ13 : rx_St := rx_z σ12 20;
  σ13
set_option maxRecDepth 1000000 in
set_option maxHeartbeats 16000000 in
theorem f_wor_init_0_ok (σ : rx_St) : rx_OK 112 [.ref 7] 8 [(0, 1), (0, 2), (0, 3), (0, 4), (0, 6), (0, 7), (0, 8), (0, 9), (0, 10), (0, 11), (0, 12), (7, 1), (7, 2), (7, 4), (7, 5), (7, 6), (7, 7), (7, 8), (7, 9), (7, 10), (7, 11), (7, 14), (7, 15), (7, 16)] [8000, 8000, 8000, 8000, 8000] σ (none, 21, 13, 1627, [(0, 1), (0, 2), (0, 3), (0, 4), (0, 6), (0, 7), (0, 8), (0, 9), (0, 10), (0, 11), (0, 12)], [8000, 8000, 8000, 8000, 8000], f_wor_init_0 σ) := by
  refine rx_OK_of (by decide) (Nat.le_of_ble_eq_true rfl) ?_
  refine rx_walk [] 3000 (by decide) rx_e112 ?_
  refine rr_ck ⟨rfl, Nat.le_of_ble_eq_true rfl, Nat.le_of_ble_eq_true rfl⟩ ?_
  refine rr_ck ⟨rfl, Nat.le_of_ble_eq_true rfl, Nat.le_of_ble_eq_true rfl⟩ ?_
  refine rr_ck ⟨rfl, Nat.le_of_ble_eq_true rfl, Nat.le_of_ble_eq_true rfl⟩ ?_
  refine rr_ck ⟨rfl, Nat.le_of_ble_eq_true rfl, Nat.le_of_ble_eq_true rfl⟩ ?_
  refine rr_ck ⟨rfl, Nat.le_of_ble_eq_true rfl, Nat.le_of_ble_eq_true rfl⟩ ?_
  refine rr_ck ⟨rfl, Nat.le_of_ble_eq_true rfl, Nat.le_of_ble_eq_true rfl⟩ ?_
  refine rr_ck ⟨rfl, Nat.le_of_ble_eq_true rfl, Nat.le_of_ble_eq_true rfl⟩ ?_
  refine rr_ck ⟨rfl, Nat.le_of_ble_eq_true rfl, Nat.le_of_ble_eq_true rfl⟩ ?_
  refine rr_ck ⟨rfl, Nat.le_of_ble_eq_true rfl, Nat.le_of_ble_eq_true rfl⟩ ?_
  refine rr_ck ⟨rfl, Nat.le_of_ble_eq_true rfl, Nat.le_of_ble_eq_true rfl⟩ ?_
  refine rr_ck ⟨rfl, Nat.le_of_ble_eq_true rfl, Nat.le_of_ble_eq_true rfl⟩ ?_
  refine rr_ck ⟨rfl, Nat.le_of_ble_eq_true rfl, Nat.le_of_ble_eq_true rfl⟩ ?_
  refine rr_ck ⟨rfl, Nat.le_of_ble_eq_true rfl, Nat.le_of_ble_eq_true rfl⟩ ?_
  exact And.intro rfl rfl
def f_wor_init_1 (σ : rx_St) : rx_St :=
  let σ1 : rx_St := rx_z σ 22;
  let σ2 : rx_St := rx_z σ1 23;
  let σ3 : rx_St := rx_z σ2 24;
  let σ4 : rx_St := rx_z σ3 25;
  let σ5 : rx_St := rx_z σ4 26;
  let σ6 : rx_St := rx_z σ5 27;
  let σ7 : rx_St := rx_z σ6 28;
  let σ8 : rx_St := rx_z σ7 29;
  let σ9 : rx_St := rx_z σ8 30;
  let σ10 : rx_St := rx_z σ9 31;
  let σ11 : rx_St := rx_z σ10 32;
  let σ12 : rx_St := rx_z σ11 33;
  let σ13 : rx_St := rx_z σ12 34;
  σ13
set_option maxRecDepth 1000000 in
set_option maxHeartbeats 16000000 in
theorem f_wor_init_1_ok (σ : rx_St) : rx_OK 112 [.ref 21] 22 [(0, 1), (0, 2), (0, 4), (0, 6), (0, 7), (0, 8), (0, 9), (0, 10), (0, 11), (0, 12), (21, 1), (21, 2), (21, 4), (21, 5), (21, 6), (21, 7), (21, 8), (21, 9), (21, 10), (21, 11), (21, 14), (21, 15), (21, 16)] [7, 8000, 8000, 8000, 8000] σ (none, 35, 13, 1627, [(0, 1), (0, 2), (0, 4), (0, 6), (0, 7), (0, 8), (0, 9), (0, 10), (0, 11), (0, 12)], [7, 8000, 8000, 8000, 8000], f_wor_init_1 σ) := by
  refine rx_OK_of (by decide) (Nat.le_of_ble_eq_true rfl) ?_
  refine rx_walk [] 3000 (by decide) rx_e112 ?_
  refine rr_ck ⟨rfl, Nat.le_of_ble_eq_true rfl, Nat.le_of_ble_eq_true rfl⟩ ?_
  refine rr_ck ⟨rfl, Nat.le_of_ble_eq_true rfl, Nat.le_of_ble_eq_true rfl⟩ ?_
  refine rr_ck ⟨rfl, Nat.le_of_ble_eq_true rfl, Nat.le_of_ble_eq_true rfl⟩ ?_
  refine rr_ck ⟨rfl, Nat.le_of_ble_eq_true rfl, Nat.le_of_ble_eq_true rfl⟩ ?_
  refine rr_ck ⟨rfl, Nat.le_of_ble_eq_true rfl, Nat.le_of_ble_eq_true rfl⟩ ?_
  refine rr_ck ⟨rfl, Nat.le_of_ble_eq_true rfl, Nat.le_of_ble_eq_true rfl⟩ ?_
  refine rr_ck ⟨rfl, Nat.le_of_ble_eq_true rfl, Nat.le_of_ble_eq_true rfl⟩ ?_
  refine rr_ck ⟨rfl, Nat.le_of_ble_eq_true rfl, Nat.le_of_ble_eq_true rfl⟩ ?_
  refine rr_ck ⟨rfl, Nat.le_of_ble_eq_true rfl, Nat.le_of_ble_eq_true rfl⟩ ?_
  refine rr_ck ⟨rfl, Nat.le_of_ble_eq_true rfl, Nat.le_of_ble_eq_true rfl⟩ ?_
  refine rr_ck ⟨rfl, Nat.le_of_ble_eq_true rfl, Nat.le_of_ble_eq_true rfl⟩ ?_
  refine rr_ck ⟨rfl, Nat.le_of_ble_eq_true rfl, Nat.le_of_ble_eq_true rfl⟩ ?_
  refine rr_ck ⟨rfl, Nat.le_of_ble_eq_true rfl, Nat.le_of_ble_eq_true rfl⟩ ?_
  exact And.intro rfl rfl
set_option maxRecDepth 100000 in
theorem rx_e56 : rx_Ext none 56 := rx_Ext_plain (by decide +kernel)
def f_rea_init_0 (σ : rx_St) : rx_St :=
  let σ1 : rx_St := rx_z σ 36;
  σ1
set_option maxRecDepth 1000000 in
set_option maxHeartbeats 16000000 in
theorem f_rea_init_0_ok (σ : rx_St) : rx_OK 56 [.ref 35, .ref 1, .ref 21] 36 [(0, 1), (0, 2), (0, 6), (0, 7), (0, 8), (0, 9), (0, 10), (0, 11), (0, 12), (35, 0), (35, 1), (35, 5)] [7, 21, 8000, 8000, 8000] σ (none, 37, 1, 21, [(0, 1), (0, 2), (0, 6), (0, 7), (0, 8), (0, 9), (0, 10), (0, 11), (0, 12)], [7, 21, 21, 8000, 8000], f_rea_init_0 σ) := by
  refine rx_OK_of (by decide) (Nat.le_of_ble_eq_true rfl) ?_
  refine rx_walk [] 3000 (by decide) rx_e56 ?_
  refine rr_ck ⟨rfl, Nat.le_of_ble_eq_true rfl, Nat.le_of_ble_eq_true rfl⟩ ?_
  exact And.intro rfl rfl
set_option maxRecDepth 100000 in
theorem rx_e4 : rx_Ext none 4 := rx_Ext_plain (by decide +kernel)
def f_chk_init_0 (σ : rx_St) : rx_St :=
  
  σ
set_option maxRecDepth 1000000 in
set_option maxHeartbeats 16000000 in
theorem f_chk_init_0_ok (σ : rx_St) : rx_OK 4 [.ref 37, .ref 1, .ref 21] 38 [(0, 2), (0, 6), (0, 7), (0, 8), (0, 9), (0, 10), (0, 11), (0, 12), (37, 0), (37, 1)] [7, 21, 21, 8000, 8000] σ (none, 38, 0, 0, [(0, 2), (0, 6), (0, 7), (0, 8), (0, 9), (0, 10), (0, 11), (0, 12)], [7, 21, 21, 21, 8000], f_chk_init_0 σ) := by
  refine rx_OK_of (by decide) (Nat.le_of_ble_eq_true rfl) ?_
  refine rx_walk [] 3000 (by decide) rx_e4 ?_
  exact And.intro rfl rfl
set_option maxRecDepth 100000 in
theorem rx_e102 : rx_Ext none 102 := rx_Ext_plain (by decide +kernel)
def f_tow_init_0 (σ : rx_St) : rx_St :=
  let σ1 : rx_St := rx_z σ 39;
  let σ2 : rx_St := rx_z σ1 40;
  let σ3 : rx_St := rx_z σ2 41;
  let σ4 : rx_St := rx_z σ3 42;
  let σ5 : rx_St := rx_z σ4 43;
  σ5
set_option maxRecDepth 1000000 in
set_option maxHeartbeats 16000000 in
theorem f_tow_init_0_ok (σ : rx_St) : rx_OK 102 [.ref 38, .ref 7] 39 [(0, 6), (0, 7), (0, 8), (0, 9), (0, 10), (0, 11), (0, 12), (38, 0), (38, 1), (38, 3), (38, 4), (38, 5), (38, 6)] [7, 21, 21, 21, 8000] σ (none, 44, 5, 186, [(0, 6), (0, 7), (0, 8), (0, 9), (0, 10), (0, 11), (0, 12)], [7, 21, 21, 21, 7], f_tow_init_0 σ) := by
  refine rx_OK_of (by decide) (Nat.le_of_ble_eq_true rfl) ?_
  refine rx_walk [] 3000 (by decide) rx_e102 ?_
  refine rr_ck ⟨rfl, Nat.le_of_ble_eq_true rfl, Nat.le_of_ble_eq_true rfl⟩ ?_
  refine rr_ck ⟨rfl, Nat.le_of_ble_eq_true rfl, Nat.le_of_ble_eq_true rfl⟩ ?_
  refine rr_ck ⟨rfl, Nat.le_of_ble_eq_true rfl, Nat.le_of_ble_eq_true rfl⟩ ?_
  refine rr_ck ⟨rfl, Nat.le_of_ble_eq_true rfl, Nat.le_of_ble_eq_true rfl⟩ ?_
  refine rr_ck ⟨rfl, Nat.le_of_ble_eq_true rfl, Nat.le_of_ble_eq_true rfl⟩ ?_
  exact And.intro rfl rfl
set_option maxRecDepth 100000 in
theorem rx_e110 : rx_Ext none 110 := rx_Ext_plain (by decide +kernel)
def f_wis_init_0 (σ : rx_St) : rx_St :=
  let σ1 : rx_St := rx_z σ 45;
  let σ2 : rx_St := rx_z σ1 46;
  let σ3 : rx_St := rx_z σ2 47;
  let σ4 : rx_St := rx_z σ3 48;
  let σ5 : rx_St := rx_z σ4 49;
  let σ6 : rx_St := rx_z σ5 50;
  σ6
set_option maxRecDepth 1000000 in
set_option maxHeartbeats 16000000 in
theorem f_wis_init_0_ok (σ : rx_St) : rx_OK 110 [.ref 44] 45 [(0, 7), (0, 8), (0, 9), (0, 10), (0, 11), (0, 12), (44, 0), (44, 1), (44, 2), (44, 3), (44, 4), (44, 5)] [7, 21, 21, 21, 7] σ (none, 51, 6, 4820, [(0, 7), (0, 8), (0, 9), (0, 10), (0, 11), (0, 12)], [7, 21, 21, 21, 7], f_wis_init_0 σ) := by
  refine rx_OK_of (by decide) (Nat.le_of_ble_eq_true rfl) ?_
  refine rx_walk [] 3000 (by decide) rx_e110 ?_
  refine rr_ck ⟨rfl, Nat.le_of_ble_eq_true rfl, Nat.le_of_ble_eq_true rfl⟩ ?_
  refine rr_ck ⟨rfl, Nat.le_of_ble_eq_true rfl, Nat.le_of_ble_eq_true rfl⟩ ?_
  refine rr_ck ⟨rfl, Nat.le_of_ble_eq_true rfl, Nat.le_of_ble_eq_true rfl⟩ ?_
  refine rr_ck ⟨rfl, Nat.le_of_ble_eq_true rfl, Nat.le_of_ble_eq_true rfl⟩ ?_
  refine rr_ck ⟨rfl, Nat.le_of_ble_eq_true rfl, Nat.le_of_ble_eq_true rfl⟩ ?_
  refine rr_ck ⟨rfl, Nat.le_of_ble_eq_true rfl, Nat.le_of_ble_eq_true rfl⟩ ?_
  exact And.intro rfl rfl
set_option maxRecDepth 100000 in
theorem rx_e20 : rx_Ext none 20 := rx_Ext_plain (by decide +kernel)
def f_cho_init_0 (σ : rx_St) : rx_St :=
  let σ1 : rx_St := rx_z σ 52;
  let σ2 : rx_St := rx_z σ1 53;
  let σ3 : rx_St := rx_z σ2 54;
  let σ4 : rx_St := rx_z σ3 55;
  let σ5 : rx_St := rx_z σ4 56;
  σ5
set_option maxRecDepth 1000000 in
set_option maxHeartbeats 16000000 in
theorem f_cho_init_0_ok (σ : rx_St) : rx_OK 20 [.ref 51, .ref 38, .ref 44] 52 [(0, 8), (0, 9), (0, 10), (0, 11), (0, 12), (51, 0), (51, 1), (51, 2), (51, 3), (51, 4), (51, 5), (51, 10)] [7, 21, 21, 21, 7] σ (none, 57, 5, 351, [(0, 8), (0, 9), (0, 10), (0, 11), (0, 12)], [7, 21, 21, 21, 7], f_cho_init_0 σ) := by
  refine rx_OK_of (by decide) (Nat.le_of_ble_eq_true rfl) ?_
  refine rx_walk [] 3000 (by decide) rx_e20 ?_
  refine rr_ck ⟨rfl, Nat.le_of_ble_eq_true rfl, Nat.le_of_ble_eq_true rfl⟩ ?_
  refine rr_ck ⟨rfl, Nat.le_of_ble_eq_true rfl, Nat.le_of_ble_eq_true rfl⟩ ?_
  refine rr_ck ⟨rfl, Nat.le_of_ble_eq_true rfl, Nat.le_of_ble_eq_true rfl⟩ ?_
  refine rr_ck ⟨rfl, Nat.le_of_ble_eq_true rfl, Nat.le_of_ble_eq_true rfl⟩ ?_
  refine rr_ck ⟨rfl, Nat.le_of_ble_eq_true rfl, Nat.le_of_ble_eq_true rfl⟩ ?_
  exact And.intro rfl rfl
set_option maxRecDepth 100000 in
theorem rx_e73 : rx_Ext none 73 := rx_Ext_plain (by decide +kernel)
def f_run_init_0 (σ : rx_St) : rx_St :=
  let σ1 : rx_St := rx_z σ 58;
  let σ2 : rx_St := rx_z σ1 59;
  let σ3 : rx_St := rx_z σ2 60;
  let σ4 : rx_St := rx_z σ3 61;
  let σ5 : rx_St := rx_z σ4 62;
  let σ6 : rx_St := rx_z σ5 63;
  σ6
set_option maxRecDepth 1000000 in
set_option maxHeartbeats 16000000 in
theorem f_run_init_0_ok (σ : rx_St) : rx_OK 73 [.ref 57, .ref 38, .ref 51, .ref 44] 58 [(0, 8), (0, 9), (0, 10), (0, 11), (0, 12), (57, 0), (57, 1), (57, 2), (57, 3), (57, 4), (57, 5), (57, 6), (57, 7), (57, 8)] [7, 21, 21, 21, 7] σ (none, 64, 6, 206, [(0, 8), (0, 9), (0, 10), (0, 11), (0, 12)], [7, 21, 21, 21, 7], f_run_init_0 σ) := by
  refine rx_OK_of (by decide) (Nat.le_of_ble_eq_true rfl) ?_
  refine rx_walk [] 3000 (by decide) rx_e73 ?_
  refine rr_ck ⟨rfl, Nat.le_of_ble_eq_true rfl, Nat.le_of_ble_eq_true rfl⟩ ?_
  refine rr_ck ⟨rfl, Nat.le_of_ble_eq_true rfl, Nat.le_of_ble_eq_true rfl⟩ ?_
  refine rr_ck ⟨rfl, Nat.le_of_ble_eq_true rfl, Nat.le_of_ble_eq_true rfl⟩ ?_
  refine rr_ck ⟨rfl, Nat.le_of_ble_eq_true rfl, Nat.le_of_ble_eq_true rfl⟩ ?_
  refine rr_ck ⟨rfl, Nat.le_of_ble_eq_true rfl, Nat.le_of_ble_eq_true rfl⟩ ?_
  refine rr_ck ⟨rfl, Nat.le_of_ble_eq_true rfl, Nat.le_of_ble_eq_true rfl⟩ ?_
  exact And.intro rfl rfl
def f_run_init_1 (σ : rx_St) : rx_St :=
  let σ1 : rx_St := rx_z σ 65;
  let σ2 : rx_St := rx_z σ1 66;
  let σ3 : rx_St := rx_z σ2 67;
  let σ4 : rx_St := rx_z σ3 68;
  let σ5 : rx_St := rx_z σ4 69;
  let σ6 : rx_St := rx_z σ5 70;
  σ6
set_option maxRecDepth 1000000 in
set_option maxHeartbeats 16000000 in
theorem f_run_init_1_ok (σ : rx_St) : rx_OK 73 [.ref 64, .ref 38, .ref 51, .ref 44] 65 [(0, 9), (0, 10), (0, 11), (0, 12), (64, 0), (64, 1), (64, 2), (64, 3), (64, 4), (64, 5), (64, 6), (64, 7), (64, 8)] [7, 21, 21, 21, 7] σ (none, 71, 6, 206, [(0, 9), (0, 10), (0, 11), (0, 12)], [7, 21, 21, 21, 7], f_run_init_1 σ) := by
  refine rx_OK_of (by decide) (Nat.le_of_ble_eq_true rfl) ?_
  refine rx_walk [] 3000 (by decide) rx_e73 ?_
  refine rr_ck ⟨rfl, Nat.le_of_ble_eq_true rfl, Nat.le_of_ble_eq_true rfl⟩ ?_
  refine rr_ck ⟨rfl, Nat.le_of_ble_eq_true rfl, Nat.le_of_ble_eq_true rfl⟩ ?_
  refine rr_ck ⟨rfl, Nat.le_of_ble_eq_true rfl, Nat.le_of_ble_eq_true rfl⟩ ?_
  refine rr_ck ⟨rfl, Nat.le_of_ble_eq_true rfl, Nat.le_of_ble_eq_true rfl⟩ ?_
  refine rr_ck ⟨rfl, Nat.le_of_ble_eq_true rfl, Nat.le_of_ble_eq_true rfl⟩ ?_
  refine rr_ck ⟨rfl, Nat.le_of_ble_eq_true rfl, Nat.le_of_ble_eq_true rfl⟩ ?_
  exact And.intro rfl rfl
set_option maxRecDepth 100000 in
theorem rx_e0 : rx_Ext none 0 := rx_Ext_plain (by decide +kernel)
def f_cau_init_0 (σ : rx_St) : rx_St :=
  let σ1 : rx_St := rx_z σ 73;
  let σ2 : rx_St := rx_z σ1 74;
  let σ3 : rx_St := rx_z σ2 75;
  σ3
set_option maxRecDepth 1000000 in
set_option maxHeartbeats 16000000 in
theorem f_cau_init_0_ok (σ : rx_St) : rx_OK 0 [.ref 72, .ref 38, .ref 57] 73 [(0, 11), (0, 12), (72, 0), (72, 1), (72, 3), (72, 4), (72, 5)] [7, 21, 21, 21, 7] σ (none, 76, 3, 24, [(0, 11), (0, 12)], [7, 21, 21, 21, 7], f_cau_init_0 σ) := by
  refine rx_OK_of (by decide) (Nat.le_of_ble_eq_true rfl) ?_
  refine rx_walk [] 3000 (by decide) rx_e0 ?_
  refine rr_ck ⟨rfl, Nat.le_of_ble_eq_true rfl, Nat.le_of_ble_eq_true rfl⟩ ?_
  refine rr_ck ⟨rfl, Nat.le_of_ble_eq_true rfl, Nat.le_of_ble_eq_true rfl⟩ ?_
  refine rr_ck ⟨rfl, Nat.le_of_ble_eq_true rfl, Nat.le_of_ble_eq_true rfl⟩ ?_
  exact And.intro rfl rfl
set_option maxRecDepth 100000 in
theorem rx_e31 : rx_Ext none 31 := rx_Ext_plain (by decide +kernel)
def f_gri_init_0 (σ : rx_St) : rx_St :=
  let σ1 : rx_St := rx_z σ 77;
  let σ2 : rx_St := rx_z σ1 78;
  let σ3 : rx_St := rx_z σ2 79;
  let σ4 : rx_St := rx_z σ3 80;
  let σ5 : rx_St := rx_z σ4 81;
  let σ6 : rx_St := rx_z σ5 82;
  let σ7 : rx_St := rx_z σ6 83;
  let σ8 : rx_St := rx_z σ7 84;
  let σ9 : rx_St := rx_z σ8 85;
  let σ10 : rx_St := rx_si σ9 76 13 (1 : Int32);
  let σ11 : rx_St := rx_z σ10 86;
  σ11
set_option maxRecDepth 1000000 in
set_option maxHeartbeats 16000000 in
theorem f_gri_init_0_ok (σ : rx_St) : rx_OK 31 [.ref 76, .ref 38, .ref 57] 77 [(0, 12), (76, 0), (76, 1), (76, 3), (76, 4), (76, 5), (76, 6), (76, 7), (76, 9), (76, 10), (76, 11), (76, 12), (76, 14)] [7, 21, 21, 21, 7] σ (none, 87, 10, 252, [(0, 12)], [7, 21, 21, 21, 7], f_gri_init_0 σ) := by
  refine rx_OK_of (by decide) (Nat.le_of_ble_eq_true rfl) ?_
  refine rx_walk [] 3000 (by decide) rx_e31 ?_
  refine rr_ck ⟨rfl, Nat.le_of_ble_eq_true rfl, Nat.le_of_ble_eq_true rfl⟩ ?_
  refine rr_ck ⟨rfl, Nat.le_of_ble_eq_true rfl, Nat.le_of_ble_eq_true rfl⟩ ?_
  refine rr_ck ⟨rfl, Nat.le_of_ble_eq_true rfl, Nat.le_of_ble_eq_true rfl⟩ ?_
  refine rr_ck ⟨rfl, Nat.le_of_ble_eq_true rfl, Nat.le_of_ble_eq_true rfl⟩ ?_
  refine rr_ck ⟨rfl, Nat.le_of_ble_eq_true rfl, Nat.le_of_ble_eq_true rfl⟩ ?_
  refine rr_ck ⟨rfl, Nat.le_of_ble_eq_true rfl, Nat.le_of_ble_eq_true rfl⟩ ?_
  refine rr_ck ⟨rfl, Nat.le_of_ble_eq_true rfl, Nat.le_of_ble_eq_true rfl⟩ ?_
  refine rr_ck ⟨rfl, Nat.le_of_ble_eq_true rfl, Nat.le_of_ble_eq_true rfl⟩ ?_
  refine rr_ck ⟨rfl, Nat.le_of_ble_eq_true rfl, Nat.le_of_ble_eq_true rfl⟩ ?_
  refine rr_ck ⟨rfl, Nat.le_of_ble_eq_true rfl, Nat.le_of_ble_eq_true rfl⟩ ?_
  exact And.intro rfl rfl
set_option maxRecDepth 100000 in
theorem rx_e124 : rx_Ext none 124 := rx_Ext_plain (by decide +kernel)
def f_c_init_0 (σ : rx_St) : rx_St :=
  let σ1 : rx_St := rx_z σ 1;
  let σ2 : rx_St := f_tap_init_0 σ1;
  let σ3 : rx_St := rx_z σ2 7;
  let σ4 : rx_St := f_wor_init_0 σ3;
  let σ5 : rx_St := rx_z σ4 21;
  let σ6 : rx_St := f_wor_init_1 σ5;
  let σ7 : rx_St := rx_z σ6 35;
  let σ8 : rx_St := f_rea_init_0 σ7;
  let σ9 : rx_St := rx_z σ8 37;
  let σ10 : rx_St := f_chk_init_0 σ9;
  let σ11 : rx_St := rx_si σ10 0 5 (-1 : Int32);
  let σ12 : rx_St := rx_z σ11 38;
  let σ13 : rx_St := f_tow_init_0 σ12;
  let σ14 : rx_St := rx_z σ13 44;
  let σ15 : rx_St := f_wis_init_0 σ14;
  let σ16 : rx_St := rx_z σ15 51;
  let σ17 : rx_St := f_cho_init_0 σ16;
  let σ18 : rx_St := rx_z σ17 57;
  let σ19 : rx_St := f_run_init_0 σ18;
  let σ20 : rx_St := rx_z σ19 64;
  let σ21 : rx_St := f_run_init_1 σ20;
  let σ22 : rx_St := rx_z σ21 71;
  let σ23 : rx_St := rx_z σ22 72;
  let σ24 : rx_St := f_cau_init_0 σ23;
  let σ25 : rx_St := rx_z σ24 76;
  let σ26 : rx_St := f_gri_init_0 σ25;
  σ26
set_option maxRecDepth 1000000 in
set_option maxHeartbeats 16000000 in
theorem f_c_init_0_ok (σ : rx_St) : rx_OK 124 [.ref 0] 1 [(0, 0), (0, 1), (0, 2), (0, 3), (0, 4), (0, 6), (0, 7), (0, 8), (0, 9), (0, 10), (0, 11), (0, 12)] [8000, 8000, 8000, 8000, 8000] σ (none, 87, 86, 12992, [], [7, 21, 21, 21, 7], f_c_init_0 σ) := by
  refine rx_OK_of (by decide) (Nat.le_of_ble_eq_true rfl) ?_
  refine rx_walk [] 3000 (by decide) rx_e124 ?_
  refine rr_ck ⟨Nat.le_of_ble_eq_true rfl, Nat.le_of_ble_eq_true rfl⟩ ?_
  refine rr_callC (f_tap_init_0_ok _) ⟨rfl, Nat.le_of_ble_eq_true rfl, Nat.le_of_ble_eq_true rfl, Nat.le_of_ble_eq_true rfl⟩ ?_
  refine rr_ck ⟨Nat.le_of_ble_eq_true rfl, Nat.le_of_ble_eq_true rfl⟩ ?_
  refine rr_callC (f_wor_init_0_ok _) ⟨rfl, Nat.le_of_ble_eq_true rfl, Nat.le_of_ble_eq_true rfl, Nat.le_of_ble_eq_true rfl⟩ ?_
  refine rr_ck ⟨Nat.le_of_ble_eq_true rfl, Nat.le_of_ble_eq_true rfl⟩ ?_
  refine rr_callC (f_wor_init_1_ok _) ⟨rfl, Nat.le_of_ble_eq_true rfl, Nat.le_of_ble_eq_true rfl, Nat.le_of_ble_eq_true rfl⟩ ?_
  refine rr_ck ⟨Nat.le_of_ble_eq_true rfl, Nat.le_of_ble_eq_true rfl⟩ ?_
  refine rr_callC (f_rea_init_0_ok _) ⟨rfl, Nat.le_of_ble_eq_true rfl, Nat.le_of_ble_eq_true rfl, Nat.le_of_ble_eq_true rfl⟩ ?_
  refine rr_ck ⟨Nat.le_of_ble_eq_true rfl, Nat.le_of_ble_eq_true rfl⟩ ?_
  refine rr_callC (f_chk_init_0_ok _) ⟨rfl, Nat.le_of_ble_eq_true rfl, Nat.le_of_ble_eq_true rfl, Nat.le_of_ble_eq_true rfl⟩ ?_
  refine rr_ck ⟨Nat.le_of_ble_eq_true rfl, Nat.le_of_ble_eq_true rfl⟩ ?_
  refine rr_callC (f_tow_init_0_ok _) ⟨rfl, Nat.le_of_ble_eq_true rfl, Nat.le_of_ble_eq_true rfl, Nat.le_of_ble_eq_true rfl⟩ ?_
  refine rr_ck ⟨Nat.le_of_ble_eq_true rfl, Nat.le_of_ble_eq_true rfl⟩ ?_
  refine rr_callC (f_wis_init_0_ok _) ⟨rfl, Nat.le_of_ble_eq_true rfl, Nat.le_of_ble_eq_true rfl, Nat.le_of_ble_eq_true rfl⟩ ?_
  refine rr_ck ⟨Nat.le_of_ble_eq_true rfl, Nat.le_of_ble_eq_true rfl⟩ ?_
  refine rr_callC (f_cho_init_0_ok _) ⟨rfl, Nat.le_of_ble_eq_true rfl, Nat.le_of_ble_eq_true rfl, Nat.le_of_ble_eq_true rfl⟩ ?_
  refine rr_ck ⟨Nat.le_of_ble_eq_true rfl, Nat.le_of_ble_eq_true rfl⟩ ?_
  refine rr_callC (f_run_init_0_ok _) ⟨rfl, Nat.le_of_ble_eq_true rfl, Nat.le_of_ble_eq_true rfl, Nat.le_of_ble_eq_true rfl⟩ ?_
  refine rr_ck ⟨Nat.le_of_ble_eq_true rfl, Nat.le_of_ble_eq_true rfl⟩ ?_
  refine rr_callC (f_run_init_1_ok _) ⟨rfl, Nat.le_of_ble_eq_true rfl, Nat.le_of_ble_eq_true rfl, Nat.le_of_ble_eq_true rfl⟩ ?_
  refine rr_ck ⟨rfl, Nat.le_of_ble_eq_true rfl, Nat.le_of_ble_eq_true rfl⟩ ?_
  refine rr_ck ⟨Nat.le_of_ble_eq_true rfl, Nat.le_of_ble_eq_true rfl⟩ ?_
  refine rr_callC (f_cau_init_0_ok _) ⟨rfl, Nat.le_of_ble_eq_true rfl, Nat.le_of_ble_eq_true rfl, Nat.le_of_ble_eq_true rfl⟩ ?_
  refine rr_ck ⟨Nat.le_of_ble_eq_true rfl, Nat.le_of_ble_eq_true rfl⟩ ?_
  refine rr_callC (f_gri_init_0_ok _) ⟨rfl, Nat.le_of_ble_eq_true rfl, Nat.le_of_ble_eq_true rfl, Nat.le_of_ble_eq_true rfl⟩ ?_
  exact And.intro rfl rfl
set_option maxRecDepth 100000 in
theorem rx_e162 : rx_Ext none 162 := rx_Ext_plain (by decide +kernel)
def f_m_init_0 (σ : rx_St) : rx_St :=
  let σ1 : rx_St := rx_z σ 88;
  let σ2 : rx_St := rx_z σ1 89;
  let σ3 : rx_St := rx_z σ2 90;
  let σ4 : rx_St := rx_z σ3 91;
  let σ5 : rx_St := rx_z σ4 92;
  let σ6 : rx_St := rx_z σ5 93;
  let σ7 : rx_St := rx_z σ6 94;
  let σ8 : rx_St := rx_si σ7 87 17 (-1 : Int32);
  let σ9 : rx_St := rx_z σ8 95;
  let σ10 : rx_St := rx_z σ9 96;
  let σ11 : rx_St := rx_z σ10 97;
  let σ12 : rx_St := rx_z σ11 98;
  let σ13 : rx_St := rx_z σ12 99;
  let σ14 : rx_St := rx_z σ13 100;
  let σ15 : rx_St := rx_z σ14 101;
  let σ16 : rx_St := rx_z σ15 102;
  let σ17 : rx_St := rx_z σ16 103;
  let σ18 : rx_St := rx_z σ17 104;
  let σ19 : rx_St := rx_z σ18 105;
  let σ20 : rx_St := rx_z σ19 106;
  let σ21 : rx_St := rx_z σ20 107;
  let σ22 : rx_St := rx_z σ21 108;
  let σ23 : rx_St := rx_z σ22 109;
  let σ24 : rx_St := rx_z σ23 110;
  let σ25 : rx_St := rx_z σ24 111;
  let σ26 : rx_St := rx_z σ25 112;
  let σ27 : rx_St := rx_z σ26 113;
  let σ28 : rx_St := rx_z σ27 114;
  let σ29 : rx_St := rx_z σ28 115;
  let σ30 : rx_St := rx_z σ29 116;
  let σ31 : rx_St := rx_z σ30 117;
  let σ32 : rx_St := rx_z σ31 118;
  let σ33 : rx_St := rx_z σ32 119;
  let σ34 : rx_St := rx_z σ33 120;
  let σ35 : rx_St := rx_z σ34 121;
  let σ36 : rx_St := rx_z σ35 122;
  let σ37 : rx_St := rx_z σ36 123;
  let σ38 : rx_St := rx_z σ37 124;
  let σ39 : rx_St := rx_z σ38 125;
  let σ40 : rx_St := rx_z σ39 126;
  let σ41 : rx_St := rx_z σ40 127;
  let σ42 : rx_St := rx_z σ41 128;
  let σ43 : rx_St := rx_z σ42 129;
  let σ44 : rx_St := rx_z σ43 130;
  let σ45 : rx_St := rx_z σ44 131;
  let σ46 : rx_St := rx_z σ45 132;
  let σ47 : rx_St := rx_z σ46 133;
  let σ48 : rx_St := rx_z σ47 134;
  let σ49 : rx_St := rx_z σ48 135;
  let σ50 : rx_St := rx_z σ49 136;
  let σ51 : rx_St := rx_z σ50 137;
  let σ52 : rx_St := rx_z σ51 138;
  let σ53 : rx_St := rx_z σ52 139;
  let σ54 : rx_St := rx_z σ53 140;
  let σ55 : rx_St := rx_z σ54 141;
  let σ56 : rx_St := rx_z σ55 142;
  let σ57 : rx_St := rx_z σ56 143;
  let σ58 : rx_St := rx_z σ57 144;
  let σ59 : rx_St := rx_z σ58 145;
  let σ60 : rx_St := rx_z σ59 146;
  let σ61 : rx_St := rx_z σ60 147;
  let σ62 : rx_St := rx_z σ61 148;
  let σ63 : rx_St := rx_z σ62 149;
  let σ64 : rx_St := rx_z σ63 150;
  let σ65 : rx_St := rx_z σ64 151;
  let σ66 : rx_St := rx_z σ65 152;
  let σ67 : rx_St := rx_z σ66 153;
  let σ68 : rx_St := rx_z σ67 154;
  let σ69 : rx_St := rx_z σ68 155;
  let σ70 : rx_St := rx_z σ69 156;
  let σ71 : rx_St := rx_z σ70 157;
  let σ72 : rx_St := rx_z σ71 158;
  let σ73 : rx_St := rx_z σ72 159;
  let σ74 : rx_St := rx_z σ73 160;
  let σ75 : rx_St := rx_sl σ74 94 (0 : Int32).toNatClampNeg (f_m_word (115 : Int32) (101 : Int32) (116 : Int32) (0 : Int32) (0 : Int32) (0 : Int32) (0 : Int32));
  let σ76 : rx_St := rx_sl σ75 94 (1 : Int32).toNatClampNeg (f_m_word (107 : Int32) (105 : Int32) (110 : Int32) (100 : Int32) (0 : Int32) (0 : Int32) (0 : Int32));
  let σ77 : rx_St := rx_sl σ76 94 (2 : Int32).toNatClampNeg (f_m_word (101 : Int32) (110 : Int32) (100 : Int32) (0 : Int32) (0 : Int32) (0 : Int32) (0 : Int32));
  let σ78 : rx_St := rx_sl σ77 94 (3 : Int32).toNatClampNeg (f_m_word (104 : Int32) (97 : Int32) (115 : Int32) (0 : Int32) (0 : Int32) (0 : Int32) (0 : Int32));
  let σ79 : rx_St := rx_sl σ78 94 (4 : Int32).toNatClampNeg (f_m_word (115 : Int32) (101 : Int32) (99 : Int32) (114 : Int32) (101 : Int32) (116 : Int32) (0 : Int32));
  let σ80 : rx_St := rx_sl σ79 94 (5 : Int32).toNatClampNeg (f_m_word (114 : Int32) (117 : Int32) (108 : Int32) (101 : Int32) (0 : Int32) (0 : Int32) (0 : Int32));
  let σ81 : rx_St := rx_sl σ80 94 (6 : Int32).toNatClampNeg (f_m_word (105 : Int32) (102 : Int32) (0 : Int32) (0 : Int32) (0 : Int32) (0 : Int32) (0 : Int32));
  let σ82 : rx_St := rx_sl σ81 94 (7 : Int32).toNatClampNeg (f_m_word (97 : Int32) (100 : Int32) (100 : Int32) (0 : Int32) (0 : Int32) (0 : Int32) (0 : Int32));
  let σ83 : rx_St := rx_sl σ82 94 (8 : Int32).toNatClampNeg (f_m_word (103 : Int32) (111 : Int32) (0 : Int32) (0 : Int32) (0 : Int32) (0 : Int32) (0 : Int32));
  let σ84 : rx_St := rx_sl σ83 94 (9 : Int32).toNatClampNeg (f_m_word (103 : Int32) (105 : Int32) (118 : Int32) (101 : Int32) (0 : Int32) (0 : Int32) (0 : Int32));
  let σ85 : rx_St := rx_sl σ84 94 (10 : Int32).toNatClampNeg (f_m_word (116 : Int32) (111 : Int32) (0 : Int32) (0 : Int32) (0 : Int32) (0 : Int32) (0 : Int32));
  let σ86 : rx_St := rx_sl σ85 94 (11 : Int32).toNatClampNeg (f_m_word (110 : Int32) (101 : Int32) (97 : Int32) (114 : Int32) (0 : Int32) (0 : Int32) (0 : Int32));
  let σ87 : rx_St := rx_sl σ86 94 (12 : Int32).toNatClampNeg (f_m_word (112 : Int32) (105 : Int32) (99 : Int32) (107 : Int32) (0 : Int32) (0 : Int32) (0 : Int32));
  let σ88 : rx_St := rx_sl σ87 94 (13 : Int32).toNatClampNeg (f_m_word (113 : Int32) (117 : Int32) (105 : Int32) (116 : Int32) (0 : Int32) (0 : Int32) (0 : Int32));
  let σ89 : rx_St := rx_sl σ88 94 (14 : Int32).toNatClampNeg (f_m_word (111 : Int32) (114 : Int32) (0 : Int32) (0 : Int32) (0 : Int32) (0 : Int32) (0 : Int32));
  let σ90 : rx_St := rx_sl σ89 94 (15 : Int32).toNatClampNeg (f_m_word (97 : Int32) (110 : Int32) (100 : Int32) (0 : Int32) (0 : Int32) (0 : Int32) (0 : Int32));
  let σ91 : rx_St := rx_sl σ90 94 (16 : Int32).toNatClampNeg (f_m_word (110 : Int32) (111 : Int32) (116 : Int32) (0 : Int32) (0 : Int32) (0 : Int32) (0 : Int32));
  let σ92 : rx_St := rx_sl σ91 94 (17 : Int32).toNatClampNeg (f_m_word (116 : Int32) (105 : Int32) (99 : Int32) (107 : Int32) (0 : Int32) (0 : Int32) (0 : Int32));
  let σ93 : rx_St := rx_sl σ92 94 (18 : Int32).toNatClampNeg (f_m_word (104 : Int32) (101 : Int32) (114 : Int32) (101 : Int32) (0 : Int32) (0 : Int32) (0 : Int32));
  let σ94 : rx_St := rx_sl σ93 94 (19 : Int32).toNatClampNeg (f_m_word (112 : Int32) (108 : Int32) (97 : Int32) (99 : Int32) (101 : Int32) (0 : Int32) (0 : Int32));
  let σ95 : rx_St := rx_sl σ94 94 (20 : Int32).toNatClampNeg (f_m_word (108 : Int32) (111 : Int32) (116 : Int32) (0 : Int32) (0 : Int32) (0 : Int32) (0 : Int32));
  let σ96 : rx_St := rx_sl σ95 94 (21 : Int32).toNatClampNeg (f_m_word (115 : Int32) (117 : Int32) (109 : Int32) (0 : Int32) (0 : Int32) (0 : Int32) (0 : Int32));
  let σ97 : rx_St := rx_sl σ96 94 (22 : Int32).toNatClampNeg (f_m_word (97 : Int32) (108 : Int32) (108 : Int32) (0 : Int32) (0 : Int32) (0 : Int32) (0 : Int32));
  σ97
set_option maxRecDepth 1000000 in
set_option maxHeartbeats 16000000 in
theorem f_m_init_0_ok (σ : rx_St) : rx_OK 162 [.ref 87] 88 [(87, 1), (87, 3), (87, 5), (87, 6), (87, 7), (87, 8), (87, 9), (87, 20), (87, 21), (87, 22), (87, 23), (87, 24), (87, 25), (87, 26), (87, 27), (87, 28), (87, 29), (87, 30), (87, 31), (87, 32), (87, 33), (87, 34), (87, 35), (87, 36), (87, 37), (87, 38), (87, 40), (87, 41), (87, 42), (87, 43), (87, 44), (87, 45), (87, 47), (87, 48), (87, 49), (87, 51), (87, 52), (87, 53), (87, 54), (87, 55), (87, 57), (87, 59), (87, 61), (87, 62), (87, 63), (87, 64), (87, 66), (87, 67), (87, 68), (87, 69), (87, 70), (87, 71), (87, 72), (87, 73), (87, 74), (87, 75), (87, 76), (87, 77), (87, 82), (87, 84), (87, 85), (87, 87), (87, 88), (87, 89), (87, 91), (87, 92), (87, 93), (87, 94), (87, 95), (87, 97), (87, 98), (87, 99), (87, 100)] [7, 21, 21, 21, 7] σ (none, 161, 73, 31525, [], [7, 21, 21, 21, 7], f_m_init_0 σ) := by
  refine rx_OK_of (by decide) (Nat.le_of_ble_eq_true rfl) ?_
  refine rx_walk [] 3000 (by decide) rx_e162 ?_
  refine rr_ck ⟨rfl, Nat.le_of_ble_eq_true rfl, Nat.le_of_ble_eq_true rfl⟩ ?_
  refine rr_ck ⟨rfl, Nat.le_of_ble_eq_true rfl, Nat.le_of_ble_eq_true rfl⟩ ?_
  refine rr_ck ⟨rfl, Nat.le_of_ble_eq_true rfl, Nat.le_of_ble_eq_true rfl⟩ ?_
  refine rr_ck ⟨rfl, Nat.le_of_ble_eq_true rfl, Nat.le_of_ble_eq_true rfl⟩ ?_
  refine rr_ck ⟨rfl, Nat.le_of_ble_eq_true rfl, Nat.le_of_ble_eq_true rfl⟩ ?_
  refine rr_ck ⟨rfl, Nat.le_of_ble_eq_true rfl, Nat.le_of_ble_eq_true rfl⟩ ?_
  refine rr_ck ⟨rfl, Nat.le_of_ble_eq_true rfl, Nat.le_of_ble_eq_true rfl⟩ ?_
  refine rr_ck ⟨rfl, Nat.le_of_ble_eq_true rfl, Nat.le_of_ble_eq_true rfl⟩ ?_
  refine rr_ck ⟨rfl, Nat.le_of_ble_eq_true rfl, Nat.le_of_ble_eq_true rfl⟩ ?_
  refine rr_ck ⟨rfl, Nat.le_of_ble_eq_true rfl, Nat.le_of_ble_eq_true rfl⟩ ?_
  refine rr_ck ⟨rfl, Nat.le_of_ble_eq_true rfl, Nat.le_of_ble_eq_true rfl⟩ ?_
  refine rr_ck ⟨rfl, Nat.le_of_ble_eq_true rfl, Nat.le_of_ble_eq_true rfl⟩ ?_
  refine rr_ck ⟨rfl, Nat.le_of_ble_eq_true rfl, Nat.le_of_ble_eq_true rfl⟩ ?_
  refine rr_ck ⟨rfl, Nat.le_of_ble_eq_true rfl, Nat.le_of_ble_eq_true rfl⟩ ?_
  refine rr_ck ⟨rfl, Nat.le_of_ble_eq_true rfl, Nat.le_of_ble_eq_true rfl⟩ ?_
  refine rr_ck ⟨rfl, Nat.le_of_ble_eq_true rfl, Nat.le_of_ble_eq_true rfl⟩ ?_
  refine rr_ck ⟨rfl, Nat.le_of_ble_eq_true rfl, Nat.le_of_ble_eq_true rfl⟩ ?_
  refine rr_ck ⟨rfl, Nat.le_of_ble_eq_true rfl, Nat.le_of_ble_eq_true rfl⟩ ?_
  refine rr_ck ⟨rfl, Nat.le_of_ble_eq_true rfl, Nat.le_of_ble_eq_true rfl⟩ ?_
  refine rr_ck ⟨rfl, Nat.le_of_ble_eq_true rfl, Nat.le_of_ble_eq_true rfl⟩ ?_
  refine rr_ck ⟨rfl, Nat.le_of_ble_eq_true rfl, Nat.le_of_ble_eq_true rfl⟩ ?_
  refine rr_ck ⟨rfl, Nat.le_of_ble_eq_true rfl, Nat.le_of_ble_eq_true rfl⟩ ?_
  refine rr_ck ⟨rfl, Nat.le_of_ble_eq_true rfl, Nat.le_of_ble_eq_true rfl⟩ ?_
  refine rr_ck ⟨rfl, Nat.le_of_ble_eq_true rfl, Nat.le_of_ble_eq_true rfl⟩ ?_
  refine rr_ck ⟨rfl, Nat.le_of_ble_eq_true rfl, Nat.le_of_ble_eq_true rfl⟩ ?_
  refine rr_ck ⟨rfl, Nat.le_of_ble_eq_true rfl, Nat.le_of_ble_eq_true rfl⟩ ?_
  refine rr_ck ⟨rfl, Nat.le_of_ble_eq_true rfl, Nat.le_of_ble_eq_true rfl⟩ ?_
  refine rr_ck ⟨rfl, Nat.le_of_ble_eq_true rfl, Nat.le_of_ble_eq_true rfl⟩ ?_
  refine rr_ck ⟨rfl, Nat.le_of_ble_eq_true rfl, Nat.le_of_ble_eq_true rfl⟩ ?_
  refine rr_ck ⟨rfl, Nat.le_of_ble_eq_true rfl, Nat.le_of_ble_eq_true rfl⟩ ?_
  refine rr_ck ⟨rfl, Nat.le_of_ble_eq_true rfl, Nat.le_of_ble_eq_true rfl⟩ ?_
  refine rr_ck ⟨rfl, Nat.le_of_ble_eq_true rfl, Nat.le_of_ble_eq_true rfl⟩ ?_
  refine rr_ck ⟨rfl, Nat.le_of_ble_eq_true rfl, Nat.le_of_ble_eq_true rfl⟩ ?_
  refine rr_ck ⟨rfl, Nat.le_of_ble_eq_true rfl, Nat.le_of_ble_eq_true rfl⟩ ?_
  refine rr_ck ⟨rfl, Nat.le_of_ble_eq_true rfl, Nat.le_of_ble_eq_true rfl⟩ ?_
  refine rr_ck ⟨rfl, Nat.le_of_ble_eq_true rfl, Nat.le_of_ble_eq_true rfl⟩ ?_
  refine rr_ck ⟨rfl, Nat.le_of_ble_eq_true rfl, Nat.le_of_ble_eq_true rfl⟩ ?_
  refine rr_ck ⟨rfl, Nat.le_of_ble_eq_true rfl, Nat.le_of_ble_eq_true rfl⟩ ?_
  refine rr_ck ⟨rfl, Nat.le_of_ble_eq_true rfl, Nat.le_of_ble_eq_true rfl⟩ ?_
  refine rr_ck ⟨rfl, Nat.le_of_ble_eq_true rfl, Nat.le_of_ble_eq_true rfl⟩ ?_
  refine rr_ck ⟨rfl, Nat.le_of_ble_eq_true rfl, Nat.le_of_ble_eq_true rfl⟩ ?_
  refine rr_ck ⟨rfl, Nat.le_of_ble_eq_true rfl, Nat.le_of_ble_eq_true rfl⟩ ?_
  refine rr_ck ⟨rfl, Nat.le_of_ble_eq_true rfl, Nat.le_of_ble_eq_true rfl⟩ ?_
  refine rr_ck ⟨rfl, Nat.le_of_ble_eq_true rfl, Nat.le_of_ble_eq_true rfl⟩ ?_
  refine rr_ck ⟨rfl, Nat.le_of_ble_eq_true rfl, Nat.le_of_ble_eq_true rfl⟩ ?_
  refine rr_ck ⟨rfl, Nat.le_of_ble_eq_true rfl, Nat.le_of_ble_eq_true rfl⟩ ?_
  refine rr_ck ⟨rfl, Nat.le_of_ble_eq_true rfl, Nat.le_of_ble_eq_true rfl⟩ ?_
  refine rr_ck ⟨rfl, Nat.le_of_ble_eq_true rfl, Nat.le_of_ble_eq_true rfl⟩ ?_
  refine rr_ck ⟨rfl, Nat.le_of_ble_eq_true rfl, Nat.le_of_ble_eq_true rfl⟩ ?_
  refine rr_ck ⟨rfl, Nat.le_of_ble_eq_true rfl, Nat.le_of_ble_eq_true rfl⟩ ?_
  refine rr_ck ⟨rfl, Nat.le_of_ble_eq_true rfl, Nat.le_of_ble_eq_true rfl⟩ ?_
  refine rr_ck ⟨rfl, Nat.le_of_ble_eq_true rfl, Nat.le_of_ble_eq_true rfl⟩ ?_
  refine rr_ck ⟨rfl, Nat.le_of_ble_eq_true rfl, Nat.le_of_ble_eq_true rfl⟩ ?_
  refine rr_ck ⟨rfl, Nat.le_of_ble_eq_true rfl, Nat.le_of_ble_eq_true rfl⟩ ?_
  refine rr_ck ⟨rfl, Nat.le_of_ble_eq_true rfl, Nat.le_of_ble_eq_true rfl⟩ ?_
  refine rr_ck ⟨rfl, Nat.le_of_ble_eq_true rfl, Nat.le_of_ble_eq_true rfl⟩ ?_
  refine rr_ck ⟨rfl, Nat.le_of_ble_eq_true rfl, Nat.le_of_ble_eq_true rfl⟩ ?_
  refine rr_ck ⟨rfl, Nat.le_of_ble_eq_true rfl, Nat.le_of_ble_eq_true rfl⟩ ?_
  refine rr_ck ⟨rfl, Nat.le_of_ble_eq_true rfl, Nat.le_of_ble_eq_true rfl⟩ ?_
  refine rr_ck ⟨rfl, Nat.le_of_ble_eq_true rfl, Nat.le_of_ble_eq_true rfl⟩ ?_
  refine rr_ck ⟨rfl, Nat.le_of_ble_eq_true rfl, Nat.le_of_ble_eq_true rfl⟩ ?_
  refine rr_ck ⟨rfl, Nat.le_of_ble_eq_true rfl, Nat.le_of_ble_eq_true rfl⟩ ?_
  refine rr_ck ⟨rfl, Nat.le_of_ble_eq_true rfl, Nat.le_of_ble_eq_true rfl⟩ ?_
  refine rr_ck ⟨rfl, Nat.le_of_ble_eq_true rfl, Nat.le_of_ble_eq_true rfl⟩ ?_
  refine rr_ck ⟨rfl, Nat.le_of_ble_eq_true rfl, Nat.le_of_ble_eq_true rfl⟩ ?_
  refine rr_ck ⟨rfl, Nat.le_of_ble_eq_true rfl, Nat.le_of_ble_eq_true rfl⟩ ?_
  refine rr_ck ⟨rfl, Nat.le_of_ble_eq_true rfl, Nat.le_of_ble_eq_true rfl⟩ ?_
  refine rr_ck ⟨rfl, Nat.le_of_ble_eq_true rfl, Nat.le_of_ble_eq_true rfl⟩ ?_
  refine rr_ck ⟨rfl, Nat.le_of_ble_eq_true rfl, Nat.le_of_ble_eq_true rfl⟩ ?_
  refine rr_ck ⟨rfl, Nat.le_of_ble_eq_true rfl, Nat.le_of_ble_eq_true rfl⟩ ?_
  refine rr_ck ⟨rfl, Nat.le_of_ble_eq_true rfl, Nat.le_of_ble_eq_true rfl⟩ ?_
  refine rr_ck ⟨rfl, Nat.le_of_ble_eq_true rfl, Nat.le_of_ble_eq_true rfl⟩ ?_
  refine rr_ck ⟨rfl, Nat.le_of_ble_eq_true rfl, Nat.le_of_ble_eq_true rfl⟩ ?_
  refine rr_callC (f_m_word_okc _ rfl) ⟨rfl, Nat.le_of_ble_eq_true rfl, Nat.le_of_ble_eq_true rfl, Nat.le_of_ble_eq_true rfl⟩ ?_
  refine rr_ck (show ¬ ((0 : Int32) < 0 ∨ 23 ≤ ((0 : Int32)).toNatClampNeg) by decide) ?_
  refine rr_callC (f_m_word_okc _ rfl) ⟨rfl, Nat.le_of_ble_eq_true rfl, Nat.le_of_ble_eq_true rfl, Nat.le_of_ble_eq_true rfl⟩ ?_
  refine rr_ck (show ¬ ((1 : Int32) < 0 ∨ 23 ≤ ((1 : Int32)).toNatClampNeg) by decide) ?_
  refine rr_callC (f_m_word_okc _ rfl) ⟨rfl, Nat.le_of_ble_eq_true rfl, Nat.le_of_ble_eq_true rfl, Nat.le_of_ble_eq_true rfl⟩ ?_
  refine rr_ck (show ¬ ((2 : Int32) < 0 ∨ 23 ≤ ((2 : Int32)).toNatClampNeg) by decide) ?_
  refine rr_callC (f_m_word_okc _ rfl) ⟨rfl, Nat.le_of_ble_eq_true rfl, Nat.le_of_ble_eq_true rfl, Nat.le_of_ble_eq_true rfl⟩ ?_
  refine rr_ck (show ¬ ((3 : Int32) < 0 ∨ 23 ≤ ((3 : Int32)).toNatClampNeg) by decide) ?_
  refine rr_callC (f_m_word_okc _ rfl) ⟨rfl, Nat.le_of_ble_eq_true rfl, Nat.le_of_ble_eq_true rfl, Nat.le_of_ble_eq_true rfl⟩ ?_
  refine rr_ck (show ¬ ((4 : Int32) < 0 ∨ 23 ≤ ((4 : Int32)).toNatClampNeg) by decide) ?_
  refine rr_callC (f_m_word_okc _ rfl) ⟨rfl, Nat.le_of_ble_eq_true rfl, Nat.le_of_ble_eq_true rfl, Nat.le_of_ble_eq_true rfl⟩ ?_
  refine rr_ck (show ¬ ((5 : Int32) < 0 ∨ 23 ≤ ((5 : Int32)).toNatClampNeg) by decide) ?_
  refine rr_callC (f_m_word_okc _ rfl) ⟨rfl, Nat.le_of_ble_eq_true rfl, Nat.le_of_ble_eq_true rfl, Nat.le_of_ble_eq_true rfl⟩ ?_
  refine rr_ck (show ¬ ((6 : Int32) < 0 ∨ 23 ≤ ((6 : Int32)).toNatClampNeg) by decide) ?_
  refine rr_callC (f_m_word_okc _ rfl) ⟨rfl, Nat.le_of_ble_eq_true rfl, Nat.le_of_ble_eq_true rfl, Nat.le_of_ble_eq_true rfl⟩ ?_
  refine rr_ck (show ¬ ((7 : Int32) < 0 ∨ 23 ≤ ((7 : Int32)).toNatClampNeg) by decide) ?_
  refine rr_callC (f_m_word_okc _ rfl) ⟨rfl, Nat.le_of_ble_eq_true rfl, Nat.le_of_ble_eq_true rfl, Nat.le_of_ble_eq_true rfl⟩ ?_
  refine rr_ck (show ¬ ((8 : Int32) < 0 ∨ 23 ≤ ((8 : Int32)).toNatClampNeg) by decide) ?_
  refine rr_callC (f_m_word_okc _ rfl) ⟨rfl, Nat.le_of_ble_eq_true rfl, Nat.le_of_ble_eq_true rfl, Nat.le_of_ble_eq_true rfl⟩ ?_
  refine rr_ck (show ¬ ((9 : Int32) < 0 ∨ 23 ≤ ((9 : Int32)).toNatClampNeg) by decide) ?_
  refine rr_callC (f_m_word_okc _ rfl) ⟨rfl, Nat.le_of_ble_eq_true rfl, Nat.le_of_ble_eq_true rfl, Nat.le_of_ble_eq_true rfl⟩ ?_
  refine rr_ck (show ¬ ((10 : Int32) < 0 ∨ 23 ≤ ((10 : Int32)).toNatClampNeg) by decide) ?_
  refine rr_callC (f_m_word_okc _ rfl) ⟨rfl, Nat.le_of_ble_eq_true rfl, Nat.le_of_ble_eq_true rfl, Nat.le_of_ble_eq_true rfl⟩ ?_
  refine rr_ck (show ¬ ((11 : Int32) < 0 ∨ 23 ≤ ((11 : Int32)).toNatClampNeg) by decide) ?_
  refine rr_callC (f_m_word_okc _ rfl) ⟨rfl, Nat.le_of_ble_eq_true rfl, Nat.le_of_ble_eq_true rfl, Nat.le_of_ble_eq_true rfl⟩ ?_
  refine rr_ck (show ¬ ((12 : Int32) < 0 ∨ 23 ≤ ((12 : Int32)).toNatClampNeg) by decide) ?_
  refine rr_callC (f_m_word_okc _ rfl) ⟨rfl, Nat.le_of_ble_eq_true rfl, Nat.le_of_ble_eq_true rfl, Nat.le_of_ble_eq_true rfl⟩ ?_
  refine rr_ck (show ¬ ((13 : Int32) < 0 ∨ 23 ≤ ((13 : Int32)).toNatClampNeg) by decide) ?_
  refine rr_callC (f_m_word_okc _ rfl) ⟨rfl, Nat.le_of_ble_eq_true rfl, Nat.le_of_ble_eq_true rfl, Nat.le_of_ble_eq_true rfl⟩ ?_
  refine rr_ck (show ¬ ((14 : Int32) < 0 ∨ 23 ≤ ((14 : Int32)).toNatClampNeg) by decide) ?_
  refine rr_callC (f_m_word_okc _ rfl) ⟨rfl, Nat.le_of_ble_eq_true rfl, Nat.le_of_ble_eq_true rfl, Nat.le_of_ble_eq_true rfl⟩ ?_
  refine rr_ck (show ¬ ((15 : Int32) < 0 ∨ 23 ≤ ((15 : Int32)).toNatClampNeg) by decide) ?_
  refine rr_callC (f_m_word_okc _ rfl) ⟨rfl, Nat.le_of_ble_eq_true rfl, Nat.le_of_ble_eq_true rfl, Nat.le_of_ble_eq_true rfl⟩ ?_
  refine rr_ck (show ¬ ((16 : Int32) < 0 ∨ 23 ≤ ((16 : Int32)).toNatClampNeg) by decide) ?_
  refine rr_callC (f_m_word_okc _ rfl) ⟨rfl, Nat.le_of_ble_eq_true rfl, Nat.le_of_ble_eq_true rfl, Nat.le_of_ble_eq_true rfl⟩ ?_
  refine rr_ck (show ¬ ((17 : Int32) < 0 ∨ 23 ≤ ((17 : Int32)).toNatClampNeg) by decide) ?_
  refine rr_callC (f_m_word_okc _ rfl) ⟨rfl, Nat.le_of_ble_eq_true rfl, Nat.le_of_ble_eq_true rfl, Nat.le_of_ble_eq_true rfl⟩ ?_
  refine rr_ck (show ¬ ((18 : Int32) < 0 ∨ 23 ≤ ((18 : Int32)).toNatClampNeg) by decide) ?_
  refine rr_callC (f_m_word_okc _ rfl) ⟨rfl, Nat.le_of_ble_eq_true rfl, Nat.le_of_ble_eq_true rfl, Nat.le_of_ble_eq_true rfl⟩ ?_
  refine rr_ck (show ¬ ((19 : Int32) < 0 ∨ 23 ≤ ((19 : Int32)).toNatClampNeg) by decide) ?_
  refine rr_callC (f_m_word_okc _ rfl) ⟨rfl, Nat.le_of_ble_eq_true rfl, Nat.le_of_ble_eq_true rfl, Nat.le_of_ble_eq_true rfl⟩ ?_
  refine rr_ck (show ¬ ((20 : Int32) < 0 ∨ 23 ≤ ((20 : Int32)).toNatClampNeg) by decide) ?_
  refine rr_callC (f_m_word_okc _ rfl) ⟨rfl, Nat.le_of_ble_eq_true rfl, Nat.le_of_ble_eq_true rfl, Nat.le_of_ble_eq_true rfl⟩ ?_
  refine rr_ck (show ¬ ((21 : Int32) < 0 ∨ 23 ≤ ((21 : Int32)).toNatClampNeg) by decide) ?_
  refine rr_callC (f_m_word_okc _ rfl) ⟨rfl, Nat.le_of_ble_eq_true rfl, Nat.le_of_ble_eq_true rfl, Nat.le_of_ble_eq_true rfl⟩ ?_
  refine rr_ck (show ¬ ((22 : Int32) < 0 ∨ 23 ≤ ((22 : Int32)).toNatClampNeg) by decide) ?_
  exact And.intro rfl rfl
