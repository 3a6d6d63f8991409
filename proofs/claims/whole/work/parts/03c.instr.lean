set_option maxRecDepth 100000 in
theorem rx_oi0_0 : (((rx_code 0).drop 0).take 100000).all (rx_chkI 0) = true := by decide +kernel
set_option maxRecDepth 100000 in
theorem rx_oj0 : rx_chain (rx_code 0) = true := by decide +kernel
theorem rx_ok0 : rx_chain (rx_code 0) = true ∧ ∀ i ∈ rx_code 0, rx_chkI 0 i = true := by
  refine ⟨rx_oj0, fun i hi => ?_⟩
  refine List.all_eq_true.mp rx_oi0_0 i ?_
  rw [List.take_of_length_le (Nat.le_of_ble_eq_true rfl)]
  simpa using hi
set_option maxRecDepth 100000 in
theorem rx_oi1_0 : (((rx_code 1).drop 0).take 100000).all (rx_chkI 1) = true := by decide +kernel
set_option maxRecDepth 100000 in
theorem rx_oj1 : rx_chain (rx_code 1) = true := by decide +kernel
theorem rx_ok1 : rx_chain (rx_code 1) = true ∧ ∀ i ∈ rx_code 1, rx_chkI 1 i = true := by
  refine ⟨rx_oj1, fun i hi => ?_⟩
  refine List.all_eq_true.mp rx_oi1_0 i ?_
  rw [List.take_of_length_le (Nat.le_of_ble_eq_true rfl)]
  simpa using hi
set_option maxRecDepth 100000 in
theorem rx_oi2_0 : (((rx_code 2).drop 0).take 100000).all (rx_chkI 2) = true := by decide +kernel
set_option maxRecDepth 100000 in
theorem rx_oj2 : rx_chain (rx_code 2) = true := by decide +kernel
theorem rx_ok2 : rx_chain (rx_code 2) = true ∧ ∀ i ∈ rx_code 2, rx_chkI 2 i = true := by
  refine ⟨rx_oj2, fun i hi => ?_⟩
  refine List.all_eq_true.mp rx_oi2_0 i ?_
  rw [List.take_of_length_le (Nat.le_of_ble_eq_true rfl)]
  simpa using hi
set_option maxRecDepth 100000 in
theorem rx_oi3_0 : (((rx_code 3).drop 0).take 100000).all (rx_chkI 3) = true := by decide +kernel
set_option maxRecDepth 100000 in
theorem rx_oj3 : rx_chain (rx_code 3) = true := by decide +kernel
theorem rx_ok3 : rx_chain (rx_code 3) = true ∧ ∀ i ∈ rx_code 3, rx_chkI 3 i = true := by
  refine ⟨rx_oj3, fun i hi => ?_⟩
  refine List.all_eq_true.mp rx_oi3_0 i ?_
  rw [List.take_of_length_le (Nat.le_of_ble_eq_true rfl)]
  simpa using hi
set_option maxRecDepth 100000 in
theorem rx_oi4_0 : (((rx_code 4).drop 0).take 100000).all (rx_chkI 4) = true := by decide +kernel
set_option maxRecDepth 100000 in
theorem rx_oj4 : rx_chain (rx_code 4) = true := by decide +kernel
theorem rx_ok4 : rx_chain (rx_code 4) = true ∧ ∀ i ∈ rx_code 4, rx_chkI 4 i = true := by
  refine ⟨rx_oj4, fun i hi => ?_⟩
  refine List.all_eq_true.mp rx_oi4_0 i ?_
  rw [List.take_of_length_le (Nat.le_of_ble_eq_true rfl)]
  simpa using hi
set_option maxRecDepth 100000 in
theorem rx_oi5_0 : (((rx_code 5).drop 0).take 100000).all (rx_chkI 5) = true := by decide +kernel
set_option maxRecDepth 100000 in
theorem rx_oj5 : rx_chain (rx_code 5) = true := by decide +kernel
theorem rx_ok5 : rx_chain (rx_code 5) = true ∧ ∀ i ∈ rx_code 5, rx_chkI 5 i = true := by
  refine ⟨rx_oj5, fun i hi => ?_⟩
  refine List.all_eq_true.mp rx_oi5_0 i ?_
  rw [List.take_of_length_le (Nat.le_of_ble_eq_true rfl)]
  simpa using hi
set_option maxRecDepth 100000 in
theorem rx_oi6_0 : (((rx_code 6).drop 0).take 100000).all (rx_chkI 6) = true := by decide +kernel
set_option maxRecDepth 100000 in
theorem rx_oj6 : rx_chain (rx_code 6) = true := by decide +kernel
theorem rx_ok6 : rx_chain (rx_code 6) = true ∧ ∀ i ∈ rx_code 6, rx_chkI 6 i = true := by
  refine ⟨rx_oj6, fun i hi => ?_⟩
  refine List.all_eq_true.mp rx_oi6_0 i ?_
  rw [List.take_of_length_le (Nat.le_of_ble_eq_true rfl)]
  simpa using hi
set_option maxRecDepth 100000 in
theorem rx_oi7_0 : (((rx_code 7).drop 0).take 100000).all (rx_chkI 7) = true := by decide +kernel
set_option maxRecDepth 100000 in
theorem rx_oj7 : rx_chain (rx_code 7) = true := by decide +kernel
theorem rx_ok7 : rx_chain (rx_code 7) = true ∧ ∀ i ∈ rx_code 7, rx_chkI 7 i = true := by
  refine ⟨rx_oj7, fun i hi => ?_⟩
  refine List.all_eq_true.mp rx_oi7_0 i ?_
  rw [List.take_of_length_le (Nat.le_of_ble_eq_true rfl)]
  simpa using hi
set_option maxRecDepth 100000 in
theorem rx_oi8_0 : (((rx_code 8).drop 0).take 100000).all (rx_chkI 8) = true := by decide +kernel
set_option maxRecDepth 100000 in
theorem rx_oj8 : rx_chain (rx_code 8) = true := by decide +kernel
theorem rx_ok8 : rx_chain (rx_code 8) = true ∧ ∀ i ∈ rx_code 8, rx_chkI 8 i = true := by
  refine ⟨rx_oj8, fun i hi => ?_⟩
  refine List.all_eq_true.mp rx_oi8_0 i ?_
  rw [List.take_of_length_le (Nat.le_of_ble_eq_true rfl)]
  simpa using hi
set_option maxRecDepth 100000 in
theorem rx_oi9_0 : (((rx_code 9).drop 0).take 100000).all (rx_chkI 9) = true := by decide +kernel
set_option maxRecDepth 100000 in
theorem rx_oj9 : rx_chain (rx_code 9) = true := by decide +kernel
theorem rx_ok9 : rx_chain (rx_code 9) = true ∧ ∀ i ∈ rx_code 9, rx_chkI 9 i = true := by
  refine ⟨rx_oj9, fun i hi => ?_⟩
  refine List.all_eq_true.mp rx_oi9_0 i ?_
  rw [List.take_of_length_le (Nat.le_of_ble_eq_true rfl)]
  simpa using hi
set_option maxRecDepth 100000 in
theorem rx_oi10_0 : (((rx_code 10).drop 0).take 100000).all (rx_chkI 10) = true := by decide +kernel
set_option maxRecDepth 100000 in
theorem rx_oj10 : rx_chain (rx_code 10) = true := by decide +kernel
theorem rx_ok10 : rx_chain (rx_code 10) = true ∧ ∀ i ∈ rx_code 10, rx_chkI 10 i = true := by
  refine ⟨rx_oj10, fun i hi => ?_⟩
  refine List.all_eq_true.mp rx_oi10_0 i ?_
  rw [List.take_of_length_le (Nat.le_of_ble_eq_true rfl)]
  simpa using hi
set_option maxRecDepth 100000 in
theorem rx_oi11_0 : (((rx_code 11).drop 0).take 100000).all (rx_chkI 11) = true := by decide +kernel
set_option maxRecDepth 100000 in
theorem rx_oj11 : rx_chain (rx_code 11) = true := by decide +kernel
theorem rx_ok11 : rx_chain (rx_code 11) = true ∧ ∀ i ∈ rx_code 11, rx_chkI 11 i = true := by
  refine ⟨rx_oj11, fun i hi => ?_⟩
  refine List.all_eq_true.mp rx_oi11_0 i ?_
  rw [List.take_of_length_le (Nat.le_of_ble_eq_true rfl)]
  simpa using hi
set_option maxRecDepth 100000 in
theorem rx_oi12_0 : (((rx_code 12).drop 0).take 100000).all (rx_chkI 12) = true := by decide +kernel
set_option maxRecDepth 100000 in
theorem rx_oj12 : rx_chain (rx_code 12) = true := by decide +kernel
theorem rx_ok12 : rx_chain (rx_code 12) = true ∧ ∀ i ∈ rx_code 12, rx_chkI 12 i = true := by
  refine ⟨rx_oj12, fun i hi => ?_⟩
  refine List.all_eq_true.mp rx_oi12_0 i ?_
  rw [List.take_of_length_le (Nat.le_of_ble_eq_true rfl)]
  simpa using hi
set_option maxRecDepth 100000 in
theorem rx_oi13_0 : (((rx_code 13).drop 0).take 100000).all (rx_chkI 13) = true := by decide +kernel
set_option maxRecDepth 100000 in
theorem rx_oj13 : rx_chain (rx_code 13) = true := by decide +kernel
theorem rx_ok13 : rx_chain (rx_code 13) = true ∧ ∀ i ∈ rx_code 13, rx_chkI 13 i = true := by
  refine ⟨rx_oj13, fun i hi => ?_⟩
  refine List.all_eq_true.mp rx_oi13_0 i ?_
  rw [List.take_of_length_le (Nat.le_of_ble_eq_true rfl)]
  simpa using hi
set_option maxRecDepth 100000 in
theorem rx_oi14_0 : (((rx_code 14).drop 0).take 100000).all (rx_chkI 14) = true := by decide +kernel
set_option maxRecDepth 100000 in
theorem rx_oj14 : rx_chain (rx_code 14) = true := by decide +kernel
theorem rx_ok14 : rx_chain (rx_code 14) = true ∧ ∀ i ∈ rx_code 14, rx_chkI 14 i = true := by
  refine ⟨rx_oj14, fun i hi => ?_⟩
  refine List.all_eq_true.mp rx_oi14_0 i ?_
  rw [List.take_of_length_le (Nat.le_of_ble_eq_true rfl)]
  simpa using hi
set_option maxRecDepth 100000 in
theorem rx_oi15_0 : (((rx_code 15).drop 0).take 100000).all (rx_chkI 15) = true := by decide +kernel
set_option maxRecDepth 100000 in
theorem rx_oj15 : rx_chain (rx_code 15) = true := by decide +kernel
theorem rx_ok15 : rx_chain (rx_code 15) = true ∧ ∀ i ∈ rx_code 15, rx_chkI 15 i = true := by
  refine ⟨rx_oj15, fun i hi => ?_⟩
  refine List.all_eq_true.mp rx_oi15_0 i ?_
  rw [List.take_of_length_le (Nat.le_of_ble_eq_true rfl)]
  simpa using hi
set_option maxRecDepth 100000 in
theorem rx_oi16_0 : (((rx_code 16).drop 0).take 100000).all (rx_chkI 16) = true := by decide +kernel
set_option maxRecDepth 100000 in
theorem rx_oj16 : rx_chain (rx_code 16) = true := by decide +kernel
theorem rx_ok16 : rx_chain (rx_code 16) = true ∧ ∀ i ∈ rx_code 16, rx_chkI 16 i = true := by
  refine ⟨rx_oj16, fun i hi => ?_⟩
  refine List.all_eq_true.mp rx_oi16_0 i ?_
  rw [List.take_of_length_le (Nat.le_of_ble_eq_true rfl)]
  simpa using hi
set_option maxRecDepth 100000 in
theorem rx_oi17_0 : (((rx_code 17).drop 0).take 100000).all (rx_chkI 17) = true := by decide +kernel
set_option maxRecDepth 100000 in
theorem rx_oj17 : rx_chain (rx_code 17) = true := by decide +kernel
theorem rx_ok17 : rx_chain (rx_code 17) = true ∧ ∀ i ∈ rx_code 17, rx_chkI 17 i = true := by
  refine ⟨rx_oj17, fun i hi => ?_⟩
  refine List.all_eq_true.mp rx_oi17_0 i ?_
  rw [List.take_of_length_le (Nat.le_of_ble_eq_true rfl)]
  simpa using hi
set_option maxRecDepth 100000 in
theorem rx_oi18_0 : (((rx_code 18).drop 0).take 100000).all (rx_chkI 18) = true := by decide +kernel
set_option maxRecDepth 100000 in
theorem rx_oj18 : rx_chain (rx_code 18) = true := by decide +kernel
theorem rx_ok18 : rx_chain (rx_code 18) = true ∧ ∀ i ∈ rx_code 18, rx_chkI 18 i = true := by
  refine ⟨rx_oj18, fun i hi => ?_⟩
  refine List.all_eq_true.mp rx_oi18_0 i ?_
  rw [List.take_of_length_le (Nat.le_of_ble_eq_true rfl)]
  simpa using hi
set_option maxRecDepth 100000 in
theorem rx_oi19_0 : (((rx_code 19).drop 0).take 100000).all (rx_chkI 19) = true := by decide +kernel
set_option maxRecDepth 100000 in
theorem rx_oj19 : rx_chain (rx_code 19) = true := by decide +kernel
theorem rx_ok19 : rx_chain (rx_code 19) = true ∧ ∀ i ∈ rx_code 19, rx_chkI 19 i = true := by
  refine ⟨rx_oj19, fun i hi => ?_⟩
  refine List.all_eq_true.mp rx_oi19_0 i ?_
  rw [List.take_of_length_le (Nat.le_of_ble_eq_true rfl)]
  simpa using hi
set_option maxRecDepth 100000 in
theorem rx_oi20_0 : (((rx_code 20).drop 0).take 100000).all (rx_chkI 20) = true := by decide +kernel
set_option maxRecDepth 100000 in
theorem rx_oj20 : rx_chain (rx_code 20) = true := by decide +kernel
theorem rx_ok20 : rx_chain (rx_code 20) = true ∧ ∀ i ∈ rx_code 20, rx_chkI 20 i = true := by
  refine ⟨rx_oj20, fun i hi => ?_⟩
  refine List.all_eq_true.mp rx_oi20_0 i ?_
  rw [List.take_of_length_le (Nat.le_of_ble_eq_true rfl)]
  simpa using hi
set_option maxRecDepth 100000 in
theorem rx_oi21_0 : (((rx_code 21).drop 0).take 100000).all (rx_chkI 21) = true := by decide +kernel
set_option maxRecDepth 100000 in
theorem rx_oj21 : rx_chain (rx_code 21) = true := by decide +kernel
theorem rx_ok21 : rx_chain (rx_code 21) = true ∧ ∀ i ∈ rx_code 21, rx_chkI 21 i = true := by
  refine ⟨rx_oj21, fun i hi => ?_⟩
  refine List.all_eq_true.mp rx_oi21_0 i ?_
  rw [List.take_of_length_le (Nat.le_of_ble_eq_true rfl)]
  simpa using hi
set_option maxRecDepth 100000 in
theorem rx_oi22_0 : (((rx_code 22).drop 0).take 100000).all (rx_chkI 22) = true := by decide +kernel
set_option maxRecDepth 100000 in
theorem rx_oj22 : rx_chain (rx_code 22) = true := by decide +kernel
theorem rx_ok22 : rx_chain (rx_code 22) = true ∧ ∀ i ∈ rx_code 22, rx_chkI 22 i = true := by
  refine ⟨rx_oj22, fun i hi => ?_⟩
  refine List.all_eq_true.mp rx_oi22_0 i ?_
  rw [List.take_of_length_le (Nat.le_of_ble_eq_true rfl)]
  simpa using hi
set_option maxRecDepth 100000 in
theorem rx_oi23_0 : (((rx_code 23).drop 0).take 100000).all (rx_chkI 23) = true := by decide +kernel
set_option maxRecDepth 100000 in
theorem rx_oj23 : rx_chain (rx_code 23) = true := by decide +kernel
theorem rx_ok23 : rx_chain (rx_code 23) = true ∧ ∀ i ∈ rx_code 23, rx_chkI 23 i = true := by
  refine ⟨rx_oj23, fun i hi => ?_⟩
  refine List.all_eq_true.mp rx_oi23_0 i ?_
  rw [List.take_of_length_le (Nat.le_of_ble_eq_true rfl)]
  simpa using hi
set_option maxRecDepth 100000 in
theorem rx_oi24_0 : (((rx_code 24).drop 0).take 100000).all (rx_chkI 24) = true := by decide +kernel
set_option maxRecDepth 100000 in
theorem rx_oj24 : rx_chain (rx_code 24) = true := by decide +kernel
theorem rx_ok24 : rx_chain (rx_code 24) = true ∧ ∀ i ∈ rx_code 24, rx_chkI 24 i = true := by
  refine ⟨rx_oj24, fun i hi => ?_⟩
  refine List.all_eq_true.mp rx_oi24_0 i ?_
  rw [List.take_of_length_le (Nat.le_of_ble_eq_true rfl)]
  simpa using hi
set_option maxRecDepth 100000 in
theorem rx_oi25_0 : (((rx_code 25).drop 0).take 100000).all (rx_chkI 25) = true := by decide +kernel
set_option maxRecDepth 100000 in
theorem rx_oj25 : rx_chain (rx_code 25) = true := by decide +kernel
theorem rx_ok25 : rx_chain (rx_code 25) = true ∧ ∀ i ∈ rx_code 25, rx_chkI 25 i = true := by
  refine ⟨rx_oj25, fun i hi => ?_⟩
  refine List.all_eq_true.mp rx_oi25_0 i ?_
  rw [List.take_of_length_le (Nat.le_of_ble_eq_true rfl)]
  simpa using hi
set_option maxRecDepth 100000 in
theorem rx_oi26_0 : (((rx_code 26).drop 0).take 100000).all (rx_chkI 26) = true := by decide +kernel
set_option maxRecDepth 100000 in
theorem rx_oj26 : rx_chain (rx_code 26) = true := by decide +kernel
theorem rx_ok26 : rx_chain (rx_code 26) = true ∧ ∀ i ∈ rx_code 26, rx_chkI 26 i = true := by
  refine ⟨rx_oj26, fun i hi => ?_⟩
  refine List.all_eq_true.mp rx_oi26_0 i ?_
  rw [List.take_of_length_le (Nat.le_of_ble_eq_true rfl)]
  simpa using hi
set_option maxRecDepth 100000 in
theorem rx_oi27_0 : (((rx_code 27).drop 0).take 100000).all (rx_chkI 27) = true := by decide +kernel
set_option maxRecDepth 100000 in
theorem rx_oj27 : rx_chain (rx_code 27) = true := by decide +kernel
theorem rx_ok27 : rx_chain (rx_code 27) = true ∧ ∀ i ∈ rx_code 27, rx_chkI 27 i = true := by
  refine ⟨rx_oj27, fun i hi => ?_⟩
  refine List.all_eq_true.mp rx_oi27_0 i ?_
  rw [List.take_of_length_le (Nat.le_of_ble_eq_true rfl)]
  simpa using hi
set_option maxRecDepth 100000 in
theorem rx_oi28_0 : (((rx_code 28).drop 0).take 100000).all (rx_chkI 28) = true := by decide +kernel
set_option maxRecDepth 100000 in
theorem rx_oj28 : rx_chain (rx_code 28) = true := by decide +kernel
theorem rx_ok28 : rx_chain (rx_code 28) = true ∧ ∀ i ∈ rx_code 28, rx_chkI 28 i = true := by
  refine ⟨rx_oj28, fun i hi => ?_⟩
  refine List.all_eq_true.mp rx_oi28_0 i ?_
  rw [List.take_of_length_le (Nat.le_of_ble_eq_true rfl)]
  simpa using hi
set_option maxRecDepth 100000 in
theorem rx_oi29_0 : (((rx_code 29).drop 0).take 100000).all (rx_chkI 29) = true := by decide +kernel
set_option maxRecDepth 100000 in
theorem rx_oj29 : rx_chain (rx_code 29) = true := by decide +kernel
theorem rx_ok29 : rx_chain (rx_code 29) = true ∧ ∀ i ∈ rx_code 29, rx_chkI 29 i = true := by
  refine ⟨rx_oj29, fun i hi => ?_⟩
  refine List.all_eq_true.mp rx_oi29_0 i ?_
  rw [List.take_of_length_le (Nat.le_of_ble_eq_true rfl)]
  simpa using hi
set_option maxRecDepth 100000 in
theorem rx_oi30_0 : (((rx_code 30).drop 0).take 100000).all (rx_chkI 30) = true := by decide +kernel
set_option maxRecDepth 100000 in
theorem rx_oj30 : rx_chain (rx_code 30) = true := by decide +kernel
theorem rx_ok30 : rx_chain (rx_code 30) = true ∧ ∀ i ∈ rx_code 30, rx_chkI 30 i = true := by
  refine ⟨rx_oj30, fun i hi => ?_⟩
  refine List.all_eq_true.mp rx_oi30_0 i ?_
  rw [List.take_of_length_le (Nat.le_of_ble_eq_true rfl)]
  simpa using hi
set_option maxRecDepth 100000 in
theorem rx_oi31_0 : (((rx_code 31).drop 0).take 100000).all (rx_chkI 31) = true := by decide +kernel
set_option maxRecDepth 100000 in
theorem rx_oj31 : rx_chain (rx_code 31) = true := by decide +kernel
theorem rx_ok31 : rx_chain (rx_code 31) = true ∧ ∀ i ∈ rx_code 31, rx_chkI 31 i = true := by
  refine ⟨rx_oj31, fun i hi => ?_⟩
  refine List.all_eq_true.mp rx_oi31_0 i ?_
  rw [List.take_of_length_le (Nat.le_of_ble_eq_true rfl)]
  simpa using hi
set_option maxRecDepth 100000 in
theorem rx_oi32_0 : (((rx_code 32).drop 0).take 100000).all (rx_chkI 32) = true := by decide +kernel
set_option maxRecDepth 100000 in
theorem rx_oj32 : rx_chain (rx_code 32) = true := by decide +kernel
theorem rx_ok32 : rx_chain (rx_code 32) = true ∧ ∀ i ∈ rx_code 32, rx_chkI 32 i = true := by
  refine ⟨rx_oj32, fun i hi => ?_⟩
  refine List.all_eq_true.mp rx_oi32_0 i ?_
  rw [List.take_of_length_le (Nat.le_of_ble_eq_true rfl)]
  simpa using hi
set_option maxRecDepth 100000 in
theorem rx_oi33_0 : (((rx_code 33).drop 0).take 100000).all (rx_chkI 33) = true := by decide +kernel
set_option maxRecDepth 100000 in
theorem rx_oj33 : rx_chain (rx_code 33) = true := by decide +kernel
theorem rx_ok33 : rx_chain (rx_code 33) = true ∧ ∀ i ∈ rx_code 33, rx_chkI 33 i = true := by
  refine ⟨rx_oj33, fun i hi => ?_⟩
  refine List.all_eq_true.mp rx_oi33_0 i ?_
  rw [List.take_of_length_le (Nat.le_of_ble_eq_true rfl)]
  simpa using hi
set_option maxRecDepth 100000 in
theorem rx_oi34_0 : (((rx_code 34).drop 0).take 100000).all (rx_chkI 34) = true := by decide +kernel
set_option maxRecDepth 100000 in
theorem rx_oj34 : rx_chain (rx_code 34) = true := by decide +kernel
theorem rx_ok34 : rx_chain (rx_code 34) = true ∧ ∀ i ∈ rx_code 34, rx_chkI 34 i = true := by
  refine ⟨rx_oj34, fun i hi => ?_⟩
  refine List.all_eq_true.mp rx_oi34_0 i ?_
  rw [List.take_of_length_le (Nat.le_of_ble_eq_true rfl)]
  simpa using hi
set_option maxRecDepth 100000 in
theorem rx_oi35_0 : (((rx_code 35).drop 0).take 100000).all (rx_chkI 35) = true := by decide +kernel
set_option maxRecDepth 100000 in
theorem rx_oj35 : rx_chain (rx_code 35) = true := by decide +kernel
theorem rx_ok35 : rx_chain (rx_code 35) = true ∧ ∀ i ∈ rx_code 35, rx_chkI 35 i = true := by
  refine ⟨rx_oj35, fun i hi => ?_⟩
  refine List.all_eq_true.mp rx_oi35_0 i ?_
  rw [List.take_of_length_le (Nat.le_of_ble_eq_true rfl)]
  simpa using hi
set_option maxRecDepth 100000 in
theorem rx_oi36_0 : (((rx_code 36).drop 0).take 100000).all (rx_chkI 36) = true := by decide +kernel
set_option maxRecDepth 100000 in
theorem rx_oj36 : rx_chain (rx_code 36) = true := by decide +kernel
theorem rx_ok36 : rx_chain (rx_code 36) = true ∧ ∀ i ∈ rx_code 36, rx_chkI 36 i = true := by
  refine ⟨rx_oj36, fun i hi => ?_⟩
  refine List.all_eq_true.mp rx_oi36_0 i ?_
  rw [List.take_of_length_le (Nat.le_of_ble_eq_true rfl)]
  simpa using hi
set_option maxRecDepth 100000 in
theorem rx_oi37_0 : (((rx_code 37).drop 0).take 100000).all (rx_chkI 37) = true := by decide +kernel
set_option maxRecDepth 100000 in
theorem rx_oj37 : rx_chain (rx_code 37) = true := by decide +kernel
theorem rx_ok37 : rx_chain (rx_code 37) = true ∧ ∀ i ∈ rx_code 37, rx_chkI 37 i = true := by
  refine ⟨rx_oj37, fun i hi => ?_⟩
  refine List.all_eq_true.mp rx_oi37_0 i ?_
  rw [List.take_of_length_le (Nat.le_of_ble_eq_true rfl)]
  simpa using hi
set_option maxRecDepth 100000 in
theorem rx_oi38_0 : (((rx_code 38).drop 0).take 100000).all (rx_chkI 38) = true := by decide +kernel
set_option maxRecDepth 100000 in
theorem rx_oj38 : rx_chain (rx_code 38) = true := by decide +kernel
theorem rx_ok38 : rx_chain (rx_code 38) = true ∧ ∀ i ∈ rx_code 38, rx_chkI 38 i = true := by
  refine ⟨rx_oj38, fun i hi => ?_⟩
  refine List.all_eq_true.mp rx_oi38_0 i ?_
  rw [List.take_of_length_le (Nat.le_of_ble_eq_true rfl)]
  simpa using hi
set_option maxRecDepth 100000 in
theorem rx_oi39_0 : (((rx_code 39).drop 0).take 100000).all (rx_chkI 39) = true := by decide +kernel
set_option maxRecDepth 100000 in
theorem rx_oj39 : rx_chain (rx_code 39) = true := by decide +kernel
theorem rx_ok39 : rx_chain (rx_code 39) = true ∧ ∀ i ∈ rx_code 39, rx_chkI 39 i = true := by
  refine ⟨rx_oj39, fun i hi => ?_⟩
  refine List.all_eq_true.mp rx_oi39_0 i ?_
  rw [List.take_of_length_le (Nat.le_of_ble_eq_true rfl)]
  simpa using hi
set_option maxRecDepth 100000 in
theorem rx_oi40_0 : (((rx_code 40).drop 0).take 100000).all (rx_chkI 40) = true := by decide +kernel
set_option maxRecDepth 100000 in
theorem rx_oj40 : rx_chain (rx_code 40) = true := by decide +kernel
theorem rx_ok40 : rx_chain (rx_code 40) = true ∧ ∀ i ∈ rx_code 40, rx_chkI 40 i = true := by
  refine ⟨rx_oj40, fun i hi => ?_⟩
  refine List.all_eq_true.mp rx_oi40_0 i ?_
  rw [List.take_of_length_le (Nat.le_of_ble_eq_true rfl)]
  simpa using hi
set_option maxRecDepth 100000 in
theorem rx_oi41_0 : (((rx_code 41).drop 0).take 100000).all (rx_chkI 41) = true := by decide +kernel
set_option maxRecDepth 100000 in
theorem rx_oj41 : rx_chain (rx_code 41) = true := by decide +kernel
theorem rx_ok41 : rx_chain (rx_code 41) = true ∧ ∀ i ∈ rx_code 41, rx_chkI 41 i = true := by
  refine ⟨rx_oj41, fun i hi => ?_⟩
  refine List.all_eq_true.mp rx_oi41_0 i ?_
  rw [List.take_of_length_le (Nat.le_of_ble_eq_true rfl)]
  simpa using hi
set_option maxRecDepth 100000 in
theorem rx_oi42_0 : (((rx_code 42).drop 0).take 100000).all (rx_chkI 42) = true := by decide +kernel
set_option maxRecDepth 100000 in
theorem rx_oj42 : rx_chain (rx_code 42) = true := by decide +kernel
theorem rx_ok42 : rx_chain (rx_code 42) = true ∧ ∀ i ∈ rx_code 42, rx_chkI 42 i = true := by
  refine ⟨rx_oj42, fun i hi => ?_⟩
  refine List.all_eq_true.mp rx_oi42_0 i ?_
  rw [List.take_of_length_le (Nat.le_of_ble_eq_true rfl)]
  simpa using hi
set_option maxRecDepth 100000 in
theorem rx_oi43_0 : (((rx_code 43).drop 0).take 100000).all (rx_chkI 43) = true := by decide +kernel
set_option maxRecDepth 100000 in
theorem rx_oj43 : rx_chain (rx_code 43) = true := by decide +kernel
theorem rx_ok43 : rx_chain (rx_code 43) = true ∧ ∀ i ∈ rx_code 43, rx_chkI 43 i = true := by
  refine ⟨rx_oj43, fun i hi => ?_⟩
  refine List.all_eq_true.mp rx_oi43_0 i ?_
  rw [List.take_of_length_le (Nat.le_of_ble_eq_true rfl)]
  simpa using hi
set_option maxRecDepth 100000 in
theorem rx_oi44_0 : (((rx_code 44).drop 0).take 100000).all (rx_chkI 44) = true := by decide +kernel
set_option maxRecDepth 100000 in
theorem rx_oj44 : rx_chain (rx_code 44) = true := by decide +kernel
theorem rx_ok44 : rx_chain (rx_code 44) = true ∧ ∀ i ∈ rx_code 44, rx_chkI 44 i = true := by
  refine ⟨rx_oj44, fun i hi => ?_⟩
  refine List.all_eq_true.mp rx_oi44_0 i ?_
  rw [List.take_of_length_le (Nat.le_of_ble_eq_true rfl)]
  simpa using hi
set_option maxRecDepth 100000 in
theorem rx_oi45_0 : (((rx_code 45).drop 0).take 100000).all (rx_chkI 45) = true := by decide +kernel
set_option maxRecDepth 100000 in
theorem rx_oj45 : rx_chain (rx_code 45) = true := by decide +kernel
theorem rx_ok45 : rx_chain (rx_code 45) = true ∧ ∀ i ∈ rx_code 45, rx_chkI 45 i = true := by
  refine ⟨rx_oj45, fun i hi => ?_⟩
  refine List.all_eq_true.mp rx_oi45_0 i ?_
  rw [List.take_of_length_le (Nat.le_of_ble_eq_true rfl)]
  simpa using hi
set_option maxRecDepth 100000 in
theorem rx_oi46_0 : (((rx_code 46).drop 0).take 100000).all (rx_chkI 46) = true := by decide +kernel
set_option maxRecDepth 100000 in
theorem rx_oj46 : rx_chain (rx_code 46) = true := by decide +kernel
theorem rx_ok46 : rx_chain (rx_code 46) = true ∧ ∀ i ∈ rx_code 46, rx_chkI 46 i = true := by
  refine ⟨rx_oj46, fun i hi => ?_⟩
  refine List.all_eq_true.mp rx_oi46_0 i ?_
  rw [List.take_of_length_le (Nat.le_of_ble_eq_true rfl)]
  simpa using hi
set_option maxRecDepth 100000 in
theorem rx_oi47_0 : (((rx_code 47).drop 0).take 100000).all (rx_chkI 47) = true := by decide +kernel
set_option maxRecDepth 100000 in
theorem rx_oj47 : rx_chain (rx_code 47) = true := by decide +kernel
theorem rx_ok47 : rx_chain (rx_code 47) = true ∧ ∀ i ∈ rx_code 47, rx_chkI 47 i = true := by
  refine ⟨rx_oj47, fun i hi => ?_⟩
  refine List.all_eq_true.mp rx_oi47_0 i ?_
  rw [List.take_of_length_le (Nat.le_of_ble_eq_true rfl)]
  simpa using hi
set_option maxRecDepth 100000 in
theorem rx_oi48_0 : (((rx_code 48).drop 0).take 100000).all (rx_chkI 48) = true := by decide +kernel
set_option maxRecDepth 100000 in
theorem rx_oj48 : rx_chain (rx_code 48) = true := by decide +kernel
theorem rx_ok48 : rx_chain (rx_code 48) = true ∧ ∀ i ∈ rx_code 48, rx_chkI 48 i = true := by
  refine ⟨rx_oj48, fun i hi => ?_⟩
  refine List.all_eq_true.mp rx_oi48_0 i ?_
  rw [List.take_of_length_le (Nat.le_of_ble_eq_true rfl)]
  simpa using hi
set_option maxRecDepth 100000 in
theorem rx_oi49_0 : (((rx_code 49).drop 0).take 100000).all (rx_chkI 49) = true := by decide +kernel
set_option maxRecDepth 100000 in
theorem rx_oj49 : rx_chain (rx_code 49) = true := by decide +kernel
theorem rx_ok49 : rx_chain (rx_code 49) = true ∧ ∀ i ∈ rx_code 49, rx_chkI 49 i = true := by
  refine ⟨rx_oj49, fun i hi => ?_⟩
  refine List.all_eq_true.mp rx_oi49_0 i ?_
  rw [List.take_of_length_le (Nat.le_of_ble_eq_true rfl)]
  simpa using hi
set_option maxRecDepth 100000 in
theorem rx_oi50_0 : (((rx_code 50).drop 0).take 100000).all (rx_chkI 50) = true := by decide +kernel
set_option maxRecDepth 100000 in
theorem rx_oj50 : rx_chain (rx_code 50) = true := by decide +kernel
theorem rx_ok50 : rx_chain (rx_code 50) = true ∧ ∀ i ∈ rx_code 50, rx_chkI 50 i = true := by
  refine ⟨rx_oj50, fun i hi => ?_⟩
  refine List.all_eq_true.mp rx_oi50_0 i ?_
  rw [List.take_of_length_le (Nat.le_of_ble_eq_true rfl)]
  simpa using hi
set_option maxRecDepth 100000 in
theorem rx_oi51_0 : (((rx_code 51).drop 0).take 100000).all (rx_chkI 51) = true := by decide +kernel
set_option maxRecDepth 100000 in
theorem rx_oj51 : rx_chain (rx_code 51) = true := by decide +kernel
theorem rx_ok51 : rx_chain (rx_code 51) = true ∧ ∀ i ∈ rx_code 51, rx_chkI 51 i = true := by
  refine ⟨rx_oj51, fun i hi => ?_⟩
  refine List.all_eq_true.mp rx_oi51_0 i ?_
  rw [List.take_of_length_le (Nat.le_of_ble_eq_true rfl)]
  simpa using hi
set_option maxRecDepth 100000 in
theorem rx_oi52_0 : (((rx_code 52).drop 0).take 100000).all (rx_chkI 52) = true := by decide +kernel
set_option maxRecDepth 100000 in
theorem rx_oj52 : rx_chain (rx_code 52) = true := by decide +kernel
theorem rx_ok52 : rx_chain (rx_code 52) = true ∧ ∀ i ∈ rx_code 52, rx_chkI 52 i = true := by
  refine ⟨rx_oj52, fun i hi => ?_⟩
  refine List.all_eq_true.mp rx_oi52_0 i ?_
  rw [List.take_of_length_le (Nat.le_of_ble_eq_true rfl)]
  simpa using hi
set_option maxRecDepth 100000 in
theorem rx_oi53_0 : (((rx_code 53).drop 0).take 100000).all (rx_chkI 53) = true := by decide +kernel
set_option maxRecDepth 100000 in
theorem rx_oj53 : rx_chain (rx_code 53) = true := by decide +kernel
theorem rx_ok53 : rx_chain (rx_code 53) = true ∧ ∀ i ∈ rx_code 53, rx_chkI 53 i = true := by
  refine ⟨rx_oj53, fun i hi => ?_⟩
  refine List.all_eq_true.mp rx_oi53_0 i ?_
  rw [List.take_of_length_le (Nat.le_of_ble_eq_true rfl)]
  simpa using hi
set_option maxRecDepth 100000 in
theorem rx_oi54_0 : (((rx_code 54).drop 0).take 100000).all (rx_chkI 54) = true := by decide +kernel
set_option maxRecDepth 100000 in
theorem rx_oj54 : rx_chain (rx_code 54) = true := by decide +kernel
theorem rx_ok54 : rx_chain (rx_code 54) = true ∧ ∀ i ∈ rx_code 54, rx_chkI 54 i = true := by
  refine ⟨rx_oj54, fun i hi => ?_⟩
  refine List.all_eq_true.mp rx_oi54_0 i ?_
  rw [List.take_of_length_le (Nat.le_of_ble_eq_true rfl)]
  simpa using hi
set_option maxRecDepth 100000 in
theorem rx_oi55_0 : (((rx_code 55).drop 0).take 100000).all (rx_chkI 55) = true := by decide +kernel
set_option maxRecDepth 100000 in
theorem rx_oj55 : rx_chain (rx_code 55) = true := by decide +kernel
theorem rx_ok55 : rx_chain (rx_code 55) = true ∧ ∀ i ∈ rx_code 55, rx_chkI 55 i = true := by
  refine ⟨rx_oj55, fun i hi => ?_⟩
  refine List.all_eq_true.mp rx_oi55_0 i ?_
  rw [List.take_of_length_le (Nat.le_of_ble_eq_true rfl)]
  simpa using hi
set_option maxRecDepth 100000 in
theorem rx_oi56_0 : (((rx_code 56).drop 0).take 100000).all (rx_chkI 56) = true := by decide +kernel
set_option maxRecDepth 100000 in
theorem rx_oj56 : rx_chain (rx_code 56) = true := by decide +kernel
theorem rx_ok56 : rx_chain (rx_code 56) = true ∧ ∀ i ∈ rx_code 56, rx_chkI 56 i = true := by
  refine ⟨rx_oj56, fun i hi => ?_⟩
  refine List.all_eq_true.mp rx_oi56_0 i ?_
  rw [List.take_of_length_le (Nat.le_of_ble_eq_true rfl)]
  simpa using hi
set_option maxRecDepth 100000 in
theorem rx_oi57_0 : (((rx_code 57).drop 0).take 100000).all (rx_chkI 57) = true := by decide +kernel
set_option maxRecDepth 100000 in
theorem rx_oj57 : rx_chain (rx_code 57) = true := by decide +kernel
theorem rx_ok57 : rx_chain (rx_code 57) = true ∧ ∀ i ∈ rx_code 57, rx_chkI 57 i = true := by
  refine ⟨rx_oj57, fun i hi => ?_⟩
  refine List.all_eq_true.mp rx_oi57_0 i ?_
  rw [List.take_of_length_le (Nat.le_of_ble_eq_true rfl)]
  simpa using hi
set_option maxRecDepth 100000 in
theorem rx_oi58_0 : (((rx_code 58).drop 0).take 100000).all (rx_chkI 58) = true := by decide +kernel
set_option maxRecDepth 100000 in
theorem rx_oj58 : rx_chain (rx_code 58) = true := by decide +kernel
theorem rx_ok58 : rx_chain (rx_code 58) = true ∧ ∀ i ∈ rx_code 58, rx_chkI 58 i = true := by
  refine ⟨rx_oj58, fun i hi => ?_⟩
  refine List.all_eq_true.mp rx_oi58_0 i ?_
  rw [List.take_of_length_le (Nat.le_of_ble_eq_true rfl)]
  simpa using hi
set_option maxRecDepth 100000 in
theorem rx_oi59_0 : (((rx_code 59).drop 0).take 100000).all (rx_chkI 59) = true := by decide +kernel
set_option maxRecDepth 100000 in
theorem rx_oj59 : rx_chain (rx_code 59) = true := by decide +kernel
theorem rx_ok59 : rx_chain (rx_code 59) = true ∧ ∀ i ∈ rx_code 59, rx_chkI 59 i = true := by
  refine ⟨rx_oj59, fun i hi => ?_⟩
  refine List.all_eq_true.mp rx_oi59_0 i ?_
  rw [List.take_of_length_le (Nat.le_of_ble_eq_true rfl)]
  simpa using hi
set_option maxRecDepth 100000 in
theorem rx_oi60_0 : (((rx_code 60).drop 0).take 100000).all (rx_chkI 60) = true := by decide +kernel
set_option maxRecDepth 100000 in
theorem rx_oj60 : rx_chain (rx_code 60) = true := by decide +kernel
theorem rx_ok60 : rx_chain (rx_code 60) = true ∧ ∀ i ∈ rx_code 60, rx_chkI 60 i = true := by
  refine ⟨rx_oj60, fun i hi => ?_⟩
  refine List.all_eq_true.mp rx_oi60_0 i ?_
  rw [List.take_of_length_le (Nat.le_of_ble_eq_true rfl)]
  simpa using hi
set_option maxRecDepth 100000 in
theorem rx_oi61_0 : (((rx_code 61).drop 0).take 100000).all (rx_chkI 61) = true := by decide +kernel
set_option maxRecDepth 100000 in
theorem rx_oj61 : rx_chain (rx_code 61) = true := by decide +kernel
theorem rx_ok61 : rx_chain (rx_code 61) = true ∧ ∀ i ∈ rx_code 61, rx_chkI 61 i = true := by
  refine ⟨rx_oj61, fun i hi => ?_⟩
  refine List.all_eq_true.mp rx_oi61_0 i ?_
  rw [List.take_of_length_le (Nat.le_of_ble_eq_true rfl)]
  simpa using hi
set_option maxRecDepth 100000 in
theorem rx_oi62_0 : (((rx_code 62).drop 0).take 100000).all (rx_chkI 62) = true := by decide +kernel
set_option maxRecDepth 100000 in
theorem rx_oj62 : rx_chain (rx_code 62) = true := by decide +kernel
theorem rx_ok62 : rx_chain (rx_code 62) = true ∧ ∀ i ∈ rx_code 62, rx_chkI 62 i = true := by
  refine ⟨rx_oj62, fun i hi => ?_⟩
  refine List.all_eq_true.mp rx_oi62_0 i ?_
  rw [List.take_of_length_le (Nat.le_of_ble_eq_true rfl)]
  simpa using hi
set_option maxRecDepth 100000 in
theorem rx_oi63_0 : (((rx_code 63).drop 0).take 100000).all (rx_chkI 63) = true := by decide +kernel
set_option maxRecDepth 100000 in
theorem rx_oj63 : rx_chain (rx_code 63) = true := by decide +kernel
theorem rx_ok63 : rx_chain (rx_code 63) = true ∧ ∀ i ∈ rx_code 63, rx_chkI 63 i = true := by
  refine ⟨rx_oj63, fun i hi => ?_⟩
  refine List.all_eq_true.mp rx_oi63_0 i ?_
  rw [List.take_of_length_le (Nat.le_of_ble_eq_true rfl)]
  simpa using hi
set_option maxRecDepth 100000 in
theorem rx_oi64_0 : (((rx_code 64).drop 0).take 100000).all (rx_chkI 64) = true := by decide +kernel
set_option maxRecDepth 100000 in
theorem rx_oj64 : rx_chain (rx_code 64) = true := by decide +kernel
theorem rx_ok64 : rx_chain (rx_code 64) = true ∧ ∀ i ∈ rx_code 64, rx_chkI 64 i = true := by
  refine ⟨rx_oj64, fun i hi => ?_⟩
  refine List.all_eq_true.mp rx_oi64_0 i ?_
  rw [List.take_of_length_le (Nat.le_of_ble_eq_true rfl)]
  simpa using hi
