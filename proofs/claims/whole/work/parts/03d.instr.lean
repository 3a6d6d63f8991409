set_option maxRecDepth 100000 in
theorem rx_oi65_0 : (((rx_code 65).drop 0).take 120).all (rx_chkI 65) = true := by decide +kernel
set_option maxRecDepth 100000 in
theorem rx_oi65_1 : (((rx_code 65).drop 120).take 100000).all (rx_chkI 65) = true := by decide +kernel
set_option maxRecDepth 100000 in
theorem rx_oj65 : rx_chain (rx_code 65) = true := by decide +kernel
theorem rx_ok65 : rx_chain (rx_code 65) = true ∧ ∀ i ∈ rx_code 65, rx_chkI 65 i = true := by
  refine ⟨rx_oj65, fun i hi => ?_⟩
  by_cases h0 : i ∈ ((rx_code 65).drop 0).take 120
  · exact List.all_eq_true.mp rx_oi65_0 i h0
  replace hi : i ∈ ((rx_code 65).drop 0).drop 120 := by
    have h := List.take_append_drop 120 ((rx_code 65).drop 0)
    rw [List.drop_zero] at h h0 ⊢; rw [← h] at hi
    exact (List.mem_append.mp hi).resolve_left h0
  rw [List.drop_drop] at hi
  refine List.all_eq_true.mp rx_oi65_1 i ?_
  rw [List.take_of_length_le (Nat.le_of_ble_eq_true rfl)]
  simpa using hi
set_option maxRecDepth 100000 in
theorem rx_oi66_0 : (((rx_code 66).drop 0).take 100000).all (rx_chkI 66) = true := by decide +kernel
set_option maxRecDepth 100000 in
theorem rx_oj66 : rx_chain (rx_code 66) = true := by decide +kernel
theorem rx_ok66 : rx_chain (rx_code 66) = true ∧ ∀ i ∈ rx_code 66, rx_chkI 66 i = true := by
  refine ⟨rx_oj66, fun i hi => ?_⟩
  refine List.all_eq_true.mp rx_oi66_0 i ?_
  rw [List.take_of_length_le (Nat.le_of_ble_eq_true rfl)]
  simpa using hi
set_option maxRecDepth 100000 in
theorem rx_oi67_0 : (((rx_code 67).drop 0).take 100000).all (rx_chkI 67) = true := by decide +kernel
set_option maxRecDepth 100000 in
theorem rx_oj67 : rx_chain (rx_code 67) = true := by decide +kernel
theorem rx_ok67 : rx_chain (rx_code 67) = true ∧ ∀ i ∈ rx_code 67, rx_chkI 67 i = true := by
  refine ⟨rx_oj67, fun i hi => ?_⟩
  refine List.all_eq_true.mp rx_oi67_0 i ?_
  rw [List.take_of_length_le (Nat.le_of_ble_eq_true rfl)]
  simpa using hi
set_option maxRecDepth 100000 in
theorem rx_oi68_0 : (((rx_code 68).drop 0).take 100000).all (rx_chkI 68) = true := by decide +kernel
set_option maxRecDepth 100000 in
theorem rx_oj68 : rx_chain (rx_code 68) = true := by decide +kernel
theorem rx_ok68 : rx_chain (rx_code 68) = true ∧ ∀ i ∈ rx_code 68, rx_chkI 68 i = true := by
  refine ⟨rx_oj68, fun i hi => ?_⟩
  refine List.all_eq_true.mp rx_oi68_0 i ?_
  rw [List.take_of_length_le (Nat.le_of_ble_eq_true rfl)]
  simpa using hi
set_option maxRecDepth 100000 in
theorem rx_oi69_0 : (((rx_code 69).drop 0).take 100000).all (rx_chkI 69) = true := by decide +kernel
set_option maxRecDepth 100000 in
theorem rx_oj69 : rx_chain (rx_code 69) = true := by decide +kernel
theorem rx_ok69 : rx_chain (rx_code 69) = true ∧ ∀ i ∈ rx_code 69, rx_chkI 69 i = true := by
  refine ⟨rx_oj69, fun i hi => ?_⟩
  refine List.all_eq_true.mp rx_oi69_0 i ?_
  rw [List.take_of_length_le (Nat.le_of_ble_eq_true rfl)]
  simpa using hi
set_option maxRecDepth 100000 in
theorem rx_oi70_0 : (((rx_code 70).drop 0).take 100000).all (rx_chkI 70) = true := by decide +kernel
set_option maxRecDepth 100000 in
theorem rx_oj70 : rx_chain (rx_code 70) = true := by decide +kernel
theorem rx_ok70 : rx_chain (rx_code 70) = true ∧ ∀ i ∈ rx_code 70, rx_chkI 70 i = true := by
  refine ⟨rx_oj70, fun i hi => ?_⟩
  refine List.all_eq_true.mp rx_oi70_0 i ?_
  rw [List.take_of_length_le (Nat.le_of_ble_eq_true rfl)]
  simpa using hi
set_option maxRecDepth 100000 in
theorem rx_oi71_0 : (((rx_code 71).drop 0).take 100000).all (rx_chkI 71) = true := by decide +kernel
set_option maxRecDepth 100000 in
theorem rx_oj71 : rx_chain (rx_code 71) = true := by decide +kernel
theorem rx_ok71 : rx_chain (rx_code 71) = true ∧ ∀ i ∈ rx_code 71, rx_chkI 71 i = true := by
  refine ⟨rx_oj71, fun i hi => ?_⟩
  refine List.all_eq_true.mp rx_oi71_0 i ?_
  rw [List.take_of_length_le (Nat.le_of_ble_eq_true rfl)]
  simpa using hi
set_option maxRecDepth 100000 in
theorem rx_oi72_0 : (((rx_code 72).drop 0).take 100000).all (rx_chkI 72) = true := by decide +kernel
set_option maxRecDepth 100000 in
theorem rx_oj72 : rx_chain (rx_code 72) = true := by decide +kernel
theorem rx_ok72 : rx_chain (rx_code 72) = true ∧ ∀ i ∈ rx_code 72, rx_chkI 72 i = true := by
  refine ⟨rx_oj72, fun i hi => ?_⟩
  refine List.all_eq_true.mp rx_oi72_0 i ?_
  rw [List.take_of_length_le (Nat.le_of_ble_eq_true rfl)]
  simpa using hi
set_option maxRecDepth 100000 in
theorem rx_oi73_0 : (((rx_code 73).drop 0).take 100000).all (rx_chkI 73) = true := by decide +kernel
set_option maxRecDepth 100000 in
theorem rx_oj73 : rx_chain (rx_code 73) = true := by decide +kernel
theorem rx_ok73 : rx_chain (rx_code 73) = true ∧ ∀ i ∈ rx_code 73, rx_chkI 73 i = true := by
  refine ⟨rx_oj73, fun i hi => ?_⟩
  refine List.all_eq_true.mp rx_oi73_0 i ?_
  rw [List.take_of_length_le (Nat.le_of_ble_eq_true rfl)]
  simpa using hi
set_option maxRecDepth 100000 in
theorem rx_oi74_0 : (((rx_code 74).drop 0).take 100000).all (rx_chkI 74) = true := by decide +kernel
set_option maxRecDepth 100000 in
theorem rx_oj74 : rx_chain (rx_code 74) = true := by decide +kernel
theorem rx_ok74 : rx_chain (rx_code 74) = true ∧ ∀ i ∈ rx_code 74, rx_chkI 74 i = true := by
  refine ⟨rx_oj74, fun i hi => ?_⟩
  refine List.all_eq_true.mp rx_oi74_0 i ?_
  rw [List.take_of_length_le (Nat.le_of_ble_eq_true rfl)]
  simpa using hi
set_option maxRecDepth 100000 in
theorem rx_oi75_0 : (((rx_code 75).drop 0).take 100000).all (rx_chkI 75) = true := by decide +kernel
set_option maxRecDepth 100000 in
theorem rx_oj75 : rx_chain (rx_code 75) = true := by decide +kernel
theorem rx_ok75 : rx_chain (rx_code 75) = true ∧ ∀ i ∈ rx_code 75, rx_chkI 75 i = true := by
  refine ⟨rx_oj75, fun i hi => ?_⟩
  refine List.all_eq_true.mp rx_oi75_0 i ?_
  rw [List.take_of_length_le (Nat.le_of_ble_eq_true rfl)]
  simpa using hi
set_option maxRecDepth 100000 in
theorem rx_oi76_0 : (((rx_code 76).drop 0).take 100000).all (rx_chkI 76) = true := by decide +kernel
set_option maxRecDepth 100000 in
theorem rx_oj76 : rx_chain (rx_code 76) = true := by decide +kernel
theorem rx_ok76 : rx_chain (rx_code 76) = true ∧ ∀ i ∈ rx_code 76, rx_chkI 76 i = true := by
  refine ⟨rx_oj76, fun i hi => ?_⟩
  refine List.all_eq_true.mp rx_oi76_0 i ?_
  rw [List.take_of_length_le (Nat.le_of_ble_eq_true rfl)]
  simpa using hi
set_option maxRecDepth 100000 in
theorem rx_oi77_0 : (((rx_code 77).drop 0).take 100000).all (rx_chkI 77) = true := by decide +kernel
set_option maxRecDepth 100000 in
theorem rx_oj77 : rx_chain (rx_code 77) = true := by decide +kernel
theorem rx_ok77 : rx_chain (rx_code 77) = true ∧ ∀ i ∈ rx_code 77, rx_chkI 77 i = true := by
  refine ⟨rx_oj77, fun i hi => ?_⟩
  refine List.all_eq_true.mp rx_oi77_0 i ?_
  rw [List.take_of_length_le (Nat.le_of_ble_eq_true rfl)]
  simpa using hi
set_option maxRecDepth 100000 in
theorem rx_oi78_0 : (((rx_code 78).drop 0).take 100000).all (rx_chkI 78) = true := by decide +kernel
set_option maxRecDepth 100000 in
theorem rx_oj78 : rx_chain (rx_code 78) = true := by decide +kernel
theorem rx_ok78 : rx_chain (rx_code 78) = true ∧ ∀ i ∈ rx_code 78, rx_chkI 78 i = true := by
  refine ⟨rx_oj78, fun i hi => ?_⟩
  refine List.all_eq_true.mp rx_oi78_0 i ?_
  rw [List.take_of_length_le (Nat.le_of_ble_eq_true rfl)]
  simpa using hi
set_option maxRecDepth 100000 in
theorem rx_oi79_0 : (((rx_code 79).drop 0).take 100000).all (rx_chkI 79) = true := by decide +kernel
set_option maxRecDepth 100000 in
theorem rx_oj79 : rx_chain (rx_code 79) = true := by decide +kernel
theorem rx_ok79 : rx_chain (rx_code 79) = true ∧ ∀ i ∈ rx_code 79, rx_chkI 79 i = true := by
  refine ⟨rx_oj79, fun i hi => ?_⟩
  refine List.all_eq_true.mp rx_oi79_0 i ?_
  rw [List.take_of_length_le (Nat.le_of_ble_eq_true rfl)]
  simpa using hi
set_option maxRecDepth 100000 in
theorem rx_oi80_0 : (((rx_code 80).drop 0).take 100000).all (rx_chkI 80) = true := by decide +kernel
set_option maxRecDepth 100000 in
theorem rx_oj80 : rx_chain (rx_code 80) = true := by decide +kernel
theorem rx_ok80 : rx_chain (rx_code 80) = true ∧ ∀ i ∈ rx_code 80, rx_chkI 80 i = true := by
  refine ⟨rx_oj80, fun i hi => ?_⟩
  refine List.all_eq_true.mp rx_oi80_0 i ?_
  rw [List.take_of_length_le (Nat.le_of_ble_eq_true rfl)]
  simpa using hi
set_option maxRecDepth 100000 in
theorem rx_oi81_0 : (((rx_code 81).drop 0).take 100000).all (rx_chkI 81) = true := by decide +kernel
set_option maxRecDepth 100000 in
theorem rx_oj81 : rx_chain (rx_code 81) = true := by decide +kernel
theorem rx_ok81 : rx_chain (rx_code 81) = true ∧ ∀ i ∈ rx_code 81, rx_chkI 81 i = true := by
  refine ⟨rx_oj81, fun i hi => ?_⟩
  refine List.all_eq_true.mp rx_oi81_0 i ?_
  rw [List.take_of_length_le (Nat.le_of_ble_eq_true rfl)]
  simpa using hi
set_option maxRecDepth 100000 in
theorem rx_oi82_0 : (((rx_code 82).drop 0).take 100000).all (rx_chkI 82) = true := by decide +kernel
set_option maxRecDepth 100000 in
theorem rx_oj82 : rx_chain (rx_code 82) = true := by decide +kernel
theorem rx_ok82 : rx_chain (rx_code 82) = true ∧ ∀ i ∈ rx_code 82, rx_chkI 82 i = true := by
  refine ⟨rx_oj82, fun i hi => ?_⟩
  refine List.all_eq_true.mp rx_oi82_0 i ?_
  rw [List.take_of_length_le (Nat.le_of_ble_eq_true rfl)]
  simpa using hi
set_option maxRecDepth 100000 in
theorem rx_oi83_0 : (((rx_code 83).drop 0).take 100000).all (rx_chkI 83) = true := by decide +kernel
set_option maxRecDepth 100000 in
theorem rx_oj83 : rx_chain (rx_code 83) = true := by decide +kernel
theorem rx_ok83 : rx_chain (rx_code 83) = true ∧ ∀ i ∈ rx_code 83, rx_chkI 83 i = true := by
  refine ⟨rx_oj83, fun i hi => ?_⟩
  refine List.all_eq_true.mp rx_oi83_0 i ?_
  rw [List.take_of_length_le (Nat.le_of_ble_eq_true rfl)]
  simpa using hi
set_option maxRecDepth 100000 in
theorem rx_oi84_0 : (((rx_code 84).drop 0).take 100000).all (rx_chkI 84) = true := by decide +kernel
set_option maxRecDepth 100000 in
theorem rx_oj84 : rx_chain (rx_code 84) = true := by decide +kernel
theorem rx_ok84 : rx_chain (rx_code 84) = true ∧ ∀ i ∈ rx_code 84, rx_chkI 84 i = true := by
  refine ⟨rx_oj84, fun i hi => ?_⟩
  refine List.all_eq_true.mp rx_oi84_0 i ?_
  rw [List.take_of_length_le (Nat.le_of_ble_eq_true rfl)]
  simpa using hi
set_option maxRecDepth 100000 in
theorem rx_oi85_0 : (((rx_code 85).drop 0).take 100000).all (rx_chkI 85) = true := by decide +kernel
set_option maxRecDepth 100000 in
theorem rx_oj85 : rx_chain (rx_code 85) = true := by decide +kernel
theorem rx_ok85 : rx_chain (rx_code 85) = true ∧ ∀ i ∈ rx_code 85, rx_chkI 85 i = true := by
  refine ⟨rx_oj85, fun i hi => ?_⟩
  refine List.all_eq_true.mp rx_oi85_0 i ?_
  rw [List.take_of_length_le (Nat.le_of_ble_eq_true rfl)]
  simpa using hi
set_option maxRecDepth 100000 in
theorem rx_oi86_0 : (((rx_code 86).drop 0).take 100000).all (rx_chkI 86) = true := by decide +kernel
set_option maxRecDepth 100000 in
theorem rx_oj86 : rx_chain (rx_code 86) = true := by decide +kernel
theorem rx_ok86 : rx_chain (rx_code 86) = true ∧ ∀ i ∈ rx_code 86, rx_chkI 86 i = true := by
  refine ⟨rx_oj86, fun i hi => ?_⟩
  refine List.all_eq_true.mp rx_oi86_0 i ?_
  rw [List.take_of_length_le (Nat.le_of_ble_eq_true rfl)]
  simpa using hi
set_option maxRecDepth 100000 in
theorem rx_oi87_0 : (((rx_code 87).drop 0).take 100000).all (rx_chkI 87) = true := by decide +kernel
set_option maxRecDepth 100000 in
theorem rx_oj87 : rx_chain (rx_code 87) = true := by decide +kernel
theorem rx_ok87 : rx_chain (rx_code 87) = true ∧ ∀ i ∈ rx_code 87, rx_chkI 87 i = true := by
  refine ⟨rx_oj87, fun i hi => ?_⟩
  refine List.all_eq_true.mp rx_oi87_0 i ?_
  rw [List.take_of_length_le (Nat.le_of_ble_eq_true rfl)]
  simpa using hi
set_option maxRecDepth 100000 in
theorem rx_oi88_0 : (((rx_code 88).drop 0).take 100000).all (rx_chkI 88) = true := by decide +kernel
set_option maxRecDepth 100000 in
theorem rx_oj88 : rx_chain (rx_code 88) = true := by decide +kernel
theorem rx_ok88 : rx_chain (rx_code 88) = true ∧ ∀ i ∈ rx_code 88, rx_chkI 88 i = true := by
  refine ⟨rx_oj88, fun i hi => ?_⟩
  refine List.all_eq_true.mp rx_oi88_0 i ?_
  rw [List.take_of_length_le (Nat.le_of_ble_eq_true rfl)]
  simpa using hi
set_option maxRecDepth 100000 in
theorem rx_oi89_0 : (((rx_code 89).drop 0).take 100000).all (rx_chkI 89) = true := by decide +kernel
set_option maxRecDepth 100000 in
theorem rx_oj89 : rx_chain (rx_code 89) = true := by decide +kernel
theorem rx_ok89 : rx_chain (rx_code 89) = true ∧ ∀ i ∈ rx_code 89, rx_chkI 89 i = true := by
  refine ⟨rx_oj89, fun i hi => ?_⟩
  refine List.all_eq_true.mp rx_oi89_0 i ?_
  rw [List.take_of_length_le (Nat.le_of_ble_eq_true rfl)]
  simpa using hi
set_option maxRecDepth 100000 in
theorem rx_oi90_0 : (((rx_code 90).drop 0).take 100000).all (rx_chkI 90) = true := by decide +kernel
set_option maxRecDepth 100000 in
theorem rx_oj90 : rx_chain (rx_code 90) = true := by decide +kernel
theorem rx_ok90 : rx_chain (rx_code 90) = true ∧ ∀ i ∈ rx_code 90, rx_chkI 90 i = true := by
  refine ⟨rx_oj90, fun i hi => ?_⟩
  refine List.all_eq_true.mp rx_oi90_0 i ?_
  rw [List.take_of_length_le (Nat.le_of_ble_eq_true rfl)]
  simpa using hi
set_option maxRecDepth 100000 in
theorem rx_oi91_0 : (((rx_code 91).drop 0).take 100000).all (rx_chkI 91) = true := by decide +kernel
set_option maxRecDepth 100000 in
theorem rx_oj91 : rx_chain (rx_code 91) = true := by decide +kernel
theorem rx_ok91 : rx_chain (rx_code 91) = true ∧ ∀ i ∈ rx_code 91, rx_chkI 91 i = true := by
  refine ⟨rx_oj91, fun i hi => ?_⟩
  refine List.all_eq_true.mp rx_oi91_0 i ?_
  rw [List.take_of_length_le (Nat.le_of_ble_eq_true rfl)]
  simpa using hi
set_option maxRecDepth 100000 in
theorem rx_oi92_0 : (((rx_code 92).drop 0).take 100000).all (rx_chkI 92) = true := by decide +kernel
set_option maxRecDepth 100000 in
theorem rx_oj92 : rx_chain (rx_code 92) = true := by decide +kernel
theorem rx_ok92 : rx_chain (rx_code 92) = true ∧ ∀ i ∈ rx_code 92, rx_chkI 92 i = true := by
  refine ⟨rx_oj92, fun i hi => ?_⟩
  refine List.all_eq_true.mp rx_oi92_0 i ?_
  rw [List.take_of_length_le (Nat.le_of_ble_eq_true rfl)]
  simpa using hi
set_option maxRecDepth 100000 in
theorem rx_oi93_0 : (((rx_code 93).drop 0).take 100000).all (rx_chkI 93) = true := by decide +kernel
set_option maxRecDepth 100000 in
theorem rx_oj93 : rx_chain (rx_code 93) = true := by decide +kernel
theorem rx_ok93 : rx_chain (rx_code 93) = true ∧ ∀ i ∈ rx_code 93, rx_chkI 93 i = true := by
  refine ⟨rx_oj93, fun i hi => ?_⟩
  refine List.all_eq_true.mp rx_oi93_0 i ?_
  rw [List.take_of_length_le (Nat.le_of_ble_eq_true rfl)]
  simpa using hi
set_option maxRecDepth 100000 in
theorem rx_oi94_0 : (((rx_code 94).drop 0).take 100000).all (rx_chkI 94) = true := by decide +kernel
set_option maxRecDepth 100000 in
theorem rx_oj94 : rx_chain (rx_code 94) = true := by decide +kernel
theorem rx_ok94 : rx_chain (rx_code 94) = true ∧ ∀ i ∈ rx_code 94, rx_chkI 94 i = true := by
  refine ⟨rx_oj94, fun i hi => ?_⟩
  refine List.all_eq_true.mp rx_oi94_0 i ?_
  rw [List.take_of_length_le (Nat.le_of_ble_eq_true rfl)]
  simpa using hi
set_option maxRecDepth 100000 in
theorem rx_oi95_0 : (((rx_code 95).drop 0).take 100000).all (rx_chkI 95) = true := by decide +kernel
set_option maxRecDepth 100000 in
theorem rx_oj95 : rx_chain (rx_code 95) = true := by decide +kernel
theorem rx_ok95 : rx_chain (rx_code 95) = true ∧ ∀ i ∈ rx_code 95, rx_chkI 95 i = true := by
  refine ⟨rx_oj95, fun i hi => ?_⟩
  refine List.all_eq_true.mp rx_oi95_0 i ?_
  rw [List.take_of_length_le (Nat.le_of_ble_eq_true rfl)]
  simpa using hi
set_option maxRecDepth 100000 in
theorem rx_oi96_0 : (((rx_code 96).drop 0).take 100000).all (rx_chkI 96) = true := by decide +kernel
set_option maxRecDepth 100000 in
theorem rx_oj96 : rx_chain (rx_code 96) = true := by decide +kernel
theorem rx_ok96 : rx_chain (rx_code 96) = true ∧ ∀ i ∈ rx_code 96, rx_chkI 96 i = true := by
  refine ⟨rx_oj96, fun i hi => ?_⟩
  refine List.all_eq_true.mp rx_oi96_0 i ?_
  rw [List.take_of_length_le (Nat.le_of_ble_eq_true rfl)]
  simpa using hi
set_option maxRecDepth 100000 in
theorem rx_oi97_0 : (((rx_code 97).drop 0).take 100000).all (rx_chkI 97) = true := by decide +kernel
set_option maxRecDepth 100000 in
theorem rx_oj97 : rx_chain (rx_code 97) = true := by decide +kernel
theorem rx_ok97 : rx_chain (rx_code 97) = true ∧ ∀ i ∈ rx_code 97, rx_chkI 97 i = true := by
  refine ⟨rx_oj97, fun i hi => ?_⟩
  refine List.all_eq_true.mp rx_oi97_0 i ?_
  rw [List.take_of_length_le (Nat.le_of_ble_eq_true rfl)]
  simpa using hi
set_option maxRecDepth 100000 in
theorem rx_oi98_0 : (((rx_code 98).drop 0).take 100000).all (rx_chkI 98) = true := by decide +kernel
set_option maxRecDepth 100000 in
theorem rx_oj98 : rx_chain (rx_code 98) = true := by decide +kernel
theorem rx_ok98 : rx_chain (rx_code 98) = true ∧ ∀ i ∈ rx_code 98, rx_chkI 98 i = true := by
  refine ⟨rx_oj98, fun i hi => ?_⟩
  refine List.all_eq_true.mp rx_oi98_0 i ?_
  rw [List.take_of_length_le (Nat.le_of_ble_eq_true rfl)]
  simpa using hi
set_option maxRecDepth 100000 in
theorem rx_oi99_0 : (((rx_code 99).drop 0).take 100000).all (rx_chkI 99) = true := by decide +kernel
set_option maxRecDepth 100000 in
theorem rx_oj99 : rx_chain (rx_code 99) = true := by decide +kernel
theorem rx_ok99 : rx_chain (rx_code 99) = true ∧ ∀ i ∈ rx_code 99, rx_chkI 99 i = true := by
  refine ⟨rx_oj99, fun i hi => ?_⟩
  refine List.all_eq_true.mp rx_oi99_0 i ?_
  rw [List.take_of_length_le (Nat.le_of_ble_eq_true rfl)]
  simpa using hi
set_option maxRecDepth 100000 in
theorem rx_oi100_0 : (((rx_code 100).drop 0).take 100000).all (rx_chkI 100) = true := by decide +kernel
set_option maxRecDepth 100000 in
theorem rx_oj100 : rx_chain (rx_code 100) = true := by decide +kernel
theorem rx_ok100 : rx_chain (rx_code 100) = true ∧ ∀ i ∈ rx_code 100, rx_chkI 100 i = true := by
  refine ⟨rx_oj100, fun i hi => ?_⟩
  refine List.all_eq_true.mp rx_oi100_0 i ?_
  rw [List.take_of_length_le (Nat.le_of_ble_eq_true rfl)]
  simpa using hi
set_option maxRecDepth 100000 in
theorem rx_oi101_0 : (((rx_code 101).drop 0).take 100000).all (rx_chkI 101) = true := by decide +kernel
set_option maxRecDepth 100000 in
theorem rx_oj101 : rx_chain (rx_code 101) = true := by decide +kernel
theorem rx_ok101 : rx_chain (rx_code 101) = true ∧ ∀ i ∈ rx_code 101, rx_chkI 101 i = true := by
  refine ⟨rx_oj101, fun i hi => ?_⟩
  refine List.all_eq_true.mp rx_oi101_0 i ?_
  rw [List.take_of_length_le (Nat.le_of_ble_eq_true rfl)]
  simpa using hi
set_option maxRecDepth 100000 in
theorem rx_oi102_0 : (((rx_code 102).drop 0).take 100000).all (rx_chkI 102) = true := by decide +kernel
set_option maxRecDepth 100000 in
theorem rx_oj102 : rx_chain (rx_code 102) = true := by decide +kernel
theorem rx_ok102 : rx_chain (rx_code 102) = true ∧ ∀ i ∈ rx_code 102, rx_chkI 102 i = true := by
  refine ⟨rx_oj102, fun i hi => ?_⟩
  refine List.all_eq_true.mp rx_oi102_0 i ?_
  rw [List.take_of_length_le (Nat.le_of_ble_eq_true rfl)]
  simpa using hi
set_option maxRecDepth 100000 in
theorem rx_oi103_0 : (((rx_code 103).drop 0).take 100000).all (rx_chkI 103) = true := by decide +kernel
set_option maxRecDepth 100000 in
theorem rx_oj103 : rx_chain (rx_code 103) = true := by decide +kernel
theorem rx_ok103 : rx_chain (rx_code 103) = true ∧ ∀ i ∈ rx_code 103, rx_chkI 103 i = true := by
  refine ⟨rx_oj103, fun i hi => ?_⟩
  refine List.all_eq_true.mp rx_oi103_0 i ?_
  rw [List.take_of_length_le (Nat.le_of_ble_eq_true rfl)]
  simpa using hi
set_option maxRecDepth 100000 in
theorem rx_oi104_0 : (((rx_code 104).drop 0).take 100000).all (rx_chkI 104) = true := by decide +kernel
set_option maxRecDepth 100000 in
theorem rx_oj104 : rx_chain (rx_code 104) = true := by decide +kernel
theorem rx_ok104 : rx_chain (rx_code 104) = true ∧ ∀ i ∈ rx_code 104, rx_chkI 104 i = true := by
  refine ⟨rx_oj104, fun i hi => ?_⟩
  refine List.all_eq_true.mp rx_oi104_0 i ?_
  rw [List.take_of_length_le (Nat.le_of_ble_eq_true rfl)]
  simpa using hi
set_option maxRecDepth 100000 in
theorem rx_oi105_0 : (((rx_code 105).drop 0).take 100000).all (rx_chkI 105) = true := by decide +kernel
set_option maxRecDepth 100000 in
theorem rx_oj105 : rx_chain (rx_code 105) = true := by decide +kernel
theorem rx_ok105 : rx_chain (rx_code 105) = true ∧ ∀ i ∈ rx_code 105, rx_chkI 105 i = true := by
  refine ⟨rx_oj105, fun i hi => ?_⟩
  refine List.all_eq_true.mp rx_oi105_0 i ?_
  rw [List.take_of_length_le (Nat.le_of_ble_eq_true rfl)]
  simpa using hi
set_option maxRecDepth 100000 in
theorem rx_oi106_0 : (((rx_code 106).drop 0).take 100000).all (rx_chkI 106) = true := by decide +kernel
set_option maxRecDepth 100000 in
theorem rx_oj106 : rx_chain (rx_code 106) = true := by decide +kernel
theorem rx_ok106 : rx_chain (rx_code 106) = true ∧ ∀ i ∈ rx_code 106, rx_chkI 106 i = true := by
  refine ⟨rx_oj106, fun i hi => ?_⟩
  refine List.all_eq_true.mp rx_oi106_0 i ?_
  rw [List.take_of_length_le (Nat.le_of_ble_eq_true rfl)]
  simpa using hi
set_option maxRecDepth 100000 in
theorem rx_oi107_0 : (((rx_code 107).drop 0).take 100000).all (rx_chkI 107) = true := by decide +kernel
set_option maxRecDepth 100000 in
theorem rx_oj107 : rx_chain (rx_code 107) = true := by decide +kernel
theorem rx_ok107 : rx_chain (rx_code 107) = true ∧ ∀ i ∈ rx_code 107, rx_chkI 107 i = true := by
  refine ⟨rx_oj107, fun i hi => ?_⟩
  refine List.all_eq_true.mp rx_oi107_0 i ?_
  rw [List.take_of_length_le (Nat.le_of_ble_eq_true rfl)]
  simpa using hi
set_option maxRecDepth 100000 in
theorem rx_oi108_0 : (((rx_code 108).drop 0).take 100000).all (rx_chkI 108) = true := by decide +kernel
set_option maxRecDepth 100000 in
theorem rx_oj108 : rx_chain (rx_code 108) = true := by decide +kernel
theorem rx_ok108 : rx_chain (rx_code 108) = true ∧ ∀ i ∈ rx_code 108, rx_chkI 108 i = true := by
  refine ⟨rx_oj108, fun i hi => ?_⟩
  refine List.all_eq_true.mp rx_oi108_0 i ?_
  rw [List.take_of_length_le (Nat.le_of_ble_eq_true rfl)]
  simpa using hi
set_option maxRecDepth 100000 in
theorem rx_oi109_0 : (((rx_code 109).drop 0).take 100000).all (rx_chkI 109) = true := by decide +kernel
set_option maxRecDepth 100000 in
theorem rx_oj109 : rx_chain (rx_code 109) = true := by decide +kernel
theorem rx_ok109 : rx_chain (rx_code 109) = true ∧ ∀ i ∈ rx_code 109, rx_chkI 109 i = true := by
  refine ⟨rx_oj109, fun i hi => ?_⟩
  refine List.all_eq_true.mp rx_oi109_0 i ?_
  rw [List.take_of_length_le (Nat.le_of_ble_eq_true rfl)]
  simpa using hi
set_option maxRecDepth 100000 in
theorem rx_oi110_0 : (((rx_code 110).drop 0).take 100000).all (rx_chkI 110) = true := by decide +kernel
set_option maxRecDepth 100000 in
theorem rx_oj110 : rx_chain (rx_code 110) = true := by decide +kernel
theorem rx_ok110 : rx_chain (rx_code 110) = true ∧ ∀ i ∈ rx_code 110, rx_chkI 110 i = true := by
  refine ⟨rx_oj110, fun i hi => ?_⟩
  refine List.all_eq_true.mp rx_oi110_0 i ?_
  rw [List.take_of_length_le (Nat.le_of_ble_eq_true rfl)]
  simpa using hi
set_option maxRecDepth 100000 in
theorem rx_oi111_0 : (((rx_code 111).drop 0).take 100000).all (rx_chkI 111) = true := by decide +kernel
set_option maxRecDepth 100000 in
theorem rx_oj111 : rx_chain (rx_code 111) = true := by decide +kernel
theorem rx_ok111 : rx_chain (rx_code 111) = true ∧ ∀ i ∈ rx_code 111, rx_chkI 111 i = true := by
  refine ⟨rx_oj111, fun i hi => ?_⟩
  refine List.all_eq_true.mp rx_oi111_0 i ?_
  rw [List.take_of_length_le (Nat.le_of_ble_eq_true rfl)]
  simpa using hi
set_option maxRecDepth 100000 in
theorem rx_oi112_0 : (((rx_code 112).drop 0).take 100000).all (rx_chkI 112) = true := by decide +kernel
set_option maxRecDepth 100000 in
theorem rx_oj112 : rx_chain (rx_code 112) = true := by decide +kernel
theorem rx_ok112 : rx_chain (rx_code 112) = true ∧ ∀ i ∈ rx_code 112, rx_chkI 112 i = true := by
  refine ⟨rx_oj112, fun i hi => ?_⟩
  refine List.all_eq_true.mp rx_oi112_0 i ?_
  rw [List.take_of_length_le (Nat.le_of_ble_eq_true rfl)]
  simpa using hi
set_option maxRecDepth 100000 in
theorem rx_oi113_0 : (((rx_code 113).drop 0).take 100000).all (rx_chkI 113) = true := by decide +kernel
set_option maxRecDepth 100000 in
theorem rx_oj113 : rx_chain (rx_code 113) = true := by decide +kernel
theorem rx_ok113 : rx_chain (rx_code 113) = true ∧ ∀ i ∈ rx_code 113, rx_chkI 113 i = true := by
  refine ⟨rx_oj113, fun i hi => ?_⟩
  refine List.all_eq_true.mp rx_oi113_0 i ?_
  rw [List.take_of_length_le (Nat.le_of_ble_eq_true rfl)]
  simpa using hi
set_option maxRecDepth 100000 in
theorem rx_oi114_0 : (((rx_code 114).drop 0).take 100000).all (rx_chkI 114) = true := by decide +kernel
set_option maxRecDepth 100000 in
theorem rx_oj114 : rx_chain (rx_code 114) = true := by decide +kernel
theorem rx_ok114 : rx_chain (rx_code 114) = true ∧ ∀ i ∈ rx_code 114, rx_chkI 114 i = true := by
  refine ⟨rx_oj114, fun i hi => ?_⟩
  refine List.all_eq_true.mp rx_oi114_0 i ?_
  rw [List.take_of_length_le (Nat.le_of_ble_eq_true rfl)]
  simpa using hi
set_option maxRecDepth 100000 in
theorem rx_oi115_0 : (((rx_code 115).drop 0).take 100000).all (rx_chkI 115) = true := by decide +kernel
set_option maxRecDepth 100000 in
theorem rx_oj115 : rx_chain (rx_code 115) = true := by decide +kernel
theorem rx_ok115 : rx_chain (rx_code 115) = true ∧ ∀ i ∈ rx_code 115, rx_chkI 115 i = true := by
  refine ⟨rx_oj115, fun i hi => ?_⟩
  refine List.all_eq_true.mp rx_oi115_0 i ?_
  rw [List.take_of_length_le (Nat.le_of_ble_eq_true rfl)]
  simpa using hi
set_option maxRecDepth 100000 in
theorem rx_oi116_0 : (((rx_code 116).drop 0).take 100000).all (rx_chkI 116) = true := by decide +kernel
set_option maxRecDepth 100000 in
theorem rx_oj116 : rx_chain (rx_code 116) = true := by decide +kernel
theorem rx_ok116 : rx_chain (rx_code 116) = true ∧ ∀ i ∈ rx_code 116, rx_chkI 116 i = true := by
  refine ⟨rx_oj116, fun i hi => ?_⟩
  refine List.all_eq_true.mp rx_oi116_0 i ?_
  rw [List.take_of_length_le (Nat.le_of_ble_eq_true rfl)]
  simpa using hi
set_option maxRecDepth 100000 in
theorem rx_oi117_0 : (((rx_code 117).drop 0).take 100000).all (rx_chkI 117) = true := by decide +kernel
set_option maxRecDepth 100000 in
theorem rx_oj117 : rx_chain (rx_code 117) = true := by decide +kernel
theorem rx_ok117 : rx_chain (rx_code 117) = true ∧ ∀ i ∈ rx_code 117, rx_chkI 117 i = true := by
  refine ⟨rx_oj117, fun i hi => ?_⟩
  refine List.all_eq_true.mp rx_oi117_0 i ?_
  rw [List.take_of_length_le (Nat.le_of_ble_eq_true rfl)]
  simpa using hi
set_option maxRecDepth 100000 in
theorem rx_oi118_0 : (((rx_code 118).drop 0).take 100000).all (rx_chkI 118) = true := by decide +kernel
set_option maxRecDepth 100000 in
theorem rx_oj118 : rx_chain (rx_code 118) = true := by decide +kernel
theorem rx_ok118 : rx_chain (rx_code 118) = true ∧ ∀ i ∈ rx_code 118, rx_chkI 118 i = true := by
  refine ⟨rx_oj118, fun i hi => ?_⟩
  refine List.all_eq_true.mp rx_oi118_0 i ?_
  rw [List.take_of_length_le (Nat.le_of_ble_eq_true rfl)]
  simpa using hi
set_option maxRecDepth 100000 in
theorem rx_oi119_0 : (((rx_code 119).drop 0).take 100000).all (rx_chkI 119) = true := by decide +kernel
set_option maxRecDepth 100000 in
theorem rx_oj119 : rx_chain (rx_code 119) = true := by decide +kernel
theorem rx_ok119 : rx_chain (rx_code 119) = true ∧ ∀ i ∈ rx_code 119, rx_chkI 119 i = true := by
  refine ⟨rx_oj119, fun i hi => ?_⟩
  refine List.all_eq_true.mp rx_oi119_0 i ?_
  rw [List.take_of_length_le (Nat.le_of_ble_eq_true rfl)]
  simpa using hi
set_option maxRecDepth 100000 in
theorem rx_oi120_0 : (((rx_code 120).drop 0).take 100000).all (rx_chkI 120) = true := by decide +kernel
set_option maxRecDepth 100000 in
theorem rx_oj120 : rx_chain (rx_code 120) = true := by decide +kernel
theorem rx_ok120 : rx_chain (rx_code 120) = true ∧ ∀ i ∈ rx_code 120, rx_chkI 120 i = true := by
  refine ⟨rx_oj120, fun i hi => ?_⟩
  refine List.all_eq_true.mp rx_oi120_0 i ?_
  rw [List.take_of_length_le (Nat.le_of_ble_eq_true rfl)]
  simpa using hi
set_option maxRecDepth 100000 in
theorem rx_oi121_0 : (((rx_code 121).drop 0).take 100000).all (rx_chkI 121) = true := by decide +kernel
set_option maxRecDepth 100000 in
theorem rx_oj121 : rx_chain (rx_code 121) = true := by decide +kernel
theorem rx_ok121 : rx_chain (rx_code 121) = true ∧ ∀ i ∈ rx_code 121, rx_chkI 121 i = true := by
  refine ⟨rx_oj121, fun i hi => ?_⟩
  refine List.all_eq_true.mp rx_oi121_0 i ?_
  rw [List.take_of_length_le (Nat.le_of_ble_eq_true rfl)]
  simpa using hi
set_option maxRecDepth 100000 in
theorem rx_oi122_0 : (((rx_code 122).drop 0).take 100000).all (rx_chkI 122) = true := by decide +kernel
set_option maxRecDepth 100000 in
theorem rx_oj122 : rx_chain (rx_code 122) = true := by decide +kernel
theorem rx_ok122 : rx_chain (rx_code 122) = true ∧ ∀ i ∈ rx_code 122, rx_chkI 122 i = true := by
  refine ⟨rx_oj122, fun i hi => ?_⟩
  refine List.all_eq_true.mp rx_oi122_0 i ?_
  rw [List.take_of_length_le (Nat.le_of_ble_eq_true rfl)]
  simpa using hi
set_option maxRecDepth 100000 in
theorem rx_oi123_0 : (((rx_code 123).drop 0).take 100000).all (rx_chkI 123) = true := by decide +kernel
set_option maxRecDepth 100000 in
theorem rx_oj123 : rx_chain (rx_code 123) = true := by decide +kernel
theorem rx_ok123 : rx_chain (rx_code 123) = true ∧ ∀ i ∈ rx_code 123, rx_chkI 123 i = true := by
  refine ⟨rx_oj123, fun i hi => ?_⟩
  refine List.all_eq_true.mp rx_oi123_0 i ?_
  rw [List.take_of_length_le (Nat.le_of_ble_eq_true rfl)]
  simpa using hi
set_option maxRecDepth 100000 in
theorem rx_oi124_0 : (((rx_code 124).drop 0).take 100000).all (rx_chkI 124) = true := by decide +kernel
set_option maxRecDepth 100000 in
theorem rx_oj124 : rx_chain (rx_code 124) = true := by decide +kernel
theorem rx_ok124 : rx_chain (rx_code 124) = true ∧ ∀ i ∈ rx_code 124, rx_chkI 124 i = true := by
  refine ⟨rx_oj124, fun i hi => ?_⟩
  refine List.all_eq_true.mp rx_oi124_0 i ?_
  rw [List.take_of_length_le (Nat.le_of_ble_eq_true rfl)]
  simpa using hi
set_option maxRecDepth 100000 in
theorem rx_oi125_0 : (((rx_code 125).drop 0).take 100000).all (rx_chkI 125) = true := by decide +kernel
set_option maxRecDepth 100000 in
theorem rx_oj125 : rx_chain (rx_code 125) = true := by decide +kernel
theorem rx_ok125 : rx_chain (rx_code 125) = true ∧ ∀ i ∈ rx_code 125, rx_chkI 125 i = true := by
  refine ⟨rx_oj125, fun i hi => ?_⟩
  refine List.all_eq_true.mp rx_oi125_0 i ?_
  rw [List.take_of_length_le (Nat.le_of_ble_eq_true rfl)]
  simpa using hi
set_option maxRecDepth 100000 in
theorem rx_oi126_0 : (((rx_code 126).drop 0).take 100000).all (rx_chkI 126) = true := by decide +kernel
set_option maxRecDepth 100000 in
theorem rx_oj126 : rx_chain (rx_code 126) = true := by decide +kernel
theorem rx_ok126 : rx_chain (rx_code 126) = true ∧ ∀ i ∈ rx_code 126, rx_chkI 126 i = true := by
  refine ⟨rx_oj126, fun i hi => ?_⟩
  refine List.all_eq_true.mp rx_oi126_0 i ?_
  rw [List.take_of_length_le (Nat.le_of_ble_eq_true rfl)]
  simpa using hi
set_option maxRecDepth 100000 in
theorem rx_oi127_0 : (((rx_code 127).drop 0).take 100000).all (rx_chkI 127) = true := by decide +kernel
set_option maxRecDepth 100000 in
theorem rx_oj127 : rx_chain (rx_code 127) = true := by decide +kernel
theorem rx_ok127 : rx_chain (rx_code 127) = true ∧ ∀ i ∈ rx_code 127, rx_chkI 127 i = true := by
  refine ⟨rx_oj127, fun i hi => ?_⟩
  refine List.all_eq_true.mp rx_oi127_0 i ?_
  rw [List.take_of_length_le (Nat.le_of_ble_eq_true rfl)]
  simpa using hi
set_option maxRecDepth 100000 in
theorem rx_oi128_0 : (((rx_code 128).drop 0).take 100000).all (rx_chkI 128) = true := by decide +kernel
set_option maxRecDepth 100000 in
theorem rx_oj128 : rx_chain (rx_code 128) = true := by decide +kernel
theorem rx_ok128 : rx_chain (rx_code 128) = true ∧ ∀ i ∈ rx_code 128, rx_chkI 128 i = true := by
  refine ⟨rx_oj128, fun i hi => ?_⟩
  refine List.all_eq_true.mp rx_oi128_0 i ?_
  rw [List.take_of_length_le (Nat.le_of_ble_eq_true rfl)]
  simpa using hi
set_option maxRecDepth 100000 in
theorem rx_oi129_0 : (((rx_code 129).drop 0).take 100000).all (rx_chkI 129) = true := by decide +kernel
set_option maxRecDepth 100000 in
theorem rx_oj129 : rx_chain (rx_code 129) = true := by decide +kernel
theorem rx_ok129 : rx_chain (rx_code 129) = true ∧ ∀ i ∈ rx_code 129, rx_chkI 129 i = true := by
  refine ⟨rx_oj129, fun i hi => ?_⟩
  refine List.all_eq_true.mp rx_oi129_0 i ?_
  rw [List.take_of_length_le (Nat.le_of_ble_eq_true rfl)]
  simpa using hi
set_option maxRecDepth 100000 in
theorem rx_oi130_0 : (((rx_code 130).drop 0).take 100000).all (rx_chkI 130) = true := by decide +kernel
set_option maxRecDepth 100000 in
theorem rx_oj130 : rx_chain (rx_code 130) = true := by decide +kernel
theorem rx_ok130 : rx_chain (rx_code 130) = true ∧ ∀ i ∈ rx_code 130, rx_chkI 130 i = true := by
  refine ⟨rx_oj130, fun i hi => ?_⟩
  refine List.all_eq_true.mp rx_oi130_0 i ?_
  rw [List.take_of_length_le (Nat.le_of_ble_eq_true rfl)]
  simpa using hi
set_option maxRecDepth 100000 in
theorem rx_oi131_0 : (((rx_code 131).drop 0).take 100000).all (rx_chkI 131) = true := by decide +kernel
set_option maxRecDepth 100000 in
theorem rx_oj131 : rx_chain (rx_code 131) = true := by decide +kernel
theorem rx_ok131 : rx_chain (rx_code 131) = true ∧ ∀ i ∈ rx_code 131, rx_chkI 131 i = true := by
  refine ⟨rx_oj131, fun i hi => ?_⟩
  refine List.all_eq_true.mp rx_oi131_0 i ?_
  rw [List.take_of_length_le (Nat.le_of_ble_eq_true rfl)]
  simpa using hi
set_option maxRecDepth 100000 in
theorem rx_oi132_0 : (((rx_code 132).drop 0).take 100000).all (rx_chkI 132) = true := by decide +kernel
set_option maxRecDepth 100000 in
theorem rx_oj132 : rx_chain (rx_code 132) = true := by decide +kernel
theorem rx_ok132 : rx_chain (rx_code 132) = true ∧ ∀ i ∈ rx_code 132, rx_chkI 132 i = true := by
  refine ⟨rx_oj132, fun i hi => ?_⟩
  refine List.all_eq_true.mp rx_oi132_0 i ?_
  rw [List.take_of_length_le (Nat.le_of_ble_eq_true rfl)]
  simpa using hi
set_option maxRecDepth 100000 in
theorem rx_oi133_0 : (((rx_code 133).drop 0).take 100000).all (rx_chkI 133) = true := by decide +kernel
set_option maxRecDepth 100000 in
theorem rx_oj133 : rx_chain (rx_code 133) = true := by decide +kernel
theorem rx_ok133 : rx_chain (rx_code 133) = true ∧ ∀ i ∈ rx_code 133, rx_chkI 133 i = true := by
  refine ⟨rx_oj133, fun i hi => ?_⟩
  refine List.all_eq_true.mp rx_oi133_0 i ?_
  rw [List.take_of_length_le (Nat.le_of_ble_eq_true rfl)]
  simpa using hi
set_option maxRecDepth 100000 in
theorem rx_oi134_0 : (((rx_code 134).drop 0).take 100000).all (rx_chkI 134) = true := by decide +kernel
set_option maxRecDepth 100000 in
theorem rx_oj134 : rx_chain (rx_code 134) = true := by decide +kernel
theorem rx_ok134 : rx_chain (rx_code 134) = true ∧ ∀ i ∈ rx_code 134, rx_chkI 134 i = true := by
  refine ⟨rx_oj134, fun i hi => ?_⟩
  refine List.all_eq_true.mp rx_oi134_0 i ?_
  rw [List.take_of_length_le (Nat.le_of_ble_eq_true rfl)]
  simpa using hi
set_option maxRecDepth 100000 in
theorem rx_oi135_0 : (((rx_code 135).drop 0).take 100000).all (rx_chkI 135) = true := by decide +kernel
set_option maxRecDepth 100000 in
theorem rx_oj135 : rx_chain (rx_code 135) = true := by decide +kernel
theorem rx_ok135 : rx_chain (rx_code 135) = true ∧ ∀ i ∈ rx_code 135, rx_chkI 135 i = true := by
  refine ⟨rx_oj135, fun i hi => ?_⟩
  refine List.all_eq_true.mp rx_oi135_0 i ?_
  rw [List.take_of_length_le (Nat.le_of_ble_eq_true rfl)]
  simpa using hi
set_option maxRecDepth 100000 in
theorem rx_oi136_0 : (((rx_code 136).drop 0).take 100000).all (rx_chkI 136) = true := by decide +kernel
set_option maxRecDepth 100000 in
theorem rx_oj136 : rx_chain (rx_code 136) = true := by decide +kernel
theorem rx_ok136 : rx_chain (rx_code 136) = true ∧ ∀ i ∈ rx_code 136, rx_chkI 136 i = true := by
  refine ⟨rx_oj136, fun i hi => ?_⟩
  refine List.all_eq_true.mp rx_oi136_0 i ?_
  rw [List.take_of_length_le (Nat.le_of_ble_eq_true rfl)]
  simpa using hi
set_option maxRecDepth 100000 in
theorem rx_oi137_0 : (((rx_code 137).drop 0).take 100000).all (rx_chkI 137) = true := by decide +kernel
set_option maxRecDepth 100000 in
theorem rx_oj137 : rx_chain (rx_code 137) = true := by decide +kernel
theorem rx_ok137 : rx_chain (rx_code 137) = true ∧ ∀ i ∈ rx_code 137, rx_chkI 137 i = true := by
  refine ⟨rx_oj137, fun i hi => ?_⟩
  refine List.all_eq_true.mp rx_oi137_0 i ?_
  rw [List.take_of_length_le (Nat.le_of_ble_eq_true rfl)]
  simpa using hi
set_option maxRecDepth 100000 in
theorem rx_oi138_0 : (((rx_code 138).drop 0).take 100000).all (rx_chkI 138) = true := by decide +kernel
set_option maxRecDepth 100000 in
theorem rx_oj138 : rx_chain (rx_code 138) = true := by decide +kernel
theorem rx_ok138 : rx_chain (rx_code 138) = true ∧ ∀ i ∈ rx_code 138, rx_chkI 138 i = true := by
  refine ⟨rx_oj138, fun i hi => ?_⟩
  refine List.all_eq_true.mp rx_oi138_0 i ?_
  rw [List.take_of_length_le (Nat.le_of_ble_eq_true rfl)]
  simpa using hi
set_option maxRecDepth 100000 in
theorem rx_oi139_0 : (((rx_code 139).drop 0).take 100000).all (rx_chkI 139) = true := by decide +kernel
set_option maxRecDepth 100000 in
theorem rx_oj139 : rx_chain (rx_code 139) = true := by decide +kernel
theorem rx_ok139 : rx_chain (rx_code 139) = true ∧ ∀ i ∈ rx_code 139, rx_chkI 139 i = true := by
  refine ⟨rx_oj139, fun i hi => ?_⟩
  refine List.all_eq_true.mp rx_oi139_0 i ?_
  rw [List.take_of_length_le (Nat.le_of_ble_eq_true rfl)]
  simpa using hi
set_option maxRecDepth 100000 in
theorem rx_oi140_0 : (((rx_code 140).drop 0).take 100000).all (rx_chkI 140) = true := by decide +kernel
set_option maxRecDepth 100000 in
theorem rx_oj140 : rx_chain (rx_code 140) = true := by decide +kernel
theorem rx_ok140 : rx_chain (rx_code 140) = true ∧ ∀ i ∈ rx_code 140, rx_chkI 140 i = true := by
  refine ⟨rx_oj140, fun i hi => ?_⟩
  refine List.all_eq_true.mp rx_oi140_0 i ?_
  rw [List.take_of_length_le (Nat.le_of_ble_eq_true rfl)]
  simpa using hi
set_option maxRecDepth 100000 in
theorem rx_oi141_0 : (((rx_code 141).drop 0).take 100000).all (rx_chkI 141) = true := by decide +kernel
set_option maxRecDepth 100000 in
theorem rx_oj141 : rx_chain (rx_code 141) = true := by decide +kernel
theorem rx_ok141 : rx_chain (rx_code 141) = true ∧ ∀ i ∈ rx_code 141, rx_chkI 141 i = true := by
  refine ⟨rx_oj141, fun i hi => ?_⟩
  refine List.all_eq_true.mp rx_oi141_0 i ?_
  rw [List.take_of_length_le (Nat.le_of_ble_eq_true rfl)]
  simpa using hi
set_option maxRecDepth 100000 in
theorem rx_oi142_0 : (((rx_code 142).drop 0).take 100000).all (rx_chkI 142) = true := by decide +kernel
set_option maxRecDepth 100000 in
theorem rx_oj142 : rx_chain (rx_code 142) = true := by decide +kernel
theorem rx_ok142 : rx_chain (rx_code 142) = true ∧ ∀ i ∈ rx_code 142, rx_chkI 142 i = true := by
  refine ⟨rx_oj142, fun i hi => ?_⟩
  refine List.all_eq_true.mp rx_oi142_0 i ?_
  rw [List.take_of_length_le (Nat.le_of_ble_eq_true rfl)]
  simpa using hi
set_option maxRecDepth 100000 in
theorem rx_oi143_0 : (((rx_code 143).drop 0).take 100000).all (rx_chkI 143) = true := by decide +kernel
set_option maxRecDepth 100000 in
theorem rx_oj143 : rx_chain (rx_code 143) = true := by decide +kernel
theorem rx_ok143 : rx_chain (rx_code 143) = true ∧ ∀ i ∈ rx_code 143, rx_chkI 143 i = true := by
  refine ⟨rx_oj143, fun i hi => ?_⟩
  refine List.all_eq_true.mp rx_oi143_0 i ?_
  rw [List.take_of_length_le (Nat.le_of_ble_eq_true rfl)]
  simpa using hi
set_option maxRecDepth 100000 in
theorem rx_oi144_0 : (((rx_code 144).drop 0).take 100000).all (rx_chkI 144) = true := by decide +kernel
set_option maxRecDepth 100000 in
theorem rx_oj144 : rx_chain (rx_code 144) = true := by decide +kernel
theorem rx_ok144 : rx_chain (rx_code 144) = true ∧ ∀ i ∈ rx_code 144, rx_chkI 144 i = true := by
  refine ⟨rx_oj144, fun i hi => ?_⟩
  refine List.all_eq_true.mp rx_oi144_0 i ?_
  rw [List.take_of_length_le (Nat.le_of_ble_eq_true rfl)]
  simpa using hi
set_option maxRecDepth 100000 in
theorem rx_oi145_0 : (((rx_code 145).drop 0).take 100000).all (rx_chkI 145) = true := by decide +kernel
set_option maxRecDepth 100000 in
theorem rx_oj145 : rx_chain (rx_code 145) = true := by decide +kernel
theorem rx_ok145 : rx_chain (rx_code 145) = true ∧ ∀ i ∈ rx_code 145, rx_chkI 145 i = true := by
  refine ⟨rx_oj145, fun i hi => ?_⟩
  refine List.all_eq_true.mp rx_oi145_0 i ?_
  rw [List.take_of_length_le (Nat.le_of_ble_eq_true rfl)]
  simpa using hi
set_option maxRecDepth 100000 in
theorem rx_oi146_0 : (((rx_code 146).drop 0).take 100000).all (rx_chkI 146) = true := by decide +kernel
set_option maxRecDepth 100000 in
theorem rx_oj146 : rx_chain (rx_code 146) = true := by decide +kernel
theorem rx_ok146 : rx_chain (rx_code 146) = true ∧ ∀ i ∈ rx_code 146, rx_chkI 146 i = true := by
  refine ⟨rx_oj146, fun i hi => ?_⟩
  refine List.all_eq_true.mp rx_oi146_0 i ?_
  rw [List.take_of_length_le (Nat.le_of_ble_eq_true rfl)]
  simpa using hi
