set_option maxRecDepth 100000 in
theorem rx_oi191_0 : (((rx_code 191).drop 0).take 100000).all (rx_chkI 191) = true := by decide +kernel
set_option maxRecDepth 100000 in
theorem rx_oj191 : rx_chain (rx_code 191) = true := by decide +kernel
theorem rx_ok191 : rx_chain (rx_code 191) = true ∧ ∀ i ∈ rx_code 191, rx_chkI 191 i = true := by
  refine ⟨rx_oj191, fun i hi => ?_⟩
  refine List.all_eq_true.mp rx_oi191_0 i ?_
  rw [List.take_of_length_le (Nat.le_of_ble_eq_true rfl)]
  simpa using hi
set_option maxRecDepth 100000 in
theorem rx_oi192_0 : (((rx_code 192).drop 0).take 100000).all (rx_chkI 192) = true := by decide +kernel
set_option maxRecDepth 100000 in
theorem rx_oj192 : rx_chain (rx_code 192) = true := by decide +kernel
theorem rx_ok192 : rx_chain (rx_code 192) = true ∧ ∀ i ∈ rx_code 192, rx_chkI 192 i = true := by
  refine ⟨rx_oj192, fun i hi => ?_⟩
  refine List.all_eq_true.mp rx_oi192_0 i ?_
  rw [List.take_of_length_le (Nat.le_of_ble_eq_true rfl)]
  simpa using hi
set_option maxRecDepth 100000 in
theorem rx_oi193_0 : (((rx_code 193).drop 0).take 100000).all (rx_chkI 193) = true := by decide +kernel
set_option maxRecDepth 100000 in
theorem rx_oj193 : rx_chain (rx_code 193) = true := by decide +kernel
theorem rx_ok193 : rx_chain (rx_code 193) = true ∧ ∀ i ∈ rx_code 193, rx_chkI 193 i = true := by
  refine ⟨rx_oj193, fun i hi => ?_⟩
  refine List.all_eq_true.mp rx_oi193_0 i ?_
  rw [List.take_of_length_le (Nat.le_of_ble_eq_true rfl)]
  simpa using hi
set_option maxRecDepth 100000 in
theorem rx_oi194_0 : (((rx_code 194).drop 0).take 120).all (rx_chkI 194) = true := by decide +kernel
set_option maxRecDepth 100000 in
theorem rx_oi194_1 : (((rx_code 194).drop 120).take 100000).all (rx_chkI 194) = true := by decide +kernel
set_option maxRecDepth 100000 in
theorem rx_oj194 : rx_chain (rx_code 194) = true := by decide +kernel
theorem rx_ok194 : rx_chain (rx_code 194) = true ∧ ∀ i ∈ rx_code 194, rx_chkI 194 i = true := by
  refine ⟨rx_oj194, fun i hi => ?_⟩
  by_cases h0 : i ∈ ((rx_code 194).drop 0).take 120
  · exact List.all_eq_true.mp rx_oi194_0 i h0
  replace hi : i ∈ ((rx_code 194).drop 0).drop 120 := by
    have h := List.take_append_drop 120 ((rx_code 194).drop 0)
    rw [List.drop_zero] at h h0 ⊢; rw [← h] at hi
    exact (List.mem_append.mp hi).resolve_left h0
  rw [List.drop_drop] at hi
  refine List.all_eq_true.mp rx_oi194_1 i ?_
  rw [List.take_of_length_le (Nat.le_of_ble_eq_true rfl)]
  simpa using hi
set_option maxRecDepth 100000 in
theorem rx_oi195_0 : (((rx_code 195).drop 0).take 120).all (rx_chkI 195) = true := by decide +kernel
set_option maxRecDepth 100000 in
theorem rx_oi195_1 : (((rx_code 195).drop 120).take 100000).all (rx_chkI 195) = true := by decide +kernel
set_option maxRecDepth 100000 in
theorem rx_oj195 : rx_chain (rx_code 195) = true := by decide +kernel
theorem rx_ok195 : rx_chain (rx_code 195) = true ∧ ∀ i ∈ rx_code 195, rx_chkI 195 i = true := by
  refine ⟨rx_oj195, fun i hi => ?_⟩
  by_cases h0 : i ∈ ((rx_code 195).drop 0).take 120
  · exact List.all_eq_true.mp rx_oi195_0 i h0
  replace hi : i ∈ ((rx_code 195).drop 0).drop 120 := by
    have h := List.take_append_drop 120 ((rx_code 195).drop 0)
    rw [List.drop_zero] at h h0 ⊢; rw [← h] at hi
    exact (List.mem_append.mp hi).resolve_left h0
  rw [List.drop_drop] at hi
  refine List.all_eq_true.mp rx_oi195_1 i ?_
  rw [List.take_of_length_le (Nat.le_of_ble_eq_true rfl)]
  simpa using hi
set_option maxRecDepth 100000 in
theorem rx_oi196_0 : (((rx_code 196).drop 0).take 100000).all (rx_chkI 196) = true := by decide +kernel
set_option maxRecDepth 100000 in
theorem rx_oj196 : rx_chain (rx_code 196) = true := by decide +kernel
theorem rx_ok196 : rx_chain (rx_code 196) = true ∧ ∀ i ∈ rx_code 196, rx_chkI 196 i = true := by
  refine ⟨rx_oj196, fun i hi => ?_⟩
  refine List.all_eq_true.mp rx_oi196_0 i ?_
  rw [List.take_of_length_le (Nat.le_of_ble_eq_true rfl)]
  simpa using hi
set_option maxRecDepth 100000 in
theorem rx_oi197_0 : (((rx_code 197).drop 0).take 100000).all (rx_chkI 197) = true := by decide +kernel
set_option maxRecDepth 100000 in
theorem rx_oj197 : rx_chain (rx_code 197) = true := by decide +kernel
theorem rx_ok197 : rx_chain (rx_code 197) = true ∧ ∀ i ∈ rx_code 197, rx_chkI 197 i = true := by
  refine ⟨rx_oj197, fun i hi => ?_⟩
  refine List.all_eq_true.mp rx_oi197_0 i ?_
  rw [List.take_of_length_le (Nat.le_of_ble_eq_true rfl)]
  simpa using hi
set_option maxRecDepth 100000 in
theorem rx_oi198_0 : (((rx_code 198).drop 0).take 100000).all (rx_chkI 198) = true := by decide +kernel
set_option maxRecDepth 100000 in
theorem rx_oj198 : rx_chain (rx_code 198) = true := by decide +kernel
theorem rx_ok198 : rx_chain (rx_code 198) = true ∧ ∀ i ∈ rx_code 198, rx_chkI 198 i = true := by
  refine ⟨rx_oj198, fun i hi => ?_⟩
  refine List.all_eq_true.mp rx_oi198_0 i ?_
  rw [List.take_of_length_le (Nat.le_of_ble_eq_true rfl)]
  simpa using hi
set_option maxRecDepth 100000 in
theorem rx_oi199_0 : (((rx_code 199).drop 0).take 100000).all (rx_chkI 199) = true := by decide +kernel
set_option maxRecDepth 100000 in
theorem rx_oj199 : rx_chain (rx_code 199) = true := by decide +kernel
theorem rx_ok199 : rx_chain (rx_code 199) = true ∧ ∀ i ∈ rx_code 199, rx_chkI 199 i = true := by
  refine ⟨rx_oj199, fun i hi => ?_⟩
  refine List.all_eq_true.mp rx_oi199_0 i ?_
  rw [List.take_of_length_le (Nat.le_of_ble_eq_true rfl)]
  simpa using hi
set_option maxRecDepth 100000 in
theorem rx_oi200_0 : (((rx_code 200).drop 0).take 100000).all (rx_chkI 200) = true := by decide +kernel
set_option maxRecDepth 100000 in
theorem rx_oj200 : rx_chain (rx_code 200) = true := by decide +kernel
theorem rx_ok200 : rx_chain (rx_code 200) = true ∧ ∀ i ∈ rx_code 200, rx_chkI 200 i = true := by
  refine ⟨rx_oj200, fun i hi => ?_⟩
  refine List.all_eq_true.mp rx_oi200_0 i ?_
  rw [List.take_of_length_le (Nat.le_of_ble_eq_true rfl)]
  simpa using hi
set_option maxRecDepth 100000 in
theorem rx_oi201_0 : (((rx_code 201).drop 0).take 100000).all (rx_chkI 201) = true := by decide +kernel
set_option maxRecDepth 100000 in
theorem rx_oj201 : rx_chain (rx_code 201) = true := by decide +kernel
theorem rx_ok201 : rx_chain (rx_code 201) = true ∧ ∀ i ∈ rx_code 201, rx_chkI 201 i = true := by
  refine ⟨rx_oj201, fun i hi => ?_⟩
  refine List.all_eq_true.mp rx_oi201_0 i ?_
  rw [List.take_of_length_le (Nat.le_of_ble_eq_true rfl)]
  simpa using hi
set_option maxRecDepth 100000 in
theorem rx_oi202_0 : (((rx_code 202).drop 0).take 100000).all (rx_chkI 202) = true := by decide +kernel
set_option maxRecDepth 100000 in
theorem rx_oj202 : rx_chain (rx_code 202) = true := by decide +kernel
theorem rx_ok202 : rx_chain (rx_code 202) = true ∧ ∀ i ∈ rx_code 202, rx_chkI 202 i = true := by
  refine ⟨rx_oj202, fun i hi => ?_⟩
  refine List.all_eq_true.mp rx_oi202_0 i ?_
  rw [List.take_of_length_le (Nat.le_of_ble_eq_true rfl)]
  simpa using hi
set_option maxRecDepth 100000 in
theorem rx_oi203_0 : (((rx_code 203).drop 0).take 100000).all (rx_chkI 203) = true := by decide +kernel
set_option maxRecDepth 100000 in
theorem rx_oj203 : rx_chain (rx_code 203) = true := by decide +kernel
theorem rx_ok203 : rx_chain (rx_code 203) = true ∧ ∀ i ∈ rx_code 203, rx_chkI 203 i = true := by
  refine ⟨rx_oj203, fun i hi => ?_⟩
  refine List.all_eq_true.mp rx_oi203_0 i ?_
  rw [List.take_of_length_le (Nat.le_of_ble_eq_true rfl)]
  simpa using hi
set_option maxRecDepth 100000 in
theorem rx_oi204_0 : (((rx_code 204).drop 0).take 100000).all (rx_chkI 204) = true := by decide +kernel
set_option maxRecDepth 100000 in
theorem rx_oj204 : rx_chain (rx_code 204) = true := by decide +kernel
theorem rx_ok204 : rx_chain (rx_code 204) = true ∧ ∀ i ∈ rx_code 204, rx_chkI 204 i = true := by
  refine ⟨rx_oj204, fun i hi => ?_⟩
  refine List.all_eq_true.mp rx_oi204_0 i ?_
  rw [List.take_of_length_le (Nat.le_of_ble_eq_true rfl)]
  simpa using hi
set_option maxRecDepth 100000 in
theorem rx_oi205_0 : (((rx_code 205).drop 0).take 100000).all (rx_chkI 205) = true := by decide +kernel
set_option maxRecDepth 100000 in
theorem rx_oj205 : rx_chain (rx_code 205) = true := by decide +kernel
theorem rx_ok205 : rx_chain (rx_code 205) = true ∧ ∀ i ∈ rx_code 205, rx_chkI 205 i = true := by
  refine ⟨rx_oj205, fun i hi => ?_⟩
  refine List.all_eq_true.mp rx_oi205_0 i ?_
  rw [List.take_of_length_le (Nat.le_of_ble_eq_true rfl)]
  simpa using hi
set_option maxRecDepth 100000 in
theorem rx_oi206_0 : (((rx_code 206).drop 0).take 100000).all (rx_chkI 206) = true := by decide +kernel
set_option maxRecDepth 100000 in
theorem rx_oj206 : rx_chain (rx_code 206) = true := by decide +kernel
theorem rx_ok206 : rx_chain (rx_code 206) = true ∧ ∀ i ∈ rx_code 206, rx_chkI 206 i = true := by
  refine ⟨rx_oj206, fun i hi => ?_⟩
  refine List.all_eq_true.mp rx_oi206_0 i ?_
  rw [List.take_of_length_le (Nat.le_of_ble_eq_true rfl)]
  simpa using hi
set_option maxRecDepth 100000 in
theorem rx_oi207_0 : (((rx_code 207).drop 0).take 100000).all (rx_chkI 207) = true := by decide +kernel
set_option maxRecDepth 100000 in
theorem rx_oj207 : rx_chain (rx_code 207) = true := by decide +kernel
theorem rx_ok207 : rx_chain (rx_code 207) = true ∧ ∀ i ∈ rx_code 207, rx_chkI 207 i = true := by
  refine ⟨rx_oj207, fun i hi => ?_⟩
  refine List.all_eq_true.mp rx_oi207_0 i ?_
  rw [List.take_of_length_le (Nat.le_of_ble_eq_true rfl)]
  simpa using hi
set_option maxRecDepth 100000 in
theorem rx_oi208_0 : (((rx_code 208).drop 0).take 100000).all (rx_chkI 208) = true := by decide +kernel
set_option maxRecDepth 100000 in
theorem rx_oj208 : rx_chain (rx_code 208) = true := by decide +kernel
theorem rx_ok208 : rx_chain (rx_code 208) = true ∧ ∀ i ∈ rx_code 208, rx_chkI 208 i = true := by
  refine ⟨rx_oj208, fun i hi => ?_⟩
  refine List.all_eq_true.mp rx_oi208_0 i ?_
  rw [List.take_of_length_le (Nat.le_of_ble_eq_true rfl)]
  simpa using hi
set_option maxRecDepth 100000 in
theorem rx_oi209_0 : (((rx_code 209).drop 0).take 100000).all (rx_chkI 209) = true := by decide +kernel
set_option maxRecDepth 100000 in
theorem rx_oj209 : rx_chain (rx_code 209) = true := by decide +kernel
theorem rx_ok209 : rx_chain (rx_code 209) = true ∧ ∀ i ∈ rx_code 209, rx_chkI 209 i = true := by
  refine ⟨rx_oj209, fun i hi => ?_⟩
  refine List.all_eq_true.mp rx_oi209_0 i ?_
  rw [List.take_of_length_le (Nat.le_of_ble_eq_true rfl)]
  simpa using hi
set_option maxRecDepth 100000 in
theorem rx_oi210_0 : (((rx_code 210).drop 0).take 100000).all (rx_chkI 210) = true := by decide +kernel
set_option maxRecDepth 100000 in
theorem rx_oj210 : rx_chain (rx_code 210) = true := by decide +kernel
theorem rx_ok210 : rx_chain (rx_code 210) = true ∧ ∀ i ∈ rx_code 210, rx_chkI 210 i = true := by
  refine ⟨rx_oj210, fun i hi => ?_⟩
  refine List.all_eq_true.mp rx_oi210_0 i ?_
  rw [List.take_of_length_le (Nat.le_of_ble_eq_true rfl)]
  simpa using hi
set_option maxRecDepth 100000 in
theorem rx_oi211_0 : (((rx_code 211).drop 0).take 100000).all (rx_chkI 211) = true := by decide +kernel
set_option maxRecDepth 100000 in
theorem rx_oj211 : rx_chain (rx_code 211) = true := by decide +kernel
theorem rx_ok211 : rx_chain (rx_code 211) = true ∧ ∀ i ∈ rx_code 211, rx_chkI 211 i = true := by
  refine ⟨rx_oj211, fun i hi => ?_⟩
  refine List.all_eq_true.mp rx_oi211_0 i ?_
  rw [List.take_of_length_le (Nat.le_of_ble_eq_true rfl)]
  simpa using hi
set_option maxRecDepth 100000 in
theorem rx_oi212_0 : (((rx_code 212).drop 0).take 100000).all (rx_chkI 212) = true := by decide +kernel
set_option maxRecDepth 100000 in
theorem rx_oj212 : rx_chain (rx_code 212) = true := by decide +kernel
theorem rx_ok212 : rx_chain (rx_code 212) = true ∧ ∀ i ∈ rx_code 212, rx_chkI 212 i = true := by
  refine ⟨rx_oj212, fun i hi => ?_⟩
  refine List.all_eq_true.mp rx_oi212_0 i ?_
  rw [List.take_of_length_le (Nat.le_of_ble_eq_true rfl)]
  simpa using hi
set_option maxRecDepth 100000 in
theorem rx_oi213_0 : (((rx_code 213).drop 0).take 100000).all (rx_chkI 213) = true := by decide +kernel
set_option maxRecDepth 100000 in
theorem rx_oj213 : rx_chain (rx_code 213) = true := by decide +kernel
theorem rx_ok213 : rx_chain (rx_code 213) = true ∧ ∀ i ∈ rx_code 213, rx_chkI 213 i = true := by
  refine ⟨rx_oj213, fun i hi => ?_⟩
  refine List.all_eq_true.mp rx_oi213_0 i ?_
  rw [List.take_of_length_le (Nat.le_of_ble_eq_true rfl)]
  simpa using hi
set_option maxRecDepth 100000 in
theorem rx_oi214_0 : (((rx_code 214).drop 0).take 100000).all (rx_chkI 214) = true := by decide +kernel
set_option maxRecDepth 100000 in
theorem rx_oj214 : rx_chain (rx_code 214) = true := by decide +kernel
theorem rx_ok214 : rx_chain (rx_code 214) = true ∧ ∀ i ∈ rx_code 214, rx_chkI 214 i = true := by
  refine ⟨rx_oj214, fun i hi => ?_⟩
  refine List.all_eq_true.mp rx_oi214_0 i ?_
  rw [List.take_of_length_le (Nat.le_of_ble_eq_true rfl)]
  simpa using hi
set_option maxRecDepth 100000 in
theorem rx_oi215_0 : (((rx_code 215).drop 0).take 100000).all (rx_chkI 215) = true := by decide +kernel
set_option maxRecDepth 100000 in
theorem rx_oj215 : rx_chain (rx_code 215) = true := by decide +kernel
theorem rx_ok215 : rx_chain (rx_code 215) = true ∧ ∀ i ∈ rx_code 215, rx_chkI 215 i = true := by
  refine ⟨rx_oj215, fun i hi => ?_⟩
  refine List.all_eq_true.mp rx_oi215_0 i ?_
  rw [List.take_of_length_le (Nat.le_of_ble_eq_true rfl)]
  simpa using hi
set_option maxRecDepth 100000 in
theorem rx_oi216_0 : (((rx_code 216).drop 0).take 100000).all (rx_chkI 216) = true := by decide +kernel
set_option maxRecDepth 100000 in
theorem rx_oj216 : rx_chain (rx_code 216) = true := by decide +kernel
theorem rx_ok216 : rx_chain (rx_code 216) = true ∧ ∀ i ∈ rx_code 216, rx_chkI 216 i = true := by
  refine ⟨rx_oj216, fun i hi => ?_⟩
  refine List.all_eq_true.mp rx_oi216_0 i ?_
  rw [List.take_of_length_le (Nat.le_of_ble_eq_true rfl)]
  simpa using hi
set_option maxRecDepth 100000 in
theorem rx_oi217_0 : (((rx_code 217).drop 0).take 100000).all (rx_chkI 217) = true := by decide +kernel
set_option maxRecDepth 100000 in
theorem rx_oj217 : rx_chain (rx_code 217) = true := by decide +kernel
theorem rx_ok217 : rx_chain (rx_code 217) = true ∧ ∀ i ∈ rx_code 217, rx_chkI 217 i = true := by
  refine ⟨rx_oj217, fun i hi => ?_⟩
  refine List.all_eq_true.mp rx_oi217_0 i ?_
  rw [List.take_of_length_le (Nat.le_of_ble_eq_true rfl)]
  simpa using hi
set_option maxRecDepth 100000 in
theorem rx_oi218_0 : (((rx_code 218).drop 0).take 100000).all (rx_chkI 218) = true := by decide +kernel
set_option maxRecDepth 100000 in
theorem rx_oj218 : rx_chain (rx_code 218) = true := by decide +kernel
theorem rx_ok218 : rx_chain (rx_code 218) = true ∧ ∀ i ∈ rx_code 218, rx_chkI 218 i = true := by
  refine ⟨rx_oj218, fun i hi => ?_⟩
  refine List.all_eq_true.mp rx_oi218_0 i ?_
  rw [List.take_of_length_le (Nat.le_of_ble_eq_true rfl)]
  simpa using hi
set_option maxRecDepth 100000 in
theorem rx_oi219_0 : (((rx_code 219).drop 0).take 100000).all (rx_chkI 219) = true := by decide +kernel
set_option maxRecDepth 100000 in
theorem rx_oj219 : rx_chain (rx_code 219) = true := by decide +kernel
theorem rx_ok219 : rx_chain (rx_code 219) = true ∧ ∀ i ∈ rx_code 219, rx_chkI 219 i = true := by
  refine ⟨rx_oj219, fun i hi => ?_⟩
  refine List.all_eq_true.mp rx_oi219_0 i ?_
  rw [List.take_of_length_le (Nat.le_of_ble_eq_true rfl)]
  simpa using hi
set_option maxRecDepth 100000 in
theorem rx_oi220_0 : (((rx_code 220).drop 0).take 120).all (rx_chkI 220) = true := by decide +kernel
set_option maxRecDepth 100000 in
theorem rx_oi220_1 : (((rx_code 220).drop 120).take 100000).all (rx_chkI 220) = true := by decide +kernel
set_option maxRecDepth 100000 in
theorem rx_oj220 : rx_chain (rx_code 220) = true := by decide +kernel
theorem rx_ok220 : rx_chain (rx_code 220) = true ∧ ∀ i ∈ rx_code 220, rx_chkI 220 i = true := by
  refine ⟨rx_oj220, fun i hi => ?_⟩
  by_cases h0 : i ∈ ((rx_code 220).drop 0).take 120
  · exact List.all_eq_true.mp rx_oi220_0 i h0
  replace hi : i ∈ ((rx_code 220).drop 0).drop 120 := by
    have h := List.take_append_drop 120 ((rx_code 220).drop 0)
    rw [List.drop_zero] at h h0 ⊢; rw [← h] at hi
    exact (List.mem_append.mp hi).resolve_left h0
  rw [List.drop_drop] at hi
  refine List.all_eq_true.mp rx_oi220_1 i ?_
  rw [List.take_of_length_le (Nat.le_of_ble_eq_true rfl)]
  simpa using hi
set_option maxRecDepth 100000 in
theorem rx_oi221_0 : (((rx_code 221).drop 0).take 100000).all (rx_chkI 221) = true := by decide +kernel
set_option maxRecDepth 100000 in
theorem rx_oj221 : rx_chain (rx_code 221) = true := by decide +kernel
theorem rx_ok221 : rx_chain (rx_code 221) = true ∧ ∀ i ∈ rx_code 221, rx_chkI 221 i = true := by
  refine ⟨rx_oj221, fun i hi => ?_⟩
  refine List.all_eq_true.mp rx_oi221_0 i ?_
  rw [List.take_of_length_le (Nat.le_of_ble_eq_true rfl)]
  simpa using hi
set_option maxRecDepth 100000 in
theorem rx_oi222_0 : (((rx_code 222).drop 0).take 120).all (rx_chkI 222) = true := by decide +kernel
set_option maxRecDepth 100000 in
theorem rx_oi222_1 : (((rx_code 222).drop 120).take 100000).all (rx_chkI 222) = true := by decide +kernel
set_option maxRecDepth 100000 in
theorem rx_oj222 : rx_chain (rx_code 222) = true := by decide +kernel
theorem rx_ok222 : rx_chain (rx_code 222) = true ∧ ∀ i ∈ rx_code 222, rx_chkI 222 i = true := by
  refine ⟨rx_oj222, fun i hi => ?_⟩
  by_cases h0 : i ∈ ((rx_code 222).drop 0).take 120
  · exact List.all_eq_true.mp rx_oi222_0 i h0
  replace hi : i ∈ ((rx_code 222).drop 0).drop 120 := by
    have h := List.take_append_drop 120 ((rx_code 222).drop 0)
    rw [List.drop_zero] at h h0 ⊢; rw [← h] at hi
    exact (List.mem_append.mp hi).resolve_left h0
  rw [List.drop_drop] at hi
  refine List.all_eq_true.mp rx_oi222_1 i ?_
  rw [List.take_of_length_le (Nat.le_of_ble_eq_true rfl)]
  simpa using hi
set_option maxRecDepth 100000 in
theorem rx_oi223_0 : (((rx_code 223).drop 0).take 100000).all (rx_chkI 223) = true := by decide +kernel
set_option maxRecDepth 100000 in
theorem rx_oj223 : rx_chain (rx_code 223) = true := by decide +kernel
theorem rx_ok223 : rx_chain (rx_code 223) = true ∧ ∀ i ∈ rx_code 223, rx_chkI 223 i = true := by
  refine ⟨rx_oj223, fun i hi => ?_⟩
  refine List.all_eq_true.mp rx_oi223_0 i ?_
  rw [List.take_of_length_le (Nat.le_of_ble_eq_true rfl)]
  simpa using hi
set_option maxRecDepth 100000 in
theorem rx_oi224_0 : (((rx_code 224).drop 0).take 100000).all (rx_chkI 224) = true := by decide +kernel
set_option maxRecDepth 100000 in
theorem rx_oj224 : rx_chain (rx_code 224) = true := by decide +kernel
theorem rx_ok224 : rx_chain (rx_code 224) = true ∧ ∀ i ∈ rx_code 224, rx_chkI 224 i = true := by
  refine ⟨rx_oj224, fun i hi => ?_⟩
  refine List.all_eq_true.mp rx_oi224_0 i ?_
  rw [List.take_of_length_le (Nat.le_of_ble_eq_true rfl)]
  simpa using hi
set_option maxRecDepth 100000 in
theorem rx_oi225_0 : (((rx_code 225).drop 0).take 100000).all (rx_chkI 225) = true := by decide +kernel
set_option maxRecDepth 100000 in
theorem rx_oj225 : rx_chain (rx_code 225) = true := by decide +kernel
theorem rx_ok225 : rx_chain (rx_code 225) = true ∧ ∀ i ∈ rx_code 225, rx_chkI 225 i = true := by
  refine ⟨rx_oj225, fun i hi => ?_⟩
  refine List.all_eq_true.mp rx_oi225_0 i ?_
  rw [List.take_of_length_le (Nat.le_of_ble_eq_true rfl)]
  simpa using hi
set_option maxRecDepth 100000 in
theorem rx_oi226_0 : (((rx_code 226).drop 0).take 100000).all (rx_chkI 226) = true := by decide +kernel
set_option maxRecDepth 100000 in
theorem rx_oj226 : rx_chain (rx_code 226) = true := by decide +kernel
theorem rx_ok226 : rx_chain (rx_code 226) = true ∧ ∀ i ∈ rx_code 226, rx_chkI 226 i = true := by
  refine ⟨rx_oj226, fun i hi => ?_⟩
  refine List.all_eq_true.mp rx_oi226_0 i ?_
  rw [List.take_of_length_le (Nat.le_of_ble_eq_true rfl)]
  simpa using hi
set_option maxRecDepth 100000 in
theorem rx_oi227_0 : (((rx_code 227).drop 0).take 100000).all (rx_chkI 227) = true := by decide +kernel
set_option maxRecDepth 100000 in
theorem rx_oj227 : rx_chain (rx_code 227) = true := by decide +kernel
theorem rx_ok227 : rx_chain (rx_code 227) = true ∧ ∀ i ∈ rx_code 227, rx_chkI 227 i = true := by
  refine ⟨rx_oj227, fun i hi => ?_⟩
  refine List.all_eq_true.mp rx_oi227_0 i ?_
  rw [List.take_of_length_le (Nat.le_of_ble_eq_true rfl)]
  simpa using hi
set_option maxRecDepth 100000 in
theorem rx_oi228_0 : (((rx_code 228).drop 0).take 100000).all (rx_chkI 228) = true := by decide +kernel
set_option maxRecDepth 100000 in
theorem rx_oj228 : rx_chain (rx_code 228) = true := by decide +kernel
theorem rx_ok228 : rx_chain (rx_code 228) = true ∧ ∀ i ∈ rx_code 228, rx_chkI 228 i = true := by
  refine ⟨rx_oj228, fun i hi => ?_⟩
  refine List.all_eq_true.mp rx_oi228_0 i ?_
  rw [List.take_of_length_le (Nat.le_of_ble_eq_true rfl)]
  simpa using hi
set_option maxRecDepth 100000 in
theorem rx_oi229_0 : (((rx_code 229).drop 0).take 100000).all (rx_chkI 229) = true := by decide +kernel
set_option maxRecDepth 100000 in
theorem rx_oj229 : rx_chain (rx_code 229) = true := by decide +kernel
theorem rx_ok229 : rx_chain (rx_code 229) = true ∧ ∀ i ∈ rx_code 229, rx_chkI 229 i = true := by
  refine ⟨rx_oj229, fun i hi => ?_⟩
  refine List.all_eq_true.mp rx_oi229_0 i ?_
  rw [List.take_of_length_le (Nat.le_of_ble_eq_true rfl)]
  simpa using hi
set_option maxRecDepth 100000 in
theorem rx_oi230_0 : (((rx_code 230).drop 0).take 100000).all (rx_chkI 230) = true := by decide +kernel
set_option maxRecDepth 100000 in
theorem rx_oj230 : rx_chain (rx_code 230) = true := by decide +kernel
theorem rx_ok230 : rx_chain (rx_code 230) = true ∧ ∀ i ∈ rx_code 230, rx_chkI 230 i = true := by
  refine ⟨rx_oj230, fun i hi => ?_⟩
  refine List.all_eq_true.mp rx_oi230_0 i ?_
  rw [List.take_of_length_le (Nat.le_of_ble_eq_true rfl)]
  simpa using hi
set_option maxRecDepth 100000 in
theorem rx_oi231_0 : (((rx_code 231).drop 0).take 100000).all (rx_chkI 231) = true := by decide +kernel
set_option maxRecDepth 100000 in
theorem rx_oj231 : rx_chain (rx_code 231) = true := by decide +kernel
theorem rx_ok231 : rx_chain (rx_code 231) = true ∧ ∀ i ∈ rx_code 231, rx_chkI 231 i = true := by
  refine ⟨rx_oj231, fun i hi => ?_⟩
  refine List.all_eq_true.mp rx_oi231_0 i ?_
  rw [List.take_of_length_le (Nat.le_of_ble_eq_true rfl)]
  simpa using hi
set_option maxRecDepth 100000 in
theorem rx_oi232_0 : (((rx_code 232).drop 0).take 100000).all (rx_chkI 232) = true := by decide +kernel
set_option maxRecDepth 100000 in
theorem rx_oj232 : rx_chain (rx_code 232) = true := by decide +kernel
theorem rx_ok232 : rx_chain (rx_code 232) = true ∧ ∀ i ∈ rx_code 232, rx_chkI 232 i = true := by
  refine ⟨rx_oj232, fun i hi => ?_⟩
  refine List.all_eq_true.mp rx_oi232_0 i ?_
  rw [List.take_of_length_le (Nat.le_of_ble_eq_true rfl)]
  simpa using hi
set_option maxRecDepth 100000 in
theorem rx_oi233_0 : (((rx_code 233).drop 0).take 100000).all (rx_chkI 233) = true := by decide +kernel
set_option maxRecDepth 100000 in
theorem rx_oj233 : rx_chain (rx_code 233) = true := by decide +kernel
theorem rx_ok233 : rx_chain (rx_code 233) = true ∧ ∀ i ∈ rx_code 233, rx_chkI 233 i = true := by
  refine ⟨rx_oj233, fun i hi => ?_⟩
  refine List.all_eq_true.mp rx_oi233_0 i ?_
  rw [List.take_of_length_le (Nat.le_of_ble_eq_true rfl)]
  simpa using hi
set_option maxRecDepth 100000 in
theorem rx_oi234_0 : (((rx_code 234).drop 0).take 120).all (rx_chkI 234) = true := by decide +kernel
set_option maxRecDepth 100000 in
theorem rx_oi234_1 : (((rx_code 234).drop 120).take 100000).all (rx_chkI 234) = true := by decide +kernel
set_option maxRecDepth 100000 in
theorem rx_oj234 : rx_chain (rx_code 234) = true := by decide +kernel
theorem rx_ok234 : rx_chain (rx_code 234) = true ∧ ∀ i ∈ rx_code 234, rx_chkI 234 i = true := by
  refine ⟨rx_oj234, fun i hi => ?_⟩
  by_cases h0 : i ∈ ((rx_code 234).drop 0).take 120
  · exact List.all_eq_true.mp rx_oi234_0 i h0
  replace hi : i ∈ ((rx_code 234).drop 0).drop 120 := by
    have h := List.take_append_drop 120 ((rx_code 234).drop 0)
    rw [List.drop_zero] at h h0 ⊢; rw [← h] at hi
    exact (List.mem_append.mp hi).resolve_left h0
  rw [List.drop_drop] at hi
  refine List.all_eq_true.mp rx_oi234_1 i ?_
  rw [List.take_of_length_le (Nat.le_of_ble_eq_true rfl)]
  simpa using hi
set_option maxRecDepth 100000 in
theorem rx_oi235_0 : (((rx_code 235).drop 0).take 100000).all (rx_chkI 235) = true := by decide +kernel
set_option maxRecDepth 100000 in
theorem rx_oj235 : rx_chain (rx_code 235) = true := by decide +kernel
theorem rx_ok235 : rx_chain (rx_code 235) = true ∧ ∀ i ∈ rx_code 235, rx_chkI 235 i = true := by
  refine ⟨rx_oj235, fun i hi => ?_⟩
  refine List.all_eq_true.mp rx_oi235_0 i ?_
  rw [List.take_of_length_le (Nat.le_of_ble_eq_true rfl)]
  simpa using hi
set_option maxRecDepth 100000 in
theorem rx_oi236_0 : (((rx_code 236).drop 0).take 100000).all (rx_chkI 236) = true := by decide +kernel
set_option maxRecDepth 100000 in
theorem rx_oj236 : rx_chain (rx_code 236) = true := by decide +kernel
theorem rx_ok236 : rx_chain (rx_code 236) = true ∧ ∀ i ∈ rx_code 236, rx_chkI 236 i = true := by
  refine ⟨rx_oj236, fun i hi => ?_⟩
  refine List.all_eq_true.mp rx_oi236_0 i ?_
  rw [List.take_of_length_le (Nat.le_of_ble_eq_true rfl)]
  simpa using hi
set_option maxRecDepth 100000 in
theorem rx_oi237_0 : (((rx_code 237).drop 0).take 100000).all (rx_chkI 237) = true := by decide +kernel
set_option maxRecDepth 100000 in
theorem rx_oj237 : rx_chain (rx_code 237) = true := by decide +kernel
theorem rx_ok237 : rx_chain (rx_code 237) = true ∧ ∀ i ∈ rx_code 237, rx_chkI 237 i = true := by
  refine ⟨rx_oj237, fun i hi => ?_⟩
  refine List.all_eq_true.mp rx_oi237_0 i ?_
  rw [List.take_of_length_le (Nat.le_of_ble_eq_true rfl)]
  simpa using hi
set_option maxRecDepth 100000 in
theorem rx_oi238_0 : (((rx_code 238).drop 0).take 100000).all (rx_chkI 238) = true := by decide +kernel
set_option maxRecDepth 100000 in
theorem rx_oj238 : rx_chain (rx_code 238) = true := by decide +kernel
theorem rx_ok238 : rx_chain (rx_code 238) = true ∧ ∀ i ∈ rx_code 238, rx_chkI 238 i = true := by
  refine ⟨rx_oj238, fun i hi => ?_⟩
  refine List.all_eq_true.mp rx_oi238_0 i ?_
  rw [List.take_of_length_le (Nat.le_of_ble_eq_true rfl)]
  simpa using hi
set_option maxRecDepth 100000 in
theorem rx_oi239_0 : (((rx_code 239).drop 0).take 100000).all (rx_chkI 239) = true := by decide +kernel
set_option maxRecDepth 100000 in
theorem rx_oj239 : rx_chain (rx_code 239) = true := by decide +kernel
theorem rx_ok239 : rx_chain (rx_code 239) = true ∧ ∀ i ∈ rx_code 239, rx_chkI 239 i = true := by
  refine ⟨rx_oj239, fun i hi => ?_⟩
  refine List.all_eq_true.mp rx_oi239_0 i ?_
  rw [List.take_of_length_le (Nat.le_of_ble_eq_true rfl)]
  simpa using hi
set_option maxRecDepth 100000 in
theorem rx_oi240_0 : (((rx_code 240).drop 0).take 100000).all (rx_chkI 240) = true := by decide +kernel
set_option maxRecDepth 100000 in
theorem rx_oj240 : rx_chain (rx_code 240) = true := by decide +kernel
theorem rx_ok240 : rx_chain (rx_code 240) = true ∧ ∀ i ∈ rx_code 240, rx_chkI 240 i = true := by
  refine ⟨rx_oj240, fun i hi => ?_⟩
  refine List.all_eq_true.mp rx_oi240_0 i ?_
  rw [List.take_of_length_le (Nat.le_of_ble_eq_true rfl)]
  simpa using hi
set_option maxRecDepth 100000 in
theorem rx_oi241_0 : (((rx_code 241).drop 0).take 100000).all (rx_chkI 241) = true := by decide +kernel
set_option maxRecDepth 100000 in
theorem rx_oj241 : rx_chain (rx_code 241) = true := by decide +kernel
theorem rx_ok241 : rx_chain (rx_code 241) = true ∧ ∀ i ∈ rx_code 241, rx_chkI 241 i = true := by
  refine ⟨rx_oj241, fun i hi => ?_⟩
  refine List.all_eq_true.mp rx_oi241_0 i ?_
  rw [List.take_of_length_le (Nat.le_of_ble_eq_true rfl)]
  simpa using hi
set_option maxRecDepth 100000 in
theorem rx_oi242_0 : (((rx_code 242).drop 0).take 100000).all (rx_chkI 242) = true := by decide +kernel
set_option maxRecDepth 100000 in
theorem rx_oj242 : rx_chain (rx_code 242) = true := by decide +kernel
theorem rx_ok242 : rx_chain (rx_code 242) = true ∧ ∀ i ∈ rx_code 242, rx_chkI 242 i = true := by
  refine ⟨rx_oj242, fun i hi => ?_⟩
  refine List.all_eq_true.mp rx_oi242_0 i ?_
  rw [List.take_of_length_le (Nat.le_of_ble_eq_true rfl)]
  simpa using hi
set_option maxRecDepth 100000 in
theorem rx_oi243_0 : (((rx_code 243).drop 0).take 100000).all (rx_chkI 243) = true := by decide +kernel
set_option maxRecDepth 100000 in
theorem rx_oj243 : rx_chain (rx_code 243) = true := by decide +kernel
theorem rx_ok243 : rx_chain (rx_code 243) = true ∧ ∀ i ∈ rx_code 243, rx_chkI 243 i = true := by
  refine ⟨rx_oj243, fun i hi => ?_⟩
  refine List.all_eq_true.mp rx_oi243_0 i ?_
  rw [List.take_of_length_le (Nat.le_of_ble_eq_true rfl)]
  simpa using hi
