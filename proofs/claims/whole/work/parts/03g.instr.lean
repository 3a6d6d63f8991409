set_option maxRecDepth 100000 in
theorem rx_oi244_0 : (((rx_code 244).drop 0).take 100000).all (rx_chkI 244) = true := by decide +kernel
set_option maxRecDepth 100000 in
theorem rx_oj244 : rx_chain (rx_code 244) = true := by decide +kernel
theorem rx_ok244 : rx_chain (rx_code 244) = true ∧ ∀ i ∈ rx_code 244, rx_chkI 244 i = true := by
  refine ⟨rx_oj244, fun i hi => ?_⟩
  refine List.all_eq_true.mp rx_oi244_0 i ?_
  rw [List.take_of_length_le (Nat.le_of_ble_eq_true rfl)]
  simpa using hi
set_option maxRecDepth 100000 in
theorem rx_oi245_0 : (((rx_code 245).drop 0).take 100000).all (rx_chkI 245) = true := by decide +kernel
set_option maxRecDepth 100000 in
theorem rx_oj245 : rx_chain (rx_code 245) = true := by decide +kernel
theorem rx_ok245 : rx_chain (rx_code 245) = true ∧ ∀ i ∈ rx_code 245, rx_chkI 245 i = true := by
  refine ⟨rx_oj245, fun i hi => ?_⟩
  refine List.all_eq_true.mp rx_oi245_0 i ?_
  rw [List.take_of_length_le (Nat.le_of_ble_eq_true rfl)]
  simpa using hi
set_option maxRecDepth 100000 in
theorem rx_oi246_0 : (((rx_code 246).drop 0).take 100000).all (rx_chkI 246) = true := by decide +kernel
set_option maxRecDepth 100000 in
theorem rx_oj246 : rx_chain (rx_code 246) = true := by decide +kernel
theorem rx_ok246 : rx_chain (rx_code 246) = true ∧ ∀ i ∈ rx_code 246, rx_chkI 246 i = true := by
  refine ⟨rx_oj246, fun i hi => ?_⟩
  refine List.all_eq_true.mp rx_oi246_0 i ?_
  rw [List.take_of_length_le (Nat.le_of_ble_eq_true rfl)]
  simpa using hi
set_option maxRecDepth 100000 in
theorem rx_oi247_0 : (((rx_code 247).drop 0).take 100000).all (rx_chkI 247) = true := by decide +kernel
set_option maxRecDepth 100000 in
theorem rx_oj247 : rx_chain (rx_code 247) = true := by decide +kernel
theorem rx_ok247 : rx_chain (rx_code 247) = true ∧ ∀ i ∈ rx_code 247, rx_chkI 247 i = true := by
  refine ⟨rx_oj247, fun i hi => ?_⟩
  refine List.all_eq_true.mp rx_oi247_0 i ?_
  rw [List.take_of_length_le (Nat.le_of_ble_eq_true rfl)]
  simpa using hi
set_option maxRecDepth 100000 in
theorem rx_oi248_0 : (((rx_code 248).drop 0).take 100000).all (rx_chkI 248) = true := by decide +kernel
set_option maxRecDepth 100000 in
theorem rx_oj248 : rx_chain (rx_code 248) = true := by decide +kernel
theorem rx_ok248 : rx_chain (rx_code 248) = true ∧ ∀ i ∈ rx_code 248, rx_chkI 248 i = true := by
  refine ⟨rx_oj248, fun i hi => ?_⟩
  refine List.all_eq_true.mp rx_oi248_0 i ?_
  rw [List.take_of_length_le (Nat.le_of_ble_eq_true rfl)]
  simpa using hi
set_option maxRecDepth 100000 in
theorem rx_oi249_0 : (((rx_code 249).drop 0).take 100000).all (rx_chkI 249) = true := by decide +kernel
set_option maxRecDepth 100000 in
theorem rx_oj249 : rx_chain (rx_code 249) = true := by decide +kernel
theorem rx_ok249 : rx_chain (rx_code 249) = true ∧ ∀ i ∈ rx_code 249, rx_chkI 249 i = true := by
  refine ⟨rx_oj249, fun i hi => ?_⟩
  refine List.all_eq_true.mp rx_oi249_0 i ?_
  rw [List.take_of_length_le (Nat.le_of_ble_eq_true rfl)]
  simpa using hi
set_option maxRecDepth 100000 in
theorem rx_oi250_0 : (((rx_code 250).drop 0).take 100000).all (rx_chkI 250) = true := by decide +kernel
set_option maxRecDepth 100000 in
theorem rx_oj250 : rx_chain (rx_code 250) = true := by decide +kernel
theorem rx_ok250 : rx_chain (rx_code 250) = true ∧ ∀ i ∈ rx_code 250, rx_chkI 250 i = true := by
  refine ⟨rx_oj250, fun i hi => ?_⟩
  refine List.all_eq_true.mp rx_oi250_0 i ?_
  rw [List.take_of_length_le (Nat.le_of_ble_eq_true rfl)]
  simpa using hi
set_option maxRecDepth 100000 in
theorem rx_oi251_0 : (((rx_code 251).drop 0).take 100000).all (rx_chkI 251) = true := by decide +kernel
set_option maxRecDepth 100000 in
theorem rx_oj251 : rx_chain (rx_code 251) = true := by decide +kernel
theorem rx_ok251 : rx_chain (rx_code 251) = true ∧ ∀ i ∈ rx_code 251, rx_chkI 251 i = true := by
  refine ⟨rx_oj251, fun i hi => ?_⟩
  refine List.all_eq_true.mp rx_oi251_0 i ?_
  rw [List.take_of_length_le (Nat.le_of_ble_eq_true rfl)]
  simpa using hi
set_option maxRecDepth 100000 in
theorem rx_oi252_0 : (((rx_code 252).drop 0).take 100000).all (rx_chkI 252) = true := by decide +kernel
set_option maxRecDepth 100000 in
theorem rx_oj252 : rx_chain (rx_code 252) = true := by decide +kernel
theorem rx_ok252 : rx_chain (rx_code 252) = true ∧ ∀ i ∈ rx_code 252, rx_chkI 252 i = true := by
  refine ⟨rx_oj252, fun i hi => ?_⟩
  refine List.all_eq_true.mp rx_oi252_0 i ?_
  rw [List.take_of_length_le (Nat.le_of_ble_eq_true rfl)]
  simpa using hi
set_option maxRecDepth 100000 in
theorem rx_oi253_0 : (((rx_code 253).drop 0).take 100000).all (rx_chkI 253) = true := by decide +kernel
set_option maxRecDepth 100000 in
theorem rx_oj253 : rx_chain (rx_code 253) = true := by decide +kernel
theorem rx_ok253 : rx_chain (rx_code 253) = true ∧ ∀ i ∈ rx_code 253, rx_chkI 253 i = true := by
  refine ⟨rx_oj253, fun i hi => ?_⟩
  refine List.all_eq_true.mp rx_oi253_0 i ?_
  rw [List.take_of_length_le (Nat.le_of_ble_eq_true rfl)]
  simpa using hi
set_option maxRecDepth 100000 in
theorem rx_oi254_0 : (((rx_code 254).drop 0).take 100000).all (rx_chkI 254) = true := by decide +kernel
set_option maxRecDepth 100000 in
theorem rx_oj254 : rx_chain (rx_code 254) = true := by decide +kernel
theorem rx_ok254 : rx_chain (rx_code 254) = true ∧ ∀ i ∈ rx_code 254, rx_chkI 254 i = true := by
  refine ⟨rx_oj254, fun i hi => ?_⟩
  refine List.all_eq_true.mp rx_oi254_0 i ?_
  rw [List.take_of_length_le (Nat.le_of_ble_eq_true rfl)]
  simpa using hi
set_option maxRecDepth 100000 in
theorem rx_oi255_0 : (((rx_code 255).drop 0).take 100000).all (rx_chkI 255) = true := by decide +kernel
set_option maxRecDepth 100000 in
theorem rx_oj255 : rx_chain (rx_code 255) = true := by decide +kernel
theorem rx_ok255 : rx_chain (rx_code 255) = true ∧ ∀ i ∈ rx_code 255, rx_chkI 255 i = true := by
  refine ⟨rx_oj255, fun i hi => ?_⟩
  refine List.all_eq_true.mp rx_oi255_0 i ?_
  rw [List.take_of_length_le (Nat.le_of_ble_eq_true rfl)]
  simpa using hi
set_option maxRecDepth 100000 in
theorem rx_oi256_0 : (((rx_code 256).drop 0).take 100000).all (rx_chkI 256) = true := by decide +kernel
set_option maxRecDepth 100000 in
theorem rx_oj256 : rx_chain (rx_code 256) = true := by decide +kernel
theorem rx_ok256 : rx_chain (rx_code 256) = true ∧ ∀ i ∈ rx_code 256, rx_chkI 256 i = true := by
  refine ⟨rx_oj256, fun i hi => ?_⟩
  refine List.all_eq_true.mp rx_oi256_0 i ?_
  rw [List.take_of_length_le (Nat.le_of_ble_eq_true rfl)]
  simpa using hi
set_option maxRecDepth 100000 in
theorem rx_oi257_0 : (((rx_code 257).drop 0).take 100000).all (rx_chkI 257) = true := by decide +kernel
set_option maxRecDepth 100000 in
theorem rx_oj257 : rx_chain (rx_code 257) = true := by decide +kernel
theorem rx_ok257 : rx_chain (rx_code 257) = true ∧ ∀ i ∈ rx_code 257, rx_chkI 257 i = true := by
  refine ⟨rx_oj257, fun i hi => ?_⟩
  refine List.all_eq_true.mp rx_oi257_0 i ?_
  rw [List.take_of_length_le (Nat.le_of_ble_eq_true rfl)]
  simpa using hi
set_option maxRecDepth 100000 in
theorem rx_oi258_0 : (((rx_code 258).drop 0).take 100000).all (rx_chkI 258) = true := by decide +kernel
set_option maxRecDepth 100000 in
theorem rx_oj258 : rx_chain (rx_code 258) = true := by decide +kernel
theorem rx_ok258 : rx_chain (rx_code 258) = true ∧ ∀ i ∈ rx_code 258, rx_chkI 258 i = true := by
  refine ⟨rx_oj258, fun i hi => ?_⟩
  refine List.all_eq_true.mp rx_oi258_0 i ?_
  rw [List.take_of_length_le (Nat.le_of_ble_eq_true rfl)]
  simpa using hi
set_option maxRecDepth 100000 in
theorem rx_oi259_0 : (((rx_code 259).drop 0).take 100000).all (rx_chkI 259) = true := by decide +kernel
set_option maxRecDepth 100000 in
theorem rx_oj259 : rx_chain (rx_code 259) = true := by decide +kernel
theorem rx_ok259 : rx_chain (rx_code 259) = true ∧ ∀ i ∈ rx_code 259, rx_chkI 259 i = true := by
  refine ⟨rx_oj259, fun i hi => ?_⟩
  refine List.all_eq_true.mp rx_oi259_0 i ?_
  rw [List.take_of_length_le (Nat.le_of_ble_eq_true rfl)]
  simpa using hi
set_option maxRecDepth 100000 in
theorem rx_oi260_0 : (((rx_code 260).drop 0).take 100000).all (rx_chkI 260) = true := by decide +kernel
set_option maxRecDepth 100000 in
theorem rx_oj260 : rx_chain (rx_code 260) = true := by decide +kernel
theorem rx_ok260 : rx_chain (rx_code 260) = true ∧ ∀ i ∈ rx_code 260, rx_chkI 260 i = true := by
  refine ⟨rx_oj260, fun i hi => ?_⟩
  refine List.all_eq_true.mp rx_oi260_0 i ?_
  rw [List.take_of_length_le (Nat.le_of_ble_eq_true rfl)]
  simpa using hi
set_option maxRecDepth 100000 in
theorem rx_oi261_0 : (((rx_code 261).drop 0).take 100000).all (rx_chkI 261) = true := by decide +kernel
set_option maxRecDepth 100000 in
theorem rx_oj261 : rx_chain (rx_code 261) = true := by decide +kernel
theorem rx_ok261 : rx_chain (rx_code 261) = true ∧ ∀ i ∈ rx_code 261, rx_chkI 261 i = true := by
  refine ⟨rx_oj261, fun i hi => ?_⟩
  refine List.all_eq_true.mp rx_oi261_0 i ?_
  rw [List.take_of_length_le (Nat.le_of_ble_eq_true rfl)]
  simpa using hi
set_option maxRecDepth 100000 in
theorem rx_oi262_0 : (((rx_code 262).drop 0).take 100000).all (rx_chkI 262) = true := by decide +kernel
set_option maxRecDepth 100000 in
theorem rx_oj262 : rx_chain (rx_code 262) = true := by decide +kernel
theorem rx_ok262 : rx_chain (rx_code 262) = true ∧ ∀ i ∈ rx_code 262, rx_chkI 262 i = true := by
  refine ⟨rx_oj262, fun i hi => ?_⟩
  refine List.all_eq_true.mp rx_oi262_0 i ?_
  rw [List.take_of_length_le (Nat.le_of_ble_eq_true rfl)]
  simpa using hi
set_option maxRecDepth 100000 in
theorem rx_oi263_0 : (((rx_code 263).drop 0).take 120).all (rx_chkI 263) = true := by decide +kernel
set_option maxRecDepth 100000 in
theorem rx_oi263_1 : (((rx_code 263).drop 120).take 120).all (rx_chkI 263) = true := by decide +kernel
set_option maxRecDepth 100000 in
theorem rx_oi263_2 : (((rx_code 263).drop 240).take 120).all (rx_chkI 263) = true := by decide +kernel
set_option maxRecDepth 100000 in
theorem rx_oi263_3 : (((rx_code 263).drop 360).take 120).all (rx_chkI 263) = true := by decide +kernel
set_option maxRecDepth 100000 in
theorem rx_oi263_4 : (((rx_code 263).drop 480).take 120).all (rx_chkI 263) = true := by decide +kernel
set_option maxRecDepth 100000 in
theorem rx_oi263_5 : (((rx_code 263).drop 600).take 120).all (rx_chkI 263) = true := by decide +kernel
set_option maxRecDepth 100000 in
theorem rx_oi263_6 : (((rx_code 263).drop 720).take 120).all (rx_chkI 263) = true := by decide +kernel
set_option maxRecDepth 100000 in
theorem rx_oi263_7 : (((rx_code 263).drop 840).take 120).all (rx_chkI 263) = true := by decide +kernel
set_option maxRecDepth 100000 in
theorem rx_oi263_8 : (((rx_code 263).drop 960).take 100000).all (rx_chkI 263) = true := by decide +kernel
set_option maxRecDepth 100000 in
theorem rx_oj263 : rx_chain (rx_code 263) = true := by decide +kernel
set_option maxRecDepth 1000000 in
theorem rx_ok263 : rx_chain (rx_code 263) = true ∧ ∀ i ∈ rx_code 263, rx_chkI 263 i = true := by
  refine ⟨rx_oj263, fun i hi => ?_⟩
  by_cases h0 : i ∈ ((rx_code 263).drop 0).take 120
  · exact List.all_eq_true.mp rx_oi263_0 i h0
  replace hi : i ∈ ((rx_code 263).drop 0).drop 120 := by
    have h := List.take_append_drop 120 ((rx_code 263).drop 0)
    rw [List.drop_zero] at h h0 ⊢; rw [← h] at hi
    exact (List.mem_append.mp hi).resolve_left h0
  rw [List.drop_drop] at hi
  by_cases h1 : i ∈ ((rx_code 263).drop 120).take 120
  · exact List.all_eq_true.mp rx_oi263_1 i h1
  replace hi : i ∈ ((rx_code 263).drop 120).drop 120 := by
    have h := List.take_append_drop 120 ((rx_code 263).drop 120)
    rw [← h] at hi
    exact (List.mem_append.mp hi).resolve_left h1
  rw [List.drop_drop] at hi
  by_cases h2 : i ∈ ((rx_code 263).drop 240).take 120
  · exact List.all_eq_true.mp rx_oi263_2 i h2
  replace hi : i ∈ ((rx_code 263).drop 240).drop 120 := by
    have h := List.take_append_drop 120 ((rx_code 263).drop 240)
    rw [← h] at hi
    exact (List.mem_append.mp hi).resolve_left h2
  rw [List.drop_drop] at hi
  by_cases h3 : i ∈ ((rx_code 263).drop 360).take 120
  · exact List.all_eq_true.mp rx_oi263_3 i h3
  replace hi : i ∈ ((rx_code 263).drop 360).drop 120 := by
    have h := List.take_append_drop 120 ((rx_code 263).drop 360)
    rw [← h] at hi
    exact (List.mem_append.mp hi).resolve_left h3
  rw [List.drop_drop] at hi
  by_cases h4 : i ∈ ((rx_code 263).drop 480).take 120
  · exact List.all_eq_true.mp rx_oi263_4 i h4
  replace hi : i ∈ ((rx_code 263).drop 480).drop 120 := by
    have h := List.take_append_drop 120 ((rx_code 263).drop 480)
    rw [← h] at hi
    exact (List.mem_append.mp hi).resolve_left h4
  rw [List.drop_drop] at hi
  by_cases h5 : i ∈ ((rx_code 263).drop 600).take 120
  · exact List.all_eq_true.mp rx_oi263_5 i h5
  replace hi : i ∈ ((rx_code 263).drop 600).drop 120 := by
    have h := List.take_append_drop 120 ((rx_code 263).drop 600)
    rw [← h] at hi
    exact (List.mem_append.mp hi).resolve_left h5
  rw [List.drop_drop] at hi
  by_cases h6 : i ∈ ((rx_code 263).drop 720).take 120
  · exact List.all_eq_true.mp rx_oi263_6 i h6
  replace hi : i ∈ ((rx_code 263).drop 720).drop 120 := by
    have h := List.take_append_drop 120 ((rx_code 263).drop 720)
    rw [← h] at hi
    exact (List.mem_append.mp hi).resolve_left h6
  rw [List.drop_drop] at hi
  by_cases h7 : i ∈ ((rx_code 263).drop 840).take 120
  · exact List.all_eq_true.mp rx_oi263_7 i h7
  replace hi : i ∈ ((rx_code 263).drop 840).drop 120 := by
    have h := List.take_append_drop 120 ((rx_code 263).drop 840)
    rw [← h] at hi
    exact (List.mem_append.mp hi).resolve_left h7
  rw [List.drop_drop] at hi
  refine List.all_eq_true.mp rx_oi263_8 i ?_
  rw [List.take_of_length_le (Nat.le_of_ble_eq_true rfl)]
  simpa using hi
