set_option maxRecDepth 100000 in
theorem rx_oi147_0 : (((rx_code 147).drop 0).take 100000).all (rx_chkI 147) = true := by decide +kernel
set_option maxRecDepth 100000 in
theorem rx_oj147 : rx_chain (rx_code 147) = true := by decide +kernel
theorem rx_ok147 : rx_chain (rx_code 147) = true ∧ ∀ i ∈ rx_code 147, rx_chkI 147 i = true := by
  refine ⟨rx_oj147, fun i hi => ?_⟩
  refine List.all_eq_true.mp rx_oi147_0 i ?_
  rw [List.take_of_length_le (Nat.le_of_ble_eq_true rfl)]
  simpa using hi
set_option maxRecDepth 100000 in
theorem rx_oi148_0 : (((rx_code 148).drop 0).take 100000).all (rx_chkI 148) = true := by decide +kernel
set_option maxRecDepth 100000 in
theorem rx_oj148 : rx_chain (rx_code 148) = true := by decide +kernel
theorem rx_ok148 : rx_chain (rx_code 148) = true ∧ ∀ i ∈ rx_code 148, rx_chkI 148 i = true := by
  refine ⟨rx_oj148, fun i hi => ?_⟩
  refine List.all_eq_true.mp rx_oi148_0 i ?_
  rw [List.take_of_length_le (Nat.le_of_ble_eq_true rfl)]
  simpa using hi
set_option maxRecDepth 100000 in
theorem rx_oi149_0 : (((rx_code 149).drop 0).take 100000).all (rx_chkI 149) = true := by decide +kernel
set_option maxRecDepth 100000 in
theorem rx_oj149 : rx_chain (rx_code 149) = true := by decide +kernel
theorem rx_ok149 : rx_chain (rx_code 149) = true ∧ ∀ i ∈ rx_code 149, rx_chkI 149 i = true := by
  refine ⟨rx_oj149, fun i hi => ?_⟩
  refine List.all_eq_true.mp rx_oi149_0 i ?_
  rw [List.take_of_length_le (Nat.le_of_ble_eq_true rfl)]
  simpa using hi
set_option maxRecDepth 100000 in
theorem rx_oi150_0 : (((rx_code 150).drop 0).take 100000).all (rx_chkI 150) = true := by decide +kernel
set_option maxRecDepth 100000 in
theorem rx_oj150 : rx_chain (rx_code 150) = true := by decide +kernel
theorem rx_ok150 : rx_chain (rx_code 150) = true ∧ ∀ i ∈ rx_code 150, rx_chkI 150 i = true := by
  refine ⟨rx_oj150, fun i hi => ?_⟩
  refine List.all_eq_true.mp rx_oi150_0 i ?_
  rw [List.take_of_length_le (Nat.le_of_ble_eq_true rfl)]
  simpa using hi
set_option maxRecDepth 100000 in
theorem rx_oi151_0 : (((rx_code 151).drop 0).take 100000).all (rx_chkI 151) = true := by decide +kernel
set_option maxRecDepth 100000 in
theorem rx_oj151 : rx_chain (rx_code 151) = true := by decide +kernel
theorem rx_ok151 : rx_chain (rx_code 151) = true ∧ ∀ i ∈ rx_code 151, rx_chkI 151 i = true := by
  refine ⟨rx_oj151, fun i hi => ?_⟩
  refine List.all_eq_true.mp rx_oi151_0 i ?_
  rw [List.take_of_length_le (Nat.le_of_ble_eq_true rfl)]
  simpa using hi
set_option maxRecDepth 100000 in
theorem rx_oi152_0 : (((rx_code 152).drop 0).take 100000).all (rx_chkI 152) = true := by decide +kernel
set_option maxRecDepth 100000 in
theorem rx_oj152 : rx_chain (rx_code 152) = true := by decide +kernel
theorem rx_ok152 : rx_chain (rx_code 152) = true ∧ ∀ i ∈ rx_code 152, rx_chkI 152 i = true := by
  refine ⟨rx_oj152, fun i hi => ?_⟩
  refine List.all_eq_true.mp rx_oi152_0 i ?_
  rw [List.take_of_length_le (Nat.le_of_ble_eq_true rfl)]
  simpa using hi
set_option maxRecDepth 100000 in
theorem rx_oi153_0 : (((rx_code 153).drop 0).take 100000).all (rx_chkI 153) = true := by decide +kernel
set_option maxRecDepth 100000 in
theorem rx_oj153 : rx_chain (rx_code 153) = true := by decide +kernel
theorem rx_ok153 : rx_chain (rx_code 153) = true ∧ ∀ i ∈ rx_code 153, rx_chkI 153 i = true := by
  refine ⟨rx_oj153, fun i hi => ?_⟩
  refine List.all_eq_true.mp rx_oi153_0 i ?_
  rw [List.take_of_length_le (Nat.le_of_ble_eq_true rfl)]
  simpa using hi
set_option maxRecDepth 100000 in
theorem rx_oi154_0 : (((rx_code 154).drop 0).take 100000).all (rx_chkI 154) = true := by decide +kernel
set_option maxRecDepth 100000 in
theorem rx_oj154 : rx_chain (rx_code 154) = true := by decide +kernel
theorem rx_ok154 : rx_chain (rx_code 154) = true ∧ ∀ i ∈ rx_code 154, rx_chkI 154 i = true := by
  refine ⟨rx_oj154, fun i hi => ?_⟩
  refine List.all_eq_true.mp rx_oi154_0 i ?_
  rw [List.take_of_length_le (Nat.le_of_ble_eq_true rfl)]
  simpa using hi
set_option maxRecDepth 100000 in
theorem rx_oi155_0 : (((rx_code 155).drop 0).take 100000).all (rx_chkI 155) = true := by decide +kernel
set_option maxRecDepth 100000 in
theorem rx_oj155 : rx_chain (rx_code 155) = true := by decide +kernel
theorem rx_ok155 : rx_chain (rx_code 155) = true ∧ ∀ i ∈ rx_code 155, rx_chkI 155 i = true := by
  refine ⟨rx_oj155, fun i hi => ?_⟩
  refine List.all_eq_true.mp rx_oi155_0 i ?_
  rw [List.take_of_length_le (Nat.le_of_ble_eq_true rfl)]
  simpa using hi
set_option maxRecDepth 100000 in
theorem rx_oi156_0 : (((rx_code 156).drop 0).take 100000).all (rx_chkI 156) = true := by decide +kernel
set_option maxRecDepth 100000 in
theorem rx_oj156 : rx_chain (rx_code 156) = true := by decide +kernel
theorem rx_ok156 : rx_chain (rx_code 156) = true ∧ ∀ i ∈ rx_code 156, rx_chkI 156 i = true := by
  refine ⟨rx_oj156, fun i hi => ?_⟩
  refine List.all_eq_true.mp rx_oi156_0 i ?_
  rw [List.take_of_length_le (Nat.le_of_ble_eq_true rfl)]
  simpa using hi
set_option maxRecDepth 100000 in
theorem rx_oi157_0 : (((rx_code 157).drop 0).take 100000).all (rx_chkI 157) = true := by decide +kernel
set_option maxRecDepth 100000 in
theorem rx_oj157 : rx_chain (rx_code 157) = true := by decide +kernel
theorem rx_ok157 : rx_chain (rx_code 157) = true ∧ ∀ i ∈ rx_code 157, rx_chkI 157 i = true := by
  refine ⟨rx_oj157, fun i hi => ?_⟩
  refine List.all_eq_true.mp rx_oi157_0 i ?_
  rw [List.take_of_length_le (Nat.le_of_ble_eq_true rfl)]
  simpa using hi
set_option maxRecDepth 100000 in
theorem rx_oi158_0 : (((rx_code 158).drop 0).take 100000).all (rx_chkI 158) = true := by decide +kernel
set_option maxRecDepth 100000 in
theorem rx_oj158 : rx_chain (rx_code 158) = true := by decide +kernel
theorem rx_ok158 : rx_chain (rx_code 158) = true ∧ ∀ i ∈ rx_code 158, rx_chkI 158 i = true := by
  refine ⟨rx_oj158, fun i hi => ?_⟩
  refine List.all_eq_true.mp rx_oi158_0 i ?_
  rw [List.take_of_length_le (Nat.le_of_ble_eq_true rfl)]
  simpa using hi
set_option maxRecDepth 100000 in
theorem rx_oi159_0 : (((rx_code 159).drop 0).take 100000).all (rx_chkI 159) = true := by decide +kernel
set_option maxRecDepth 100000 in
theorem rx_oj159 : rx_chain (rx_code 159) = true := by decide +kernel
theorem rx_ok159 : rx_chain (rx_code 159) = true ∧ ∀ i ∈ rx_code 159, rx_chkI 159 i = true := by
  refine ⟨rx_oj159, fun i hi => ?_⟩
  refine List.all_eq_true.mp rx_oi159_0 i ?_
  rw [List.take_of_length_le (Nat.le_of_ble_eq_true rfl)]
  simpa using hi
set_option maxRecDepth 100000 in
theorem rx_oi160_0 : (((rx_code 160).drop 0).take 100000).all (rx_chkI 160) = true := by decide +kernel
set_option maxRecDepth 100000 in
theorem rx_oj160 : rx_chain (rx_code 160) = true := by decide +kernel
theorem rx_ok160 : rx_chain (rx_code 160) = true ∧ ∀ i ∈ rx_code 160, rx_chkI 160 i = true := by
  refine ⟨rx_oj160, fun i hi => ?_⟩
  refine List.all_eq_true.mp rx_oi160_0 i ?_
  rw [List.take_of_length_le (Nat.le_of_ble_eq_true rfl)]
  simpa using hi
set_option maxRecDepth 100000 in
theorem rx_oi161_0 : (((rx_code 161).drop 0).take 100000).all (rx_chkI 161) = true := by decide +kernel
set_option maxRecDepth 100000 in
theorem rx_oj161 : rx_chain (rx_code 161) = true := by decide +kernel
theorem rx_ok161 : rx_chain (rx_code 161) = true ∧ ∀ i ∈ rx_code 161, rx_chkI 161 i = true := by
  refine ⟨rx_oj161, fun i hi => ?_⟩
  refine List.all_eq_true.mp rx_oi161_0 i ?_
  rw [List.take_of_length_le (Nat.le_of_ble_eq_true rfl)]
  simpa using hi
set_option maxRecDepth 100000 in
theorem rx_oi162_0 : (((rx_code 162).drop 0).take 120).all (rx_chkI 162) = true := by decide +kernel
set_option maxRecDepth 100000 in
theorem rx_oi162_1 : (((rx_code 162).drop 120).take 120).all (rx_chkI 162) = true := by decide +kernel
set_option maxRecDepth 100000 in
theorem rx_oi162_2 : (((rx_code 162).drop 240).take 120).all (rx_chkI 162) = true := by decide +kernel
set_option maxRecDepth 100000 in
theorem rx_oi162_3 : (((rx_code 162).drop 360).take 120).all (rx_chkI 162) = true := by decide +kernel
set_option maxRecDepth 100000 in
theorem rx_oi162_4 : (((rx_code 162).drop 480).take 100000).all (rx_chkI 162) = true := by decide +kernel
set_option maxRecDepth 100000 in
theorem rx_oj162 : rx_chain (rx_code 162) = true := by decide +kernel
theorem rx_ok162 : rx_chain (rx_code 162) = true ∧ ∀ i ∈ rx_code 162, rx_chkI 162 i = true := by
  refine ⟨rx_oj162, fun i hi => ?_⟩
  by_cases h0 : i ∈ ((rx_code 162).drop 0).take 120
  · exact List.all_eq_true.mp rx_oi162_0 i h0
  replace hi : i ∈ ((rx_code 162).drop 0).drop 120 := by
    have h := List.take_append_drop 120 ((rx_code 162).drop 0)
    rw [List.drop_zero] at h h0 ⊢; rw [← h] at hi
    exact (List.mem_append.mp hi).resolve_left h0
  rw [List.drop_drop] at hi
  by_cases h1 : i ∈ ((rx_code 162).drop 120).take 120
  · exact List.all_eq_true.mp rx_oi162_1 i h1
  replace hi : i ∈ ((rx_code 162).drop 120).drop 120 := by
    have h := List.take_append_drop 120 ((rx_code 162).drop 120)
    rw [← h] at hi
    exact (List.mem_append.mp hi).resolve_left h1
  rw [List.drop_drop] at hi
  by_cases h2 : i ∈ ((rx_code 162).drop 240).take 120
  · exact List.all_eq_true.mp rx_oi162_2 i h2
  replace hi : i ∈ ((rx_code 162).drop 240).drop 120 := by
    have h := List.take_append_drop 120 ((rx_code 162).drop 240)
    rw [← h] at hi
    exact (List.mem_append.mp hi).resolve_left h2
  rw [List.drop_drop] at hi
  by_cases h3 : i ∈ ((rx_code 162).drop 360).take 120
  · exact List.all_eq_true.mp rx_oi162_3 i h3
  replace hi : i ∈ ((rx_code 162).drop 360).drop 120 := by
    have h := List.take_append_drop 120 ((rx_code 162).drop 360)
    rw [← h] at hi
    exact (List.mem_append.mp hi).resolve_left h3
  rw [List.drop_drop] at hi
  refine List.all_eq_true.mp rx_oi162_4 i ?_
  rw [List.take_of_length_le (Nat.le_of_ble_eq_true rfl)]
  simpa using hi
set_option maxRecDepth 100000 in
theorem rx_oi163_0 : (((rx_code 163).drop 0).take 100000).all (rx_chkI 163) = true := by decide +kernel
set_option maxRecDepth 100000 in
theorem rx_oj163 : rx_chain (rx_code 163) = true := by decide +kernel
theorem rx_ok163 : rx_chain (rx_code 163) = true ∧ ∀ i ∈ rx_code 163, rx_chkI 163 i = true := by
  refine ⟨rx_oj163, fun i hi => ?_⟩
  refine List.all_eq_true.mp rx_oi163_0 i ?_
  rw [List.take_of_length_le (Nat.le_of_ble_eq_true rfl)]
  simpa using hi
set_option maxRecDepth 100000 in
theorem rx_oi164_0 : (((rx_code 164).drop 0).take 100000).all (rx_chkI 164) = true := by decide +kernel
set_option maxRecDepth 100000 in
theorem rx_oj164 : rx_chain (rx_code 164) = true := by decide +kernel
theorem rx_ok164 : rx_chain (rx_code 164) = true ∧ ∀ i ∈ rx_code 164, rx_chkI 164 i = true := by
  refine ⟨rx_oj164, fun i hi => ?_⟩
  refine List.all_eq_true.mp rx_oi164_0 i ?_
  rw [List.take_of_length_le (Nat.le_of_ble_eq_true rfl)]
  simpa using hi
set_option maxRecDepth 100000 in
theorem rx_oi165_0 : (((rx_code 165).drop 0).take 100000).all (rx_chkI 165) = true := by decide +kernel
set_option maxRecDepth 100000 in
theorem rx_oj165 : rx_chain (rx_code 165) = true := by decide +kernel
theorem rx_ok165 : rx_chain (rx_code 165) = true ∧ ∀ i ∈ rx_code 165, rx_chkI 165 i = true := by
  refine ⟨rx_oj165, fun i hi => ?_⟩
  refine List.all_eq_true.mp rx_oi165_0 i ?_
  rw [List.take_of_length_le (Nat.le_of_ble_eq_true rfl)]
  simpa using hi
set_option maxRecDepth 100000 in
theorem rx_oi166_0 : (((rx_code 166).drop 0).take 100000).all (rx_chkI 166) = true := by decide +kernel
set_option maxRecDepth 100000 in
theorem rx_oj166 : rx_chain (rx_code 166) = true := by decide +kernel
theorem rx_ok166 : rx_chain (rx_code 166) = true ∧ ∀ i ∈ rx_code 166, rx_chkI 166 i = true := by
  refine ⟨rx_oj166, fun i hi => ?_⟩
  refine List.all_eq_true.mp rx_oi166_0 i ?_
  rw [List.take_of_length_le (Nat.le_of_ble_eq_true rfl)]
  simpa using hi
set_option maxRecDepth 100000 in
theorem rx_oi167_0 : (((rx_code 167).drop 0).take 100000).all (rx_chkI 167) = true := by decide +kernel
set_option maxRecDepth 100000 in
theorem rx_oj167 : rx_chain (rx_code 167) = true := by decide +kernel
theorem rx_ok167 : rx_chain (rx_code 167) = true ∧ ∀ i ∈ rx_code 167, rx_chkI 167 i = true := by
  refine ⟨rx_oj167, fun i hi => ?_⟩
  refine List.all_eq_true.mp rx_oi167_0 i ?_
  rw [List.take_of_length_le (Nat.le_of_ble_eq_true rfl)]
  simpa using hi
set_option maxRecDepth 100000 in
theorem rx_oi168_0 : (((rx_code 168).drop 0).take 100000).all (rx_chkI 168) = true := by decide +kernel
set_option maxRecDepth 100000 in
theorem rx_oj168 : rx_chain (rx_code 168) = true := by decide +kernel
theorem rx_ok168 : rx_chain (rx_code 168) = true ∧ ∀ i ∈ rx_code 168, rx_chkI 168 i = true := by
  refine ⟨rx_oj168, fun i hi => ?_⟩
  refine List.all_eq_true.mp rx_oi168_0 i ?_
  rw [List.take_of_length_le (Nat.le_of_ble_eq_true rfl)]
  simpa using hi
set_option maxRecDepth 100000 in
theorem rx_oi169_0 : (((rx_code 169).drop 0).take 100000).all (rx_chkI 169) = true := by decide +kernel
set_option maxRecDepth 100000 in
theorem rx_oj169 : rx_chain (rx_code 169) = true := by decide +kernel
theorem rx_ok169 : rx_chain (rx_code 169) = true ∧ ∀ i ∈ rx_code 169, rx_chkI 169 i = true := by
  refine ⟨rx_oj169, fun i hi => ?_⟩
  refine List.all_eq_true.mp rx_oi169_0 i ?_
  rw [List.take_of_length_le (Nat.le_of_ble_eq_true rfl)]
  simpa using hi
set_option maxRecDepth 100000 in
theorem rx_oi170_0 : (((rx_code 170).drop 0).take 100000).all (rx_chkI 170) = true := by decide +kernel
set_option maxRecDepth 100000 in
theorem rx_oj170 : rx_chain (rx_code 170) = true := by decide +kernel
theorem rx_ok170 : rx_chain (rx_code 170) = true ∧ ∀ i ∈ rx_code 170, rx_chkI 170 i = true := by
  refine ⟨rx_oj170, fun i hi => ?_⟩
  refine List.all_eq_true.mp rx_oi170_0 i ?_
  rw [List.take_of_length_le (Nat.le_of_ble_eq_true rfl)]
  simpa using hi
set_option maxRecDepth 100000 in
theorem rx_oi171_0 : (((rx_code 171).drop 0).take 100000).all (rx_chkI 171) = true := by decide +kernel
set_option maxRecDepth 100000 in
theorem rx_oj171 : rx_chain (rx_code 171) = true := by decide +kernel
theorem rx_ok171 : rx_chain (rx_code 171) = true ∧ ∀ i ∈ rx_code 171, rx_chkI 171 i = true := by
  refine ⟨rx_oj171, fun i hi => ?_⟩
  refine List.all_eq_true.mp rx_oi171_0 i ?_
  rw [List.take_of_length_le (Nat.le_of_ble_eq_true rfl)]
  simpa using hi
set_option maxRecDepth 100000 in
theorem rx_oi172_0 : (((rx_code 172).drop 0).take 120).all (rx_chkI 172) = true := by decide +kernel
set_option maxRecDepth 100000 in
theorem rx_oi172_1 : (((rx_code 172).drop 120).take 100000).all (rx_chkI 172) = true := by decide +kernel
set_option maxRecDepth 100000 in
theorem rx_oj172 : rx_chain (rx_code 172) = true := by decide +kernel
theorem rx_ok172 : rx_chain (rx_code 172) = true ∧ ∀ i ∈ rx_code 172, rx_chkI 172 i = true := by
  refine ⟨rx_oj172, fun i hi => ?_⟩
  by_cases h0 : i ∈ ((rx_code 172).drop 0).take 120
  · exact List.all_eq_true.mp rx_oi172_0 i h0
  replace hi : i ∈ ((rx_code 172).drop 0).drop 120 := by
    have h := List.take_append_drop 120 ((rx_code 172).drop 0)
    rw [List.drop_zero] at h h0 ⊢; rw [← h] at hi
    exact (List.mem_append.mp hi).resolve_left h0
  rw [List.drop_drop] at hi
  refine List.all_eq_true.mp rx_oi172_1 i ?_
  rw [List.take_of_length_le (Nat.le_of_ble_eq_true rfl)]
  simpa using hi
set_option maxRecDepth 100000 in
theorem rx_oi173_0 : (((rx_code 173).drop 0).take 100000).all (rx_chkI 173) = true := by decide +kernel
set_option maxRecDepth 100000 in
theorem rx_oj173 : rx_chain (rx_code 173) = true := by decide +kernel
theorem rx_ok173 : rx_chain (rx_code 173) = true ∧ ∀ i ∈ rx_code 173, rx_chkI 173 i = true := by
  refine ⟨rx_oj173, fun i hi => ?_⟩
  refine List.all_eq_true.mp rx_oi173_0 i ?_
  rw [List.take_of_length_le (Nat.le_of_ble_eq_true rfl)]
  simpa using hi
set_option maxRecDepth 100000 in
theorem rx_oi174_0 : (((rx_code 174).drop 0).take 100000).all (rx_chkI 174) = true := by decide +kernel
set_option maxRecDepth 100000 in
theorem rx_oj174 : rx_chain (rx_code 174) = true := by decide +kernel
theorem rx_ok174 : rx_chain (rx_code 174) = true ∧ ∀ i ∈ rx_code 174, rx_chkI 174 i = true := by
  refine ⟨rx_oj174, fun i hi => ?_⟩
  refine List.all_eq_true.mp rx_oi174_0 i ?_
  rw [List.take_of_length_le (Nat.le_of_ble_eq_true rfl)]
  simpa using hi
set_option maxRecDepth 100000 in
theorem rx_oi175_0 : (((rx_code 175).drop 0).take 100000).all (rx_chkI 175) = true := by decide +kernel
set_option maxRecDepth 100000 in
theorem rx_oj175 : rx_chain (rx_code 175) = true := by decide +kernel
theorem rx_ok175 : rx_chain (rx_code 175) = true ∧ ∀ i ∈ rx_code 175, rx_chkI 175 i = true := by
  refine ⟨rx_oj175, fun i hi => ?_⟩
  refine List.all_eq_true.mp rx_oi175_0 i ?_
  rw [List.take_of_length_le (Nat.le_of_ble_eq_true rfl)]
  simpa using hi
set_option maxRecDepth 100000 in
theorem rx_oi176_0 : (((rx_code 176).drop 0).take 100000).all (rx_chkI 176) = true := by decide +kernel
set_option maxRecDepth 100000 in
theorem rx_oj176 : rx_chain (rx_code 176) = true := by decide +kernel
theorem rx_ok176 : rx_chain (rx_code 176) = true ∧ ∀ i ∈ rx_code 176, rx_chkI 176 i = true := by
  refine ⟨rx_oj176, fun i hi => ?_⟩
  refine List.all_eq_true.mp rx_oi176_0 i ?_
  rw [List.take_of_length_le (Nat.le_of_ble_eq_true rfl)]
  simpa using hi
set_option maxRecDepth 100000 in
theorem rx_oi177_0 : (((rx_code 177).drop 0).take 100000).all (rx_chkI 177) = true := by decide +kernel
set_option maxRecDepth 100000 in
theorem rx_oj177 : rx_chain (rx_code 177) = true := by decide +kernel
theorem rx_ok177 : rx_chain (rx_code 177) = true ∧ ∀ i ∈ rx_code 177, rx_chkI 177 i = true := by
  refine ⟨rx_oj177, fun i hi => ?_⟩
  refine List.all_eq_true.mp rx_oi177_0 i ?_
  rw [List.take_of_length_le (Nat.le_of_ble_eq_true rfl)]
  simpa using hi
set_option maxRecDepth 100000 in
theorem rx_oi178_0 : (((rx_code 178).drop 0).take 100000).all (rx_chkI 178) = true := by decide +kernel
set_option maxRecDepth 100000 in
theorem rx_oj178 : rx_chain (rx_code 178) = true := by decide +kernel
theorem rx_ok178 : rx_chain (rx_code 178) = true ∧ ∀ i ∈ rx_code 178, rx_chkI 178 i = true := by
  refine ⟨rx_oj178, fun i hi => ?_⟩
  refine List.all_eq_true.mp rx_oi178_0 i ?_
  rw [List.take_of_length_le (Nat.le_of_ble_eq_true rfl)]
  simpa using hi
set_option maxRecDepth 100000 in
theorem rx_oi179_0 : (((rx_code 179).drop 0).take 120).all (rx_chkI 179) = true := by decide +kernel
set_option maxRecDepth 100000 in
theorem rx_oi179_1 : (((rx_code 179).drop 120).take 100000).all (rx_chkI 179) = true := by decide +kernel
set_option maxRecDepth 100000 in
theorem rx_oj179 : rx_chain (rx_code 179) = true := by decide +kernel
theorem rx_ok179 : rx_chain (rx_code 179) = true ∧ ∀ i ∈ rx_code 179, rx_chkI 179 i = true := by
  refine ⟨rx_oj179, fun i hi => ?_⟩
  by_cases h0 : i ∈ ((rx_code 179).drop 0).take 120
  · exact List.all_eq_true.mp rx_oi179_0 i h0
  replace hi : i ∈ ((rx_code 179).drop 0).drop 120 := by
    have h := List.take_append_drop 120 ((rx_code 179).drop 0)
    rw [List.drop_zero] at h h0 ⊢; rw [← h] at hi
    exact (List.mem_append.mp hi).resolve_left h0
  rw [List.drop_drop] at hi
  refine List.all_eq_true.mp rx_oi179_1 i ?_
  rw [List.take_of_length_le (Nat.le_of_ble_eq_true rfl)]
  simpa using hi
set_option maxRecDepth 100000 in
theorem rx_oi180_0 : (((rx_code 180).drop 0).take 100000).all (rx_chkI 180) = true := by decide +kernel
set_option maxRecDepth 100000 in
theorem rx_oj180 : rx_chain (rx_code 180) = true := by decide +kernel
theorem rx_ok180 : rx_chain (rx_code 180) = true ∧ ∀ i ∈ rx_code 180, rx_chkI 180 i = true := by
  refine ⟨rx_oj180, fun i hi => ?_⟩
  refine List.all_eq_true.mp rx_oi180_0 i ?_
  rw [List.take_of_length_le (Nat.le_of_ble_eq_true rfl)]
  simpa using hi
set_option maxRecDepth 100000 in
theorem rx_oi181_0 : (((rx_code 181).drop 0).take 100000).all (rx_chkI 181) = true := by decide +kernel
set_option maxRecDepth 100000 in
theorem rx_oj181 : rx_chain (rx_code 181) = true := by decide +kernel
theorem rx_ok181 : rx_chain (rx_code 181) = true ∧ ∀ i ∈ rx_code 181, rx_chkI 181 i = true := by
  refine ⟨rx_oj181, fun i hi => ?_⟩
  refine List.all_eq_true.mp rx_oi181_0 i ?_
  rw [List.take_of_length_le (Nat.le_of_ble_eq_true rfl)]
  simpa using hi
set_option maxRecDepth 100000 in
theorem rx_oi182_0 : (((rx_code 182).drop 0).take 100000).all (rx_chkI 182) = true := by decide +kernel
set_option maxRecDepth 100000 in
theorem rx_oj182 : rx_chain (rx_code 182) = true := by decide +kernel
theorem rx_ok182 : rx_chain (rx_code 182) = true ∧ ∀ i ∈ rx_code 182, rx_chkI 182 i = true := by
  refine ⟨rx_oj182, fun i hi => ?_⟩
  refine List.all_eq_true.mp rx_oi182_0 i ?_
  rw [List.take_of_length_le (Nat.le_of_ble_eq_true rfl)]
  simpa using hi
set_option maxRecDepth 100000 in
theorem rx_oi183_0 : (((rx_code 183).drop 0).take 100000).all (rx_chkI 183) = true := by decide +kernel
set_option maxRecDepth 100000 in
theorem rx_oj183 : rx_chain (rx_code 183) = true := by decide +kernel
theorem rx_ok183 : rx_chain (rx_code 183) = true ∧ ∀ i ∈ rx_code 183, rx_chkI 183 i = true := by
  refine ⟨rx_oj183, fun i hi => ?_⟩
  refine List.all_eq_true.mp rx_oi183_0 i ?_
  rw [List.take_of_length_le (Nat.le_of_ble_eq_true rfl)]
  simpa using hi
set_option maxRecDepth 100000 in
theorem rx_oi184_0 : (((rx_code 184).drop 0).take 100000).all (rx_chkI 184) = true := by decide +kernel
set_option maxRecDepth 100000 in
theorem rx_oj184 : rx_chain (rx_code 184) = true := by decide +kernel
theorem rx_ok184 : rx_chain (rx_code 184) = true ∧ ∀ i ∈ rx_code 184, rx_chkI 184 i = true := by
  refine ⟨rx_oj184, fun i hi => ?_⟩
  refine List.all_eq_true.mp rx_oi184_0 i ?_
  rw [List.take_of_length_le (Nat.le_of_ble_eq_true rfl)]
  simpa using hi
set_option maxRecDepth 100000 in
theorem rx_oi185_0 : (((rx_code 185).drop 0).take 100000).all (rx_chkI 185) = true := by decide +kernel
set_option maxRecDepth 100000 in
theorem rx_oj185 : rx_chain (rx_code 185) = true := by decide +kernel
theorem rx_ok185 : rx_chain (rx_code 185) = true ∧ ∀ i ∈ rx_code 185, rx_chkI 185 i = true := by
  refine ⟨rx_oj185, fun i hi => ?_⟩
  refine List.all_eq_true.mp rx_oi185_0 i ?_
  rw [List.take_of_length_le (Nat.le_of_ble_eq_true rfl)]
  simpa using hi
set_option maxRecDepth 100000 in
theorem rx_oi186_0 : (((rx_code 186).drop 0).take 100000).all (rx_chkI 186) = true := by decide +kernel
set_option maxRecDepth 100000 in
theorem rx_oj186 : rx_chain (rx_code 186) = true := by decide +kernel
theorem rx_ok186 : rx_chain (rx_code 186) = true ∧ ∀ i ∈ rx_code 186, rx_chkI 186 i = true := by
  refine ⟨rx_oj186, fun i hi => ?_⟩
  refine List.all_eq_true.mp rx_oi186_0 i ?_
  rw [List.take_of_length_le (Nat.le_of_ble_eq_true rfl)]
  simpa using hi
set_option maxRecDepth 100000 in
theorem rx_oi187_0 : (((rx_code 187).drop 0).take 100000).all (rx_chkI 187) = true := by decide +kernel
set_option maxRecDepth 100000 in
theorem rx_oj187 : rx_chain (rx_code 187) = true := by decide +kernel
theorem rx_ok187 : rx_chain (rx_code 187) = true ∧ ∀ i ∈ rx_code 187, rx_chkI 187 i = true := by
  refine ⟨rx_oj187, fun i hi => ?_⟩
  refine List.all_eq_true.mp rx_oi187_0 i ?_
  rw [List.take_of_length_le (Nat.le_of_ble_eq_true rfl)]
  simpa using hi
set_option maxRecDepth 100000 in
theorem rx_oi188_0 : (((rx_code 188).drop 0).take 120).all (rx_chkI 188) = true := by decide +kernel
set_option maxRecDepth 100000 in
theorem rx_oi188_1 : (((rx_code 188).drop 120).take 100000).all (rx_chkI 188) = true := by decide +kernel
set_option maxRecDepth 100000 in
theorem rx_oj188 : rx_chain (rx_code 188) = true := by decide +kernel
theorem rx_ok188 : rx_chain (rx_code 188) = true ∧ ∀ i ∈ rx_code 188, rx_chkI 188 i = true := by
  refine ⟨rx_oj188, fun i hi => ?_⟩
  by_cases h0 : i ∈ ((rx_code 188).drop 0).take 120
  · exact List.all_eq_true.mp rx_oi188_0 i h0
  replace hi : i ∈ ((rx_code 188).drop 0).drop 120 := by
    have h := List.take_append_drop 120 ((rx_code 188).drop 0)
    rw [List.drop_zero] at h h0 ⊢; rw [← h] at hi
    exact (List.mem_append.mp hi).resolve_left h0
  rw [List.drop_drop] at hi
  refine List.all_eq_true.mp rx_oi188_1 i ?_
  rw [List.take_of_length_le (Nat.le_of_ble_eq_true rfl)]
  simpa using hi
set_option maxRecDepth 100000 in
theorem rx_oi189_0 : (((rx_code 189).drop 0).take 100000).all (rx_chkI 189) = true := by decide +kernel
set_option maxRecDepth 100000 in
theorem rx_oj189 : rx_chain (rx_code 189) = true := by decide +kernel
theorem rx_ok189 : rx_chain (rx_code 189) = true ∧ ∀ i ∈ rx_code 189, rx_chkI 189 i = true := by
  refine ⟨rx_oj189, fun i hi => ?_⟩
  refine List.all_eq_true.mp rx_oi189_0 i ?_
  rw [List.take_of_length_le (Nat.le_of_ble_eq_true rfl)]
  simpa using hi
set_option maxRecDepth 100000 in
theorem rx_oi190_0 : (((rx_code 190).drop 0).take 120).all (rx_chkI 190) = true := by decide +kernel
set_option maxRecDepth 100000 in
theorem rx_oi190_1 : (((rx_code 190).drop 120).take 100000).all (rx_chkI 190) = true := by decide +kernel
set_option maxRecDepth 100000 in
theorem rx_oj190 : rx_chain (rx_code 190) = true := by decide +kernel
theorem rx_ok190 : rx_chain (rx_code 190) = true ∧ ∀ i ∈ rx_code 190, rx_chkI 190 i = true := by
  refine ⟨rx_oj190, fun i hi => ?_⟩
  by_cases h0 : i ∈ ((rx_code 190).drop 0).take 120
  · exact List.all_eq_true.mp rx_oi190_0 i h0
  replace hi : i ∈ ((rx_code 190).drop 0).drop 120 := by
    have h := List.take_append_drop 120 ((rx_code 190).drop 0)
    rw [List.drop_zero] at h h0 ⊢; rw [← h] at hi
    exact (List.mem_append.mp hi).resolve_left h0
  rw [List.drop_drop] at hi
  refine List.all_eq_true.mp rx_oi190_1 i ?_
  rw [List.take_of_length_le (Nat.le_of_ble_eq_true rfl)]
  simpa using hi
