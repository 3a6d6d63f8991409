/-- the code words -/
theorem rx_in1 {w : Cond} (h : w ∈ tables_1_1) : w ∈ lw_tbl := List.mem_append_right _ (show w ∈ tables_1 from (List.mem_append_left _ h))
theorem rx_in2 {w : Cond} (h : w ∈ tables_1_2) : w ∈ lw_tbl := List.mem_append_right _ (show w ∈ tables_1 from (List.mem_append_right _ (List.mem_append_left _ h)))
theorem rx_in3 {w : Cond} (h : w ∈ tables_1_3) : w ∈ lw_tbl := List.mem_append_right _ (show w ∈ tables_1 from (List.mem_append_right _ (List.mem_append_right _ (List.mem_append_left _ h))))
theorem rx_in4 {w : Cond} (h : w ∈ tables_1_4) : w ∈ lw_tbl := List.mem_append_right _ (show w ∈ tables_1 from (List.mem_append_right _ (List.mem_append_right _ (List.mem_append_right _ (List.mem_append_left _ h)))))
theorem rx_in5 {w : Cond} (h : w ∈ tables_1_5) : w ∈ lw_tbl := List.mem_append_right _ (show w ∈ tables_1 from (List.mem_append_right _ (List.mem_append_right _ (List.mem_append_right _ (List.mem_append_right _ (List.mem_append_left _ h))))))
theorem rx_in6 {w : Cond} (h : w ∈ tables_1_6) : w ∈ lw_tbl := List.mem_append_right _ (show w ∈ tables_1 from (List.mem_append_right _ (List.mem_append_right _ (List.mem_append_right _ (List.mem_append_right _ (List.mem_append_right _ (List.mem_append_left _ h)))))))
theorem rx_in7 {w : Cond} (h : w ∈ tables_1_7) : w ∈ lw_tbl := List.mem_append_right _ (show w ∈ tables_1 from (List.mem_append_right _ (List.mem_append_right _ (List.mem_append_right _ (List.mem_append_right _ (List.mem_append_right _ (List.mem_append_right _ (List.mem_append_left _ h))))))))
theorem rx_in8 {w : Cond} (h : w ∈ tables_1_8) : w ∈ lw_tbl := List.mem_append_right _ (show w ∈ tables_1 from (List.mem_append_right _ (List.mem_append_right _ (List.mem_append_right _ (List.mem_append_right _ (List.mem_append_right _ (List.mem_append_right _ (List.mem_append_right _ (List.mem_append_left _ h)))))))))
theorem rx_in9 {w : Cond} (h : w ∈ tables_1_9) : w ∈ lw_tbl := List.mem_append_right _ (show w ∈ tables_1 from (List.mem_append_right _ (List.mem_append_right _ (List.mem_append_right _ (List.mem_append_right _ (List.mem_append_right _ (List.mem_append_right _ (List.mem_append_right _ (List.mem_append_right _ (h))))))))))
set_option maxRecDepth 100000 in
theorem rx_cw0 : Cond.code (rx_y 0) (rx_b 0) (rx_ml 0) (rx_rt 0) ∈ lw_tbl := rx_in2 (List.mem_of_getElem? (i := 198) rfl)
set_option maxRecDepth 100000 in
theorem rx_cw1 : Cond.code (rx_y 1) (rx_b 1) (rx_ml 1) (rx_rt 1) ∈ lw_tbl := rx_in5 (List.mem_of_getElem? (i := 67) rfl)
set_option maxRecDepth 100000 in
theorem rx_cw2 : Cond.code (rx_y 2) (rx_b 2) (rx_ml 2) (rx_rt 2) ∈ lw_tbl := rx_in5 (List.mem_of_getElem? (i := 82) rfl)
set_option maxRecDepth 100000 in
theorem rx_cw3 : Cond.code (rx_y 3) (rx_b 3) (rx_ml 3) (rx_rt 3) ∈ lw_tbl := rx_in5 (List.mem_of_getElem? (i := 94) rfl)
set_option maxRecDepth 100000 in
theorem rx_cw4 : Cond.code (rx_y 4) (rx_b 4) (rx_ml 4) (rx_rt 4) ∈ lw_tbl := rx_in2 (List.mem_of_getElem? (i := 4) rfl)
set_option maxRecDepth 100000 in
theorem rx_cw5 : Cond.code (rx_y 5) (rx_b 5) (rx_ml 5) (rx_rt 5) ∈ lw_tbl := rx_in4 (List.mem_of_getElem? (i := 15) rfl)
set_option maxRecDepth 100000 in
theorem rx_cw6 : Cond.code (rx_y 6) (rx_b 6) (rx_ml 6) (rx_rt 6) ∈ lw_tbl := rx_in4 (List.mem_of_getElem? (i := 74) rfl)
set_option maxRecDepth 100000 in
theorem rx_cw7 : Cond.code (rx_y 7) (rx_b 7) (rx_ml 7) (rx_rt 7) ∈ lw_tbl := rx_in4 (List.mem_of_getElem? (i := 28) rfl)
set_option maxRecDepth 100000 in
theorem rx_cw8 : Cond.code (rx_y 8) (rx_b 8) (rx_ml 8) (rx_rt 8) ∈ lw_tbl := rx_in4 (List.mem_of_getElem? (i := 19) rfl)
set_option maxRecDepth 100000 in
theorem rx_cw9 : Cond.code (rx_y 9) (rx_b 9) (rx_ml 9) (rx_rt 9) ∈ lw_tbl := rx_in4 (List.mem_of_getElem? (i := 33) rfl)
set_option maxRecDepth 100000 in
theorem rx_cw10 : Cond.code (rx_y 10) (rx_b 10) (rx_ml 10) (rx_rt 10) ∈ lw_tbl := rx_in4 (List.mem_of_getElem? (i := 41) rfl)
set_option maxRecDepth 100000 in
theorem rx_cw11 : Cond.code (rx_y 11) (rx_b 11) (rx_ml 11) (rx_rt 11) ∈ lw_tbl := rx_in4 (List.mem_of_getElem? (i := 24) rfl)
set_option maxRecDepth 100000 in
theorem rx_cw12 : Cond.code (rx_y 12) (rx_b 12) (rx_ml 12) (rx_rt 12) ∈ lw_tbl := rx_in4 (List.mem_of_getElem? (i := 37) rfl)
set_option maxRecDepth 100000 in
theorem rx_cw13 : Cond.code (rx_y 13) (rx_b 13) (rx_ml 13) (rx_rt 13) ∈ lw_tbl := rx_in4 (List.mem_of_getElem? (i := 45) rfl)
set_option maxRecDepth 100000 in
theorem rx_cw14 : Cond.code (rx_y 14) (rx_b 14) (rx_ml 14) (rx_rt 14) ∈ lw_tbl := rx_in4 (List.mem_of_getElem? (i := 50) rfl)
set_option maxRecDepth 100000 in
theorem rx_cw15 : Cond.code (rx_y 15) (rx_b 15) (rx_ml 15) (rx_rt 15) ∈ lw_tbl := rx_in4 (List.mem_of_getElem? (i := 54) rfl)
set_option maxRecDepth 100000 in
theorem rx_cw16 : Cond.code (rx_y 16) (rx_b 16) (rx_ml 16) (rx_rt 16) ∈ lw_tbl := rx_in4 (List.mem_of_getElem? (i := 58) rfl)
set_option maxRecDepth 100000 in
theorem rx_cw17 : Cond.code (rx_y 17) (rx_b 17) (rx_ml 17) (rx_rt 17) ∈ lw_tbl := rx_in4 (List.mem_of_getElem? (i := 70) rfl)
set_option maxRecDepth 100000 in
theorem rx_cw18 : Cond.code (rx_y 18) (rx_b 18) (rx_ml 18) (rx_rt 18) ∈ lw_tbl := rx_in4 (List.mem_of_getElem? (i := 62) rfl)
set_option maxRecDepth 100000 in
theorem rx_cw19 : Cond.code (rx_y 19) (rx_b 19) (rx_ml 19) (rx_rt 19) ∈ lw_tbl := rx_in4 (List.mem_of_getElem? (i := 66) rfl)
set_option maxRecDepth 100000 in
theorem rx_cw20 : Cond.code (rx_y 20) (rx_b 20) (rx_ml 20) (rx_rt 20) ∈ lw_tbl := rx_in2 (List.mem_of_getElem? (i := 107) rfl)
set_option maxRecDepth 100000 in
theorem rx_cw21 : Cond.code (rx_y 21) (rx_b 21) (rx_ml 21) (rx_rt 21) ∈ lw_tbl := rx_in4 (List.mem_of_getElem? (i := 182) rfl)
set_option maxRecDepth 100000 in
theorem rx_cw22 : Cond.code (rx_y 22) (rx_b 22) (rx_ml 22) (rx_rt 22) ∈ lw_tbl := rx_in4 (List.mem_of_getElem? (i := 189) rfl)
set_option maxRecDepth 100000 in
theorem rx_cw23 : Cond.code (rx_y 23) (rx_b 23) (rx_ml 23) (rx_rt 23) ∈ lw_tbl := rx_in4 (List.mem_of_getElem? (i := 193) rfl)
set_option maxRecDepth 100000 in
theorem rx_cw24 : Cond.code (rx_y 24) (rx_b 24) (rx_ml 24) (rx_rt 24) ∈ lw_tbl := rx_in4 (List.mem_of_getElem? (i := 210) rfl)
set_option maxRecDepth 100000 in
theorem rx_cw25 : Cond.code (rx_y 25) (rx_b 25) (rx_ml 25) (rx_rt 25) ∈ lw_tbl := rx_in4 (List.mem_of_getElem? (i := 202) rfl)
set_option maxRecDepth 100000 in
theorem rx_cw26 : Cond.code (rx_y 26) (rx_b 26) (rx_ml 26) (rx_rt 26) ∈ lw_tbl := rx_in4 (List.mem_of_getElem? (i := 198) rfl)
set_option maxRecDepth 100000 in
theorem rx_cw27 : Cond.code (rx_y 27) (rx_b 27) (rx_ml 27) (rx_rt 27) ∈ lw_tbl := rx_in4 (List.mem_of_getElem? (i := 206) rfl)
set_option maxRecDepth 100000 in
theorem rx_cw28 : Cond.code (rx_y 28) (rx_b 28) (rx_ml 28) (rx_rt 28) ∈ lw_tbl := rx_in4 (List.mem_of_getElem? (i := 227) rfl)
set_option maxRecDepth 100000 in
theorem rx_cw29 : Cond.code (rx_y 29) (rx_b 29) (rx_ml 29) (rx_rt 29) ∈ lw_tbl := rx_in4 (List.mem_of_getElem? (i := 214) rfl)
set_option maxRecDepth 100000 in
theorem rx_cw30 : Cond.code (rx_y 30) (rx_b 30) (rx_ml 30) (rx_rt 30) ∈ lw_tbl := rx_in4 (List.mem_of_getElem? (i := 222) rfl)
set_option maxRecDepth 100000 in
theorem rx_cw31 : Cond.code (rx_y 31) (rx_b 31) (rx_ml 31) (rx_rt 31) ∈ lw_tbl := rx_in2 (List.mem_of_getElem? (i := 224) rfl)
set_option maxRecDepth 100000 in
theorem rx_cw32 : Cond.code (rx_y 32) (rx_b 32) (rx_ml 32) (rx_rt 32) ∈ lw_tbl := rx_in4 (List.mem_of_getElem? (i := 82) rfl)
set_option maxRecDepth 100000 in
theorem rx_cw33 : Cond.code (rx_y 33) (rx_b 33) (rx_ml 33) (rx_rt 33) ∈ lw_tbl := rx_in4 (List.mem_of_getElem? (i := 86) rfl)
set_option maxRecDepth 100000 in
theorem rx_cw34 : Cond.code (rx_y 34) (rx_b 34) (rx_ml 34) (rx_rt 34) ∈ lw_tbl := rx_in5 (List.mem_of_getElem? (i := 102) rfl)
set_option maxRecDepth 100000 in
theorem rx_cw35 : Cond.code (rx_y 35) (rx_b 35) (rx_ml 35) (rx_rt 35) ∈ lw_tbl := rx_in5 (List.mem_of_getElem? (i := 110) rfl)
set_option maxRecDepth 100000 in
theorem rx_cw36 : Cond.code (rx_y 36) (rx_b 36) (rx_ml 36) (rx_rt 36) ∈ lw_tbl := rx_in5 (List.mem_of_getElem? (i := 115) rfl)
set_option maxRecDepth 100000 in
theorem rx_cw37 : Cond.code (rx_y 37) (rx_b 37) (rx_ml 37) (rx_rt 37) ∈ lw_tbl := rx_in5 (List.mem_of_getElem? (i := 145) rfl)
set_option maxRecDepth 100000 in
theorem rx_cw38 : Cond.code (rx_y 38) (rx_b 38) (rx_ml 38) (rx_rt 38) ∈ lw_tbl := rx_in5 (List.mem_of_getElem? (i := 141) rfl)
set_option maxRecDepth 100000 in
theorem rx_cw39 : Cond.code (rx_y 39) (rx_b 39) (rx_ml 39) (rx_rt 39) ∈ lw_tbl := rx_in5 (List.mem_of_getElem? (i := 136) rfl)
set_option maxRecDepth 100000 in
theorem rx_cw40 : Cond.code (rx_y 40) (rx_b 40) (rx_ml 40) (rx_rt 40) ∈ lw_tbl := rx_in5 (List.mem_of_getElem? (i := 127) rfl)
set_option maxRecDepth 100000 in
theorem rx_cw41 : Cond.code (rx_y 41) (rx_b 41) (rx_ml 41) (rx_rt 41) ∈ lw_tbl := rx_in5 (List.mem_of_getElem? (i := 131) rfl)
set_option maxRecDepth 100000 in
theorem rx_cw42 : Cond.code (rx_y 42) (rx_b 42) (rx_ml 42) (rx_rt 42) ∈ lw_tbl := rx_in5 (List.mem_of_getElem? (i := 150) rfl)
set_option maxRecDepth 100000 in
theorem rx_cw43 : Cond.code (rx_y 43) (rx_b 43) (rx_ml 43) (rx_rt 43) ∈ lw_tbl := rx_in5 (List.mem_of_getElem? (i := 155) rfl)
set_option maxRecDepth 100000 in
theorem rx_cw44 : Cond.code (rx_y 44) (rx_b 44) (rx_ml 44) (rx_rt 44) ∈ lw_tbl := rx_in5 (List.mem_of_getElem? (i := 163) rfl)
set_option maxRecDepth 100000 in
theorem rx_cw45 : Cond.code (rx_y 45) (rx_b 45) (rx_ml 45) (rx_rt 45) ∈ lw_tbl := rx_in5 (List.mem_of_getElem? (i := 172) rfl)
set_option maxRecDepth 100000 in
theorem rx_cw46 : Cond.code (rx_y 46) (rx_b 46) (rx_ml 46) (rx_rt 46) ∈ lw_tbl := rx_in5 (List.mem_of_getElem? (i := 186) rfl)
set_option maxRecDepth 100000 in
theorem rx_cw47 : Cond.code (rx_y 47) (rx_b 47) (rx_ml 47) (rx_rt 47) ∈ lw_tbl := rx_in5 (List.mem_of_getElem? (i := 190) rfl)
set_option maxRecDepth 100000 in
theorem rx_cw48 : Cond.code (rx_y 48) (rx_b 48) (rx_ml 48) (rx_rt 48) ∈ lw_tbl := rx_in5 (List.mem_of_getElem? (i := 182) rfl)
set_option maxRecDepth 100000 in
theorem rx_cw49 : Cond.code (rx_y 49) (rx_b 49) (rx_ml 49) (rx_rt 49) ∈ lw_tbl := rx_in5 (List.mem_of_getElem? (i := 201) rfl)
set_option maxRecDepth 100000 in
theorem rx_cw50 : Cond.code (rx_y 50) (rx_b 50) (rx_ml 50) (rx_rt 50) ∈ lw_tbl := rx_in5 (List.mem_of_getElem? (i := 198) rfl)
set_option maxRecDepth 100000 in
theorem rx_cw51 : Cond.code (rx_y 51) (rx_b 51) (rx_ml 51) (rx_rt 51) ∈ lw_tbl := rx_in5 (List.mem_of_getElem? (i := 204) rfl)
set_option maxRecDepth 100000 in
theorem rx_cw52 : Cond.code (rx_y 52) (rx_b 52) (rx_ml 52) (rx_rt 52) ∈ lw_tbl := rx_in5 (List.mem_of_getElem? (i := 207) rfl)
set_option maxRecDepth 100000 in
theorem rx_cw53 : Cond.code (rx_y 53) (rx_b 53) (rx_ml 53) (rx_rt 53) ∈ lw_tbl := rx_in5 (List.mem_of_getElem? (i := 210) rfl)
set_option maxRecDepth 100000 in
theorem rx_cw54 : Cond.code (rx_y 54) (rx_b 54) (rx_ml 54) (rx_rt 54) ∈ lw_tbl := rx_in5 (List.mem_of_getElem? (i := 213) rfl)
set_option maxRecDepth 100000 in
theorem rx_cw55 : Cond.code (rx_y 55) (rx_b 55) (rx_ml 55) (rx_rt 55) ∈ lw_tbl := rx_in5 (List.mem_of_getElem? (i := 221) rfl)
set_option maxRecDepth 100000 in
theorem rx_cw56 : Cond.code (rx_y 56) (rx_b 56) (rx_ml 56) (rx_rt 56) ∈ lw_tbl := rx_in1 (List.mem_of_getElem? (i := 216) rfl)
set_option maxRecDepth 100000 in
theorem rx_cw57 : Cond.code (rx_y 57) (rx_b 57) (rx_ml 57) (rx_rt 57) ∈ lw_tbl := rx_in3 (List.mem_of_getElem? (i := 146) rfl)
set_option maxRecDepth 100000 in
theorem rx_cw58 : Cond.code (rx_y 58) (rx_b 58) (rx_ml 58) (rx_rt 58) ∈ lw_tbl := rx_in4 (List.mem_of_getElem? (i := 7) rfl)
set_option maxRecDepth 100000 in
theorem rx_cw59 : Cond.code (rx_y 59) (rx_b 59) (rx_ml 59) (rx_rt 59) ∈ lw_tbl := rx_in3 (List.mem_of_getElem? (i := 154) rfl)
set_option maxRecDepth 100000 in
theorem rx_cw60 : Cond.code (rx_y 60) (rx_b 60) (rx_ml 60) (rx_rt 60) ∈ lw_tbl := rx_in3 (List.mem_of_getElem? (i := 166) rfl)
set_option maxRecDepth 100000 in
theorem rx_cw61 : Cond.code (rx_y 61) (rx_b 61) (rx_ml 61) (rx_rt 61) ∈ lw_tbl := rx_in3 (List.mem_of_getElem? (i := 162) rfl)
set_option maxRecDepth 100000 in
theorem rx_cw62 : Cond.code (rx_y 62) (rx_b 62) (rx_ml 62) (rx_rt 62) ∈ lw_tbl := rx_in3 (List.mem_of_getElem? (i := 158) rfl)
set_option maxRecDepth 100000 in
theorem rx_cw63 : Cond.code (rx_y 63) (rx_b 63) (rx_ml 63) (rx_rt 63) ∈ lw_tbl := rx_in3 (List.mem_of_getElem? (i := 178) rfl)
set_option maxRecDepth 100000 in
theorem rx_cw64 : Cond.code (rx_y 64) (rx_b 64) (rx_ml 64) (rx_rt 64) ∈ lw_tbl := rx_in3 (List.mem_of_getElem? (i := 186) rfl)
set_option maxRecDepth 100000 in
theorem rx_cw65 : Cond.code (rx_y 65) (rx_b 65) (rx_ml 65) (rx_rt 65) ∈ lw_tbl := rx_in3 (List.mem_of_getElem? (i := 198) rfl)
set_option maxRecDepth 100000 in
theorem rx_cw66 : Cond.code (rx_y 66) (rx_b 66) (rx_ml 66) (rx_rt 66) ∈ lw_tbl := rx_in3 (List.mem_of_getElem? (i := 239) rfl)
set_option maxRecDepth 100000 in
theorem rx_cw67 : Cond.code (rx_y 67) (rx_b 67) (rx_ml 67) (rx_rt 67) ∈ lw_tbl := rx_in3 (List.mem_of_getElem? (i := 202) rfl)
set_option maxRecDepth 100000 in
theorem rx_cw68 : Cond.code (rx_y 68) (rx_b 68) (rx_ml 68) (rx_rt 68) ∈ lw_tbl := rx_in4 (List.mem_of_getElem? (i := 3) rfl)
set_option maxRecDepth 100000 in
theorem rx_cw69 : Cond.code (rx_y 69) (rx_b 69) (rx_ml 69) (rx_rt 69) ∈ lw_tbl := rx_in3 (List.mem_of_getElem? (i := 206) rfl)
set_option maxRecDepth 100000 in
theorem rx_cw70 : Cond.code (rx_y 70) (rx_b 70) (rx_ml 70) (rx_rt 70) ∈ lw_tbl := rx_in3 (List.mem_of_getElem? (i := 210) rfl)
set_option maxRecDepth 100000 in
theorem rx_cw71 : Cond.code (rx_y 71) (rx_b 71) (rx_ml 71) (rx_rt 71) ∈ lw_tbl := rx_in3 (List.mem_of_getElem? (i := 222) rfl)
set_option maxRecDepth 100000 in
theorem rx_cw72 : Cond.code (rx_y 72) (rx_b 72) (rx_ml 72) (rx_rt 72) ∈ lw_tbl := rx_in3 (List.mem_of_getElem? (i := 214) rfl)
set_option maxRecDepth 100000 in
theorem rx_cw73 : Cond.code (rx_y 73) (rx_b 73) (rx_ml 73) (rx_rt 73) ∈ lw_tbl := rx_in2 (List.mem_of_getElem? (i := 147) rfl)
set_option maxRecDepth 100000 in
theorem rx_cw74 : Cond.code (rx_y 74) (rx_b 74) (rx_ml 74) (rx_rt 74) ∈ lw_tbl := rx_in4 (List.mem_of_getElem? (i := 170) rfl)
set_option maxRecDepth 100000 in
theorem rx_cw75 : Cond.code (rx_y 75) (rx_b 75) (rx_ml 75) (rx_rt 75) ∈ lw_tbl := rx_in4 (List.mem_of_getElem? (i := 166) rfl)
set_option maxRecDepth 100000 in
theorem rx_cw76 : Cond.code (rx_y 76) (rx_b 76) (rx_ml 76) (rx_rt 76) ∈ lw_tbl := rx_in4 (List.mem_of_getElem? (i := 174) rfl)
set_option maxRecDepth 100000 in
theorem rx_cw77 : Cond.code (rx_y 77) (rx_b 77) (rx_ml 77) (rx_rt 77) ∈ lw_tbl := rx_in4 (List.mem_of_getElem? (i := 178) rfl)
set_option maxRecDepth 100000 in
theorem rx_cw78 : Cond.code (rx_y 78) (rx_b 78) (rx_ml 78) (rx_rt 78) ∈ lw_tbl := rx_in4 (List.mem_of_getElem? (i := 234) rfl)
set_option maxRecDepth 100000 in
theorem rx_cw79 : Cond.code (rx_y 79) (rx_b 79) (rx_ml 79) (rx_rt 79) ∈ lw_tbl := rx_in4 (List.mem_of_getElem? (i := 239) rfl)
set_option maxRecDepth 100000 in
theorem rx_cw80 : Cond.code (rx_y 80) (rx_b 80) (rx_ml 80) (rx_rt 80) ∈ lw_tbl := rx_in5 (List.mem_of_getElem? (i := 3) rfl)
set_option maxRecDepth 100000 in
theorem rx_cw81 : Cond.code (rx_y 81) (rx_b 81) (rx_ml 81) (rx_rt 81) ∈ lw_tbl := rx_in5 (List.mem_of_getElem? (i := 10) rfl)
set_option maxRecDepth 100000 in
theorem rx_cw82 : Cond.code (rx_y 82) (rx_b 82) (rx_ml 82) (rx_rt 82) ∈ lw_tbl := rx_in5 (List.mem_of_getElem? (i := 17) rfl)
set_option maxRecDepth 100000 in
theorem rx_cw83 : Cond.code (rx_y 83) (rx_b 83) (rx_ml 83) (rx_rt 83) ∈ lw_tbl := rx_in5 (List.mem_of_getElem? (i := 55) rfl)
set_option maxRecDepth 100000 in
theorem rx_cw84 : Cond.code (rx_y 84) (rx_b 84) (rx_ml 84) (rx_rt 84) ∈ lw_tbl := rx_in5 (List.mem_of_getElem? (i := 33) rfl)
set_option maxRecDepth 100000 in
theorem rx_cw85 : Cond.code (rx_y 85) (rx_b 85) (rx_ml 85) (rx_rt 85) ∈ lw_tbl := rx_in1 (List.mem_of_getElem? (i := 36) rfl)
set_option maxRecDepth 100000 in
theorem rx_cw86 : Cond.code (rx_y 86) (rx_b 86) (rx_ml 86) (rx_rt 86) ∈ lw_tbl := rx_in1 (List.mem_of_getElem? (i := 89) rfl)
set_option maxRecDepth 100000 in
theorem rx_cw87 : Cond.code (rx_y 87) (rx_b 87) (rx_ml 87) (rx_rt 87) ∈ lw_tbl := rx_in3 (List.mem_of_getElem? (i := 87) rfl)
set_option maxRecDepth 100000 in
theorem rx_cw88 : Cond.code (rx_y 88) (rx_b 88) (rx_ml 88) (rx_rt 88) ∈ lw_tbl := rx_in4 (List.mem_of_getElem? (i := 11) rfl)
set_option maxRecDepth 100000 in
theorem rx_cw89 : Cond.code (rx_y 89) (rx_b 89) (rx_ml 89) (rx_rt 89) ∈ lw_tbl := rx_in3 (List.mem_of_getElem? (i := 170) rfl)
set_option maxRecDepth 100000 in
theorem rx_cw90 : Cond.code (rx_y 90) (rx_b 90) (rx_ml 90) (rx_rt 90) ∈ lw_tbl := rx_in3 (List.mem_of_getElem? (i := 99) rfl)
set_option maxRecDepth 100000 in
theorem rx_cw91 : Cond.code (rx_y 91) (rx_b 91) (rx_ml 91) (rx_rt 91) ∈ lw_tbl := rx_in3 (List.mem_of_getElem? (i := 103) rfl)
set_option maxRecDepth 100000 in
theorem rx_cw92 : Cond.code (rx_y 92) (rx_b 92) (rx_ml 92) (rx_rt 92) ∈ lw_tbl := rx_in3 (List.mem_of_getElem? (i := 106) rfl)
set_option maxRecDepth 100000 in
theorem rx_cw93 : Cond.code (rx_y 93) (rx_b 93) (rx_ml 93) (rx_rt 93) ∈ lw_tbl := rx_in3 (List.mem_of_getElem? (i := 113) rfl)
set_option maxRecDepth 100000 in
theorem rx_cw94 : Cond.code (rx_y 94) (rx_b 94) (rx_ml 94) (rx_rt 94) ∈ lw_tbl := rx_in3 (List.mem_of_getElem? (i := 128) rfl)
set_option maxRecDepth 100000 in
theorem rx_cw95 : Cond.code (rx_y 95) (rx_b 95) (rx_ml 95) (rx_rt 95) ∈ lw_tbl := rx_in3 (List.mem_of_getElem? (i := 110) rfl)
set_option maxRecDepth 100000 in
theorem rx_cw96 : Cond.code (rx_y 96) (rx_b 96) (rx_ml 96) (rx_rt 96) ∈ lw_tbl := rx_in3 (List.mem_of_getElem? (i := 117) rfl)
set_option maxRecDepth 100000 in
theorem rx_cw97 : Cond.code (rx_y 97) (rx_b 97) (rx_ml 97) (rx_rt 97) ∈ lw_tbl := rx_in3 (List.mem_of_getElem? (i := 132) rfl)
set_option maxRecDepth 100000 in
theorem rx_cw98 : Cond.code (rx_y 98) (rx_b 98) (rx_ml 98) (rx_rt 98) ∈ lw_tbl := rx_in3 (List.mem_of_getElem? (i := 121) rfl)
set_option maxRecDepth 100000 in
theorem rx_cw99 : Cond.code (rx_y 99) (rx_b 99) (rx_ml 99) (rx_rt 99) ∈ lw_tbl := rx_in3 (List.mem_of_getElem? (i := 136) rfl)
set_option maxRecDepth 100000 in
theorem rx_cw100 : Cond.code (rx_y 100) (rx_b 100) (rx_ml 100) (rx_rt 100) ∈ lw_tbl := rx_in3 (List.mem_of_getElem? (i := 139) rfl)
set_option maxRecDepth 100000 in
theorem rx_cw101 : Cond.code (rx_y 101) (rx_b 101) (rx_ml 101) (rx_rt 101) ∈ lw_tbl := rx_in3 (List.mem_of_getElem? (i := 125) rfl)
set_option maxRecDepth 100000 in
theorem rx_cw102 : Cond.code (rx_y 102) (rx_b 102) (rx_ml 102) (rx_rt 102) ∈ lw_tbl := rx_in2 (List.mem_of_getElem? (i := 23) rfl)
set_option maxRecDepth 100000 in
theorem rx_cw103 : Cond.code (rx_y 103) (rx_b 103) (rx_ml 103) (rx_rt 103) ∈ lw_tbl := rx_in4 (List.mem_of_getElem? (i := 78) rfl)
set_option maxRecDepth 100000 in
theorem rx_cw104 : Cond.code (rx_y 104) (rx_b 104) (rx_ml 104) (rx_rt 104) ∈ lw_tbl := rx_in4 (List.mem_of_getElem? (i := 130) rfl)
set_option maxRecDepth 100000 in
theorem rx_cw105 : Cond.code (rx_y 105) (rx_b 105) (rx_ml 105) (rx_rt 105) ∈ lw_tbl := rx_in4 (List.mem_of_getElem? (i := 126) rfl)
set_option maxRecDepth 100000 in
theorem rx_cw106 : Cond.code (rx_y 106) (rx_b 106) (rx_ml 106) (rx_rt 106) ∈ lw_tbl := rx_in4 (List.mem_of_getElem? (i := 98) rfl)
set_option maxRecDepth 100000 in
theorem rx_cw107 : Cond.code (rx_y 107) (rx_b 107) (rx_ml 107) (rx_rt 107) ∈ lw_tbl := rx_in4 (List.mem_of_getElem? (i := 113) rfl)
set_option maxRecDepth 100000 in
theorem rx_cw108 : Cond.code (rx_y 108) (rx_b 108) (rx_ml 108) (rx_rt 108) ∈ lw_tbl := rx_in4 (List.mem_of_getElem? (i := 122) rfl)
set_option maxRecDepth 100000 in
theorem rx_cw109 : Cond.code (rx_y 109) (rx_b 109) (rx_ml 109) (rx_rt 109) ∈ lw_tbl := rx_in4 (List.mem_of_getElem? (i := 142) rfl)
set_option maxRecDepth 100000 in
theorem rx_cw110 : Cond.code (rx_y 110) (rx_b 110) (rx_ml 110) (rx_rt 110) ∈ lw_tbl := rx_in2 (List.mem_of_getElem? (i := 74) rfl)
set_option maxRecDepth 100000 in
theorem rx_cw111 : Cond.code (rx_y 111) (rx_b 111) (rx_ml 111) (rx_rt 111) ∈ lw_tbl := rx_in4 (List.mem_of_getElem? (i := 218) rfl)
set_option maxRecDepth 100000 in
theorem rx_cw112 : Cond.code (rx_y 112) (rx_b 112) (rx_ml 112) (rx_rt 112) ∈ lw_tbl := rx_in1 (List.mem_of_getElem? (i := 121) rfl)
set_option maxRecDepth 100000 in
theorem rx_cw113 : Cond.code (rx_y 113) (rx_b 113) (rx_ml 113) (rx_rt 113) ∈ lw_tbl := rx_in3 (List.mem_of_getElem? (i := 150) rfl)
set_option maxRecDepth 100000 in
theorem rx_cw114 : Cond.code (rx_y 114) (rx_b 114) (rx_ml 114) (rx_rt 114) ∈ lw_tbl := rx_in4 (List.mem_of_getElem? (i := 102) rfl)
set_option maxRecDepth 100000 in
theorem rx_cw115 : Cond.code (rx_y 115) (rx_b 115) (rx_ml 115) (rx_rt 115) ∈ lw_tbl := rx_in3 (List.mem_of_getElem? (i := 194) rfl)
set_option maxRecDepth 100000 in
theorem rx_cw116 : Cond.code (rx_y 116) (rx_b 116) (rx_ml 116) (rx_rt 116) ∈ lw_tbl := rx_in4 (List.mem_of_getElem? (i := 134) rfl)
set_option maxRecDepth 100000 in
theorem rx_cw117 : Cond.code (rx_y 117) (rx_b 117) (rx_ml 117) (rx_rt 117) ∈ lw_tbl := rx_in3 (List.mem_of_getElem? (i := 174) rfl)
set_option maxRecDepth 100000 in
theorem rx_cw118 : Cond.code (rx_y 118) (rx_b 118) (rx_ml 118) (rx_rt 118) ∈ lw_tbl := rx_in3 (List.mem_of_getElem? (i := 182) rfl)
set_option maxRecDepth 100000 in
theorem rx_cw119 : Cond.code (rx_y 119) (rx_b 119) (rx_ml 119) (rx_rt 119) ∈ lw_tbl := rx_in3 (List.mem_of_getElem? (i := 190) rfl)
set_option maxRecDepth 100000 in
theorem rx_cw120 : Cond.code (rx_y 120) (rx_b 120) (rx_ml 120) (rx_rt 120) ∈ lw_tbl := rx_in3 (List.mem_of_getElem? (i := 218) rfl)
set_option maxRecDepth 100000 in
theorem rx_cw121 : Cond.code (rx_y 121) (rx_b 121) (rx_ml 121) (rx_rt 121) ∈ lw_tbl := rx_in3 (List.mem_of_getElem? (i := 231) rfl)
set_option maxRecDepth 100000 in
theorem rx_cw122 : Cond.code (rx_y 122) (rx_b 122) (rx_ml 122) (rx_rt 122) ∈ lw_tbl := rx_in3 (List.mem_of_getElem? (i := 227) rfl)
set_option maxRecDepth 100000 in
theorem rx_cw123 : Cond.code (rx_y 123) (rx_b 123) (rx_ml 123) (rx_rt 123) ∈ lw_tbl := rx_in3 (List.mem_of_getElem? (i := 236) rfl)
set_option maxRecDepth 100000 in
theorem rx_cw124 : Cond.code (rx_y 124) (rx_b 124) (rx_ml 124) (rx_rt 124) ∈ lw_tbl := rx_in1 (List.mem_of_getElem? (i := 28) rfl)
set_option maxRecDepth 100000 in
theorem rx_cw125 : Cond.code (rx_y 125) (rx_b 125) (rx_ml 125) (rx_rt 125) ∈ lw_tbl := rx_in3 (List.mem_of_getElem? (i := 83) rfl)
set_option maxRecDepth 100000 in
theorem rx_cw126 : Cond.code (rx_y 126) (rx_b 126) (rx_ml 126) (rx_rt 126) ∈ lw_tbl := rx_in3 (List.mem_of_getElem? (i := 91) rfl)
set_option maxRecDepth 100000 in
theorem rx_cw127 : Cond.code (rx_y 127) (rx_b 127) (rx_ml 127) (rx_rt 127) ∈ lw_tbl := rx_in3 (List.mem_of_getElem? (i := 95) rfl)
set_option maxRecDepth 100000 in
theorem rx_cw128 : Cond.code (rx_y 128) (rx_b 128) (rx_ml 128) (rx_rt 128) ∈ lw_tbl := rx_in4 (List.mem_of_getElem? (i := 90) rfl)
set_option maxRecDepth 100000 in
theorem rx_cw129 : Cond.code (rx_y 129) (rx_b 129) (rx_ml 129) (rx_rt 129) ∈ lw_tbl := rx_in4 (List.mem_of_getElem? (i := 94) rfl)
set_option maxRecDepth 100000 in
theorem rx_cw130 : Cond.code (rx_y 130) (rx_b 130) (rx_ml 130) (rx_rt 130) ∈ lw_tbl := rx_in5 (List.mem_of_getElem? (i := 235) rfl)
set_option maxRecDepth 100000 in
theorem rx_cw131 : Cond.code (rx_y 131) (rx_b 131) (rx_ml 131) (rx_rt 131) ∈ lw_tbl := rx_in4 (List.mem_of_getElem? (i := 109) rfl)
set_option maxRecDepth 100000 in
theorem rx_cw132 : Cond.code (rx_y 132) (rx_b 132) (rx_ml 132) (rx_rt 132) ∈ lw_tbl := rx_in4 (List.mem_of_getElem? (i := 118) rfl)
set_option maxRecDepth 100000 in
theorem rx_cw133 : Cond.code (rx_y 133) (rx_b 133) (rx_ml 133) (rx_rt 133) ∈ lw_tbl := rx_in4 (List.mem_of_getElem? (i := 138) rfl)
set_option maxRecDepth 100000 in
theorem rx_cw134 : Cond.code (rx_y 134) (rx_b 134) (rx_ml 134) (rx_rt 134) ∈ lw_tbl := rx_in4 (List.mem_of_getElem? (i := 146) rfl)
set_option maxRecDepth 100000 in
theorem rx_cw135 : Cond.code (rx_y 135) (rx_b 135) (rx_ml 135) (rx_rt 135) ∈ lw_tbl := rx_in4 (List.mem_of_getElem? (i := 157) rfl)
set_option maxRecDepth 100000 in
theorem rx_cw136 : Cond.code (rx_y 136) (rx_b 136) (rx_ml 136) (rx_rt 136) ∈ lw_tbl := rx_in5 (List.mem_of_getElem? (i := 22) rfl)
set_option maxRecDepth 100000 in
theorem rx_cw137 : Cond.code (rx_y 137) (rx_b 137) (rx_ml 137) (rx_rt 137) ∈ lw_tbl := rx_in5 (List.mem_of_getElem? (i := 27) rfl)
set_option maxRecDepth 100000 in
theorem rx_cw138 : Cond.code (rx_y 138) (rx_b 138) (rx_ml 138) (rx_rt 138) ∈ lw_tbl := rx_in5 (List.mem_of_getElem? (i := 37) rfl)
set_option maxRecDepth 100000 in
theorem rx_cw139 : Cond.code (rx_y 139) (rx_b 139) (rx_ml 139) (rx_rt 139) ∈ lw_tbl := rx_in5 (List.mem_of_getElem? (i := 41) rfl)
set_option maxRecDepth 100000 in
theorem rx_cw140 : Cond.code (rx_y 140) (rx_b 140) (rx_ml 140) (rx_rt 140) ∈ lw_tbl := rx_in5 (List.mem_of_getElem? (i := 59) rfl)
set_option maxRecDepth 100000 in
theorem rx_cw141 : Cond.code (rx_y 141) (rx_b 141) (rx_ml 141) (rx_rt 141) ∈ lw_tbl := rx_in5 (List.mem_of_getElem? (i := 63) rfl)
set_option maxRecDepth 100000 in
theorem rx_cw142 : Cond.code (rx_y 142) (rx_b 142) (rx_ml 142) (rx_rt 142) ∈ lw_tbl := rx_in5 (List.mem_of_getElem? (i := 73) rfl)
set_option maxRecDepth 100000 in
theorem rx_cw143 : Cond.code (rx_y 143) (rx_b 143) (rx_ml 143) (rx_rt 143) ∈ lw_tbl := rx_in5 (List.mem_of_getElem? (i := 77) rfl)
set_option maxRecDepth 100000 in
theorem rx_cw144 : Cond.code (rx_y 144) (rx_b 144) (rx_ml 144) (rx_rt 144) ∈ lw_tbl := rx_in5 (List.mem_of_getElem? (i := 98) rfl)
set_option maxRecDepth 100000 in
theorem rx_cw145 : Cond.code (rx_y 145) (rx_b 145) (rx_ml 145) (rx_rt 145) ∈ lw_tbl := rx_in5 (List.mem_of_getElem? (i := 106) rfl)
set_option maxRecDepth 100000 in
theorem rx_cw146 : Cond.code (rx_y 146) (rx_b 146) (rx_ml 146) (rx_rt 146) ∈ lw_tbl := rx_in5 (List.mem_of_getElem? (i := 120) rfl)
set_option maxRecDepth 100000 in
theorem rx_cw147 : Cond.code (rx_y 147) (rx_b 147) (rx_ml 147) (rx_rt 147) ∈ lw_tbl := rx_in5 (List.mem_of_getElem? (i := 159) rfl)
set_option maxRecDepth 100000 in
theorem rx_cw148 : Cond.code (rx_y 148) (rx_b 148) (rx_ml 148) (rx_rt 148) ∈ lw_tbl := rx_in5 (List.mem_of_getElem? (i := 168) rfl)
set_option maxRecDepth 100000 in
theorem rx_cw149 : Cond.code (rx_y 149) (rx_b 149) (rx_ml 149) (rx_rt 149) ∈ lw_tbl := rx_in5 (List.mem_of_getElem? (i := 176) rfl)
set_option maxRecDepth 100000 in
theorem rx_cw150 : Cond.code (rx_y 150) (rx_b 150) (rx_ml 150) (rx_rt 150) ∈ lw_tbl := rx_in5 (List.mem_of_getElem? (i := 195) rfl)
set_option maxRecDepth 100000 in
theorem rx_cw151 : Cond.code (rx_y 151) (rx_b 151) (rx_ml 151) (rx_rt 151) ∈ lw_tbl := rx_in5 (List.mem_of_getElem? (i := 218) rfl)
set_option maxRecDepth 100000 in
theorem rx_cw152 : Cond.code (rx_y 152) (rx_b 152) (rx_ml 152) (rx_rt 152) ∈ lw_tbl := rx_in5 (List.mem_of_getElem? (i := 226) rfl)
set_option maxRecDepth 100000 in
theorem rx_cw153 : Cond.code (rx_y 153) (rx_b 153) (rx_ml 153) (rx_rt 153) ∈ lw_tbl := rx_in4 (List.mem_of_getElem? (i := 160) rfl)
set_option maxRecDepth 100000 in
theorem rx_cw154 : Cond.code (rx_y 154) (rx_b 154) (rx_ml 154) (rx_rt 154) ∈ lw_tbl := rx_in4 (List.mem_of_getElem? (i := 149) rfl)
set_option maxRecDepth 100000 in
theorem rx_cw155 : Cond.code (rx_y 155) (rx_b 155) (rx_ml 155) (rx_rt 155) ∈ lw_tbl := rx_in5 (List.mem_of_getElem? (i := 123) rfl)
set_option maxRecDepth 100000 in
theorem rx_cw156 : Cond.code (rx_y 156) (rx_b 156) (rx_ml 156) (rx_rt 156) ∈ lw_tbl := rx_in4 (List.mem_of_getElem? (i := 105) rfl)
set_option maxRecDepth 100000 in
theorem rx_cw157 : Cond.code (rx_y 157) (rx_b 157) (rx_ml 157) (rx_rt 157) ∈ lw_tbl := rx_in5 (List.mem_of_getElem? (i := 45) rfl)
set_option maxRecDepth 100000 in
theorem rx_cw158 : Cond.code (rx_y 158) (rx_b 158) (rx_ml 158) (rx_rt 158) ∈ lw_tbl := rx_in5 (List.mem_of_getElem? (i := 49) rfl)
set_option maxRecDepth 100000 in
theorem rx_cw159 : Cond.code (rx_y 159) (rx_b 159) (rx_ml 159) (rx_rt 159) ∈ lw_tbl := rx_in4 (List.mem_of_getElem? (i := 152) rfl)
set_option maxRecDepth 100000 in
theorem rx_cw160 : Cond.code (rx_y 160) (rx_b 160) (rx_ml 160) (rx_rt 160) ∈ lw_tbl := rx_in4 (List.mem_of_getElem? (i := 230) rfl)
set_option maxRecDepth 100000 in
theorem rx_cw161 : Cond.code (rx_y 161) (rx_b 161) (rx_ml 161) (rx_rt 161) ∈ lw_tbl := rx_in6 (List.mem_of_getElem? (i := 64) rfl)
set_option maxRecDepth 100000 in
theorem rx_cw162 : Cond.code (rx_y 162) (rx_b 162) (rx_ml 162) (rx_rt 162) ∈ lw_tbl := rx_in6 (List.mem_of_getElem? (i := 69) rfl)
set_option maxRecDepth 100000 in
theorem rx_cw163 : Cond.code (rx_y 163) (rx_b 163) (rx_ml 163) (rx_rt 163) ∈ lw_tbl := rx_in7 (List.mem_of_getElem? (i := 145) rfl)
set_option maxRecDepth 100000 in
theorem rx_cw164 : Cond.code (rx_y 164) (rx_b 164) (rx_ml 164) (rx_rt 164) ∈ lw_tbl := rx_in7 (List.mem_of_getElem? (i := 149) rfl)
set_option maxRecDepth 100000 in
theorem rx_cw165 : Cond.code (rx_y 165) (rx_b 165) (rx_ml 165) (rx_rt 165) ∈ lw_tbl := rx_in7 (List.mem_of_getElem? (i := 153) rfl)
set_option maxRecDepth 100000 in
theorem rx_cw166 : Cond.code (rx_y 166) (rx_b 166) (rx_ml 166) (rx_rt 166) ∈ lw_tbl := rx_in7 (List.mem_of_getElem? (i := 165) rfl)
set_option maxRecDepth 100000 in
theorem rx_cw167 : Cond.code (rx_y 167) (rx_b 167) (rx_ml 167) (rx_rt 167) ∈ lw_tbl := rx_in7 (List.mem_of_getElem? (i := 175) rfl)
set_option maxRecDepth 100000 in
theorem rx_cw168 : Cond.code (rx_y 168) (rx_b 168) (rx_ml 168) (rx_rt 168) ∈ lw_tbl := rx_in7 (List.mem_of_getElem? (i := 172) rfl)
set_option maxRecDepth 100000 in
theorem rx_cw169 : Cond.code (rx_y 169) (rx_b 169) (rx_ml 169) (rx_rt 169) ∈ lw_tbl := rx_in6 (List.mem_of_getElem? (i := 76) rfl)
set_option maxRecDepth 100000 in
theorem rx_cw170 : Cond.code (rx_y 170) (rx_b 170) (rx_ml 170) (rx_rt 170) ∈ lw_tbl := rx_in6 (List.mem_of_getElem? (i := 73) rfl)
set_option maxRecDepth 100000 in
theorem rx_cw171 : Cond.code (rx_y 171) (rx_b 171) (rx_ml 171) (rx_rt 171) ∈ lw_tbl := rx_in7 (List.mem_of_getElem? (i := 169) rfl)
set_option maxRecDepth 100000 in
theorem rx_cw172 : Cond.code (rx_y 172) (rx_b 172) (rx_ml 172) (rx_rt 172) ∈ lw_tbl := rx_in7 (List.mem_of_getElem? (i := 161) rfl)
set_option maxRecDepth 100000 in
theorem rx_cw173 : Cond.code (rx_y 173) (rx_b 173) (rx_ml 173) (rx_rt 173) ∈ lw_tbl := rx_in7 (List.mem_of_getElem? (i := 179) rfl)
set_option maxRecDepth 100000 in
theorem rx_cw174 : Cond.code (rx_y 174) (rx_b 174) (rx_ml 174) (rx_rt 174) ∈ lw_tbl := rx_in7 (List.mem_of_getElem? (i := 183) rfl)
set_option maxRecDepth 100000 in
theorem rx_cw175 : Cond.code (rx_y 175) (rx_b 175) (rx_ml 175) (rx_rt 175) ∈ lw_tbl := rx_in7 (List.mem_of_getElem? (i := 191) rfl)
set_option maxRecDepth 100000 in
theorem rx_cw176 : Cond.code (rx_y 176) (rx_b 176) (rx_ml 176) (rx_rt 176) ∈ lw_tbl := rx_in7 (List.mem_of_getElem? (i := 207) rfl)
set_option maxRecDepth 100000 in
theorem rx_cw177 : Cond.code (rx_y 177) (rx_b 177) (rx_ml 177) (rx_rt 177) ∈ lw_tbl := rx_in7 (List.mem_of_getElem? (i := 195) rfl)
set_option maxRecDepth 100000 in
theorem rx_cw178 : Cond.code (rx_y 178) (rx_b 178) (rx_ml 178) (rx_rt 178) ∈ lw_tbl := rx_in7 (List.mem_of_getElem? (i := 199) rfl)
set_option maxRecDepth 100000 in
theorem rx_cw179 : Cond.code (rx_y 179) (rx_b 179) (rx_ml 179) (rx_rt 179) ∈ lw_tbl := rx_in7 (List.mem_of_getElem? (i := 157) rfl)
set_option maxRecDepth 100000 in
theorem rx_cw180 : Cond.code (rx_y 180) (rx_b 180) (rx_ml 180) (rx_rt 180) ∈ lw_tbl := rx_in8 (List.mem_of_getElem? (i := 23) rfl)
set_option maxRecDepth 100000 in
theorem rx_cw181 : Cond.code (rx_y 181) (rx_b 181) (rx_ml 181) (rx_rt 181) ∈ lw_tbl := rx_in7 (List.mem_of_getElem? (i := 203) rfl)
set_option maxRecDepth 100000 in
theorem rx_cw182 : Cond.code (rx_y 182) (rx_b 182) (rx_ml 182) (rx_rt 182) ∈ lw_tbl := rx_in7 (List.mem_of_getElem? (i := 187) rfl)
set_option maxRecDepth 100000 in
theorem rx_cw183 : Cond.code (rx_y 183) (rx_b 183) (rx_ml 183) (rx_rt 183) ∈ lw_tbl := rx_in7 (List.mem_of_getElem? (i := 211) rfl)
set_option maxRecDepth 100000 in
theorem rx_cw184 : Cond.code (rx_y 184) (rx_b 184) (rx_ml 184) (rx_rt 184) ∈ lw_tbl := rx_in7 (List.mem_of_getElem? (i := 219) rfl)
set_option maxRecDepth 100000 in
theorem rx_cw185 : Cond.code (rx_y 185) (rx_b 185) (rx_ml 185) (rx_rt 185) ∈ lw_tbl := rx_in7 (List.mem_of_getElem? (i := 215) rfl)
set_option maxRecDepth 100000 in
theorem rx_cw186 : Cond.code (rx_y 186) (rx_b 186) (rx_ml 186) (rx_rt 186) ∈ lw_tbl := rx_in7 (List.mem_of_getElem? (i := 223) rfl)
set_option maxRecDepth 100000 in
theorem rx_cw187 : Cond.code (rx_y 187) (rx_b 187) (rx_ml 187) (rx_rt 187) ∈ lw_tbl := rx_in8 (List.mem_of_getElem? (i := 15) rfl)
set_option maxRecDepth 100000 in
theorem rx_cw188 : Cond.code (rx_y 188) (rx_b 188) (rx_ml 188) (rx_rt 188) ∈ lw_tbl := rx_in8 (List.mem_of_getElem? (i := 11) rfl)
set_option maxRecDepth 100000 in
theorem rx_cw189 : Cond.code (rx_y 189) (rx_b 189) (rx_ml 189) (rx_rt 189) ∈ lw_tbl := rx_in8 (List.mem_of_getElem? (i := 3) rfl)
set_option maxRecDepth 100000 in
theorem rx_cw190 : Cond.code (rx_y 190) (rx_b 190) (rx_ml 190) (rx_rt 190) ∈ lw_tbl := rx_in8 (List.mem_of_getElem? (i := 19) rfl)
set_option maxRecDepth 100000 in
theorem rx_cw191 : Cond.code (rx_y 191) (rx_b 191) (rx_ml 191) (rx_rt 191) ∈ lw_tbl := rx_in7 (List.mem_of_getElem? (i := 227) rfl)
set_option maxRecDepth 100000 in
theorem rx_cw192 : Cond.code (rx_y 192) (rx_b 192) (rx_ml 192) (rx_rt 192) ∈ lw_tbl := rx_in7 (List.mem_of_getElem? (i := 239) rfl)
set_option maxRecDepth 100000 in
theorem rx_cw193 : Cond.code (rx_y 193) (rx_b 193) (rx_ml 193) (rx_rt 193) ∈ lw_tbl := rx_in8 (List.mem_of_getElem? (i := 7) rfl)
set_option maxRecDepth 100000 in
theorem rx_cw194 : Cond.code (rx_y 194) (rx_b 194) (rx_ml 194) (rx_rt 194) ∈ lw_tbl := rx_in7 (List.mem_of_getElem? (i := 231) rfl)
set_option maxRecDepth 100000 in
theorem rx_cw195 : Cond.code (rx_y 195) (rx_b 195) (rx_ml 195) (rx_rt 195) ∈ lw_tbl := rx_in7 (List.mem_of_getElem? (i := 235) rfl)
set_option maxRecDepth 100000 in
theorem rx_cw196 : Cond.code (rx_y 196) (rx_b 196) (rx_ml 196) (rx_rt 196) ∈ lw_tbl := rx_in8 (List.mem_of_getElem? (i := 37) rfl)
set_option maxRecDepth 100000 in
theorem rx_cw197 : Cond.code (rx_y 197) (rx_b 197) (rx_ml 197) (rx_rt 197) ∈ lw_tbl := rx_in8 (List.mem_of_getElem? (i := 34) rfl)
set_option maxRecDepth 100000 in
theorem rx_cw198 : Cond.code (rx_y 198) (rx_b 198) (rx_ml 198) (rx_rt 198) ∈ lw_tbl := rx_in8 (List.mem_of_getElem? (i := 31) rfl)
set_option maxRecDepth 100000 in
theorem rx_cw199 : Cond.code (rx_y 199) (rx_b 199) (rx_ml 199) (rx_rt 199) ∈ lw_tbl := rx_in8 (List.mem_of_getElem? (i := 57) rfl)
set_option maxRecDepth 100000 in
theorem rx_cw200 : Cond.code (rx_y 200) (rx_b 200) (rx_ml 200) (rx_rt 200) ∈ lw_tbl := rx_in8 (List.mem_of_getElem? (i := 27) rfl)
set_option maxRecDepth 100000 in
theorem rx_cw201 : Cond.code (rx_y 201) (rx_b 201) (rx_ml 201) (rx_rt 201) ∈ lw_tbl := rx_in8 (List.mem_of_getElem? (i := 41) rfl)
set_option maxRecDepth 100000 in
theorem rx_cw202 : Cond.code (rx_y 202) (rx_b 202) (rx_ml 202) (rx_rt 202) ∈ lw_tbl := rx_in8 (List.mem_of_getElem? (i := 45) rfl)
set_option maxRecDepth 100000 in
theorem rx_cw203 : Cond.code (rx_y 203) (rx_b 203) (rx_ml 203) (rx_rt 203) ∈ lw_tbl := rx_in8 (List.mem_of_getElem? (i := 53) rfl)
set_option maxRecDepth 100000 in
theorem rx_cw204 : Cond.code (rx_y 204) (rx_b 204) (rx_ml 204) (rx_rt 204) ∈ lw_tbl := rx_in8 (List.mem_of_getElem? (i := 49) rfl)
set_option maxRecDepth 100000 in
theorem rx_cw205 : Cond.code (rx_y 205) (rx_b 205) (rx_ml 205) (rx_rt 205) ∈ lw_tbl := rx_in8 (List.mem_of_getElem? (i := 61) rfl)
set_option maxRecDepth 100000 in
theorem rx_cw206 : Cond.code (rx_y 206) (rx_b 206) (rx_ml 206) (rx_rt 206) ∈ lw_tbl := rx_in8 (List.mem_of_getElem? (i := 71) rfl)
set_option maxRecDepth 100000 in
theorem rx_cw207 : Cond.code (rx_y 207) (rx_b 207) (rx_ml 207) (rx_rt 207) ∈ lw_tbl := rx_in8 (List.mem_of_getElem? (i := 68) rfl)
set_option maxRecDepth 100000 in
theorem rx_cw208 : Cond.code (rx_y 208) (rx_b 208) (rx_ml 208) (rx_rt 208) ∈ lw_tbl := rx_in8 (List.mem_of_getElem? (i := 65) rfl)
set_option maxRecDepth 100000 in
theorem rx_cw209 : Cond.code (rx_y 209) (rx_b 209) (rx_ml 209) (rx_rt 209) ∈ lw_tbl := rx_in8 (List.mem_of_getElem? (i := 84) rfl)
set_option maxRecDepth 100000 in
theorem rx_cw210 : Cond.code (rx_y 210) (rx_b 210) (rx_ml 210) (rx_rt 210) ∈ lw_tbl := rx_in8 (List.mem_of_getElem? (i := 128) rfl)
set_option maxRecDepth 100000 in
theorem rx_cw211 : Cond.code (rx_y 211) (rx_b 211) (rx_ml 211) (rx_rt 211) ∈ lw_tbl := rx_in8 (List.mem_of_getElem? (i := 120) rfl)
set_option maxRecDepth 100000 in
theorem rx_cw212 : Cond.code (rx_y 212) (rx_b 212) (rx_ml 212) (rx_rt 212) ∈ lw_tbl := rx_in8 (List.mem_of_getElem? (i := 112) rfl)
set_option maxRecDepth 100000 in
theorem rx_cw213 : Cond.code (rx_y 213) (rx_b 213) (rx_ml 213) (rx_rt 213) ∈ lw_tbl := rx_in8 (List.mem_of_getElem? (i := 116) rfl)
set_option maxRecDepth 100000 in
theorem rx_cw214 : Cond.code (rx_y 214) (rx_b 214) (rx_ml 214) (rx_rt 214) ∈ lw_tbl := rx_in8 (List.mem_of_getElem? (i := 124) rfl)
set_option maxRecDepth 100000 in
theorem rx_cw215 : Cond.code (rx_y 215) (rx_b 215) (rx_ml 215) (rx_rt 215) ∈ lw_tbl := rx_in8 (List.mem_of_getElem? (i := 108) rfl)
set_option maxRecDepth 100000 in
theorem rx_cw216 : Cond.code (rx_y 216) (rx_b 216) (rx_ml 216) (rx_rt 216) ∈ lw_tbl := rx_in8 (List.mem_of_getElem? (i := 104) rfl)
set_option maxRecDepth 100000 in
theorem rx_cw217 : Cond.code (rx_y 217) (rx_b 217) (rx_ml 217) (rx_rt 217) ∈ lw_tbl := rx_in8 (List.mem_of_getElem? (i := 136) rfl)
set_option maxRecDepth 100000 in
theorem rx_cw218 : Cond.code (rx_y 218) (rx_b 218) (rx_ml 218) (rx_rt 218) ∈ lw_tbl := rx_in8 (List.mem_of_getElem? (i := 132) rfl)
set_option maxRecDepth 100000 in
theorem rx_cw219 : Cond.code (rx_y 219) (rx_b 219) (rx_ml 219) (rx_rt 219) ∈ lw_tbl := rx_in8 (List.mem_of_getElem? (i := 140) rfl)
set_option maxRecDepth 100000 in
theorem rx_cw220 : Cond.code (rx_y 220) (rx_b 220) (rx_ml 220) (rx_rt 220) ∈ lw_tbl := rx_in8 (List.mem_of_getElem? (i := 100) rfl)
set_option maxRecDepth 100000 in
theorem rx_cw221 : Cond.code (rx_y 221) (rx_b 221) (rx_ml 221) (rx_rt 221) ∈ lw_tbl := rx_in8 (List.mem_of_getElem? (i := 144) rfl)
set_option maxRecDepth 100000 in
theorem rx_cw222 : Cond.code (rx_y 222) (rx_b 222) (rx_ml 222) (rx_rt 222) ∈ lw_tbl := rx_in8 (List.mem_of_getElem? (i := 148) rfl)
set_option maxRecDepth 100000 in
theorem rx_cw223 : Cond.code (rx_y 223) (rx_b 223) (rx_ml 223) (rx_rt 223) ∈ lw_tbl := rx_in8 (List.mem_of_getElem? (i := 96) rfl)
set_option maxRecDepth 100000 in
theorem rx_cw224 : Cond.code (rx_y 224) (rx_b 224) (rx_ml 224) (rx_rt 224) ∈ lw_tbl := rx_in8 (List.mem_of_getElem? (i := 92) rfl)
set_option maxRecDepth 100000 in
theorem rx_cw225 : Cond.code (rx_y 225) (rx_b 225) (rx_ml 225) (rx_rt 225) ∈ lw_tbl := rx_in8 (List.mem_of_getElem? (i := 88) rfl)
set_option maxRecDepth 100000 in
theorem rx_cw226 : Cond.code (rx_y 226) (rx_b 226) (rx_ml 226) (rx_rt 226) ∈ lw_tbl := rx_in8 (List.mem_of_getElem? (i := 79) rfl)
set_option maxRecDepth 100000 in
theorem rx_cw227 : Cond.code (rx_y 227) (rx_b 227) (rx_ml 227) (rx_rt 227) ∈ lw_tbl := rx_in8 (List.mem_of_getElem? (i := 76) rfl)
set_option maxRecDepth 100000 in
theorem rx_cw228 : Cond.code (rx_y 228) (rx_b 228) (rx_ml 228) (rx_rt 228) ∈ lw_tbl := rx_in8 (List.mem_of_getElem? (i := 153) rfl)
set_option maxRecDepth 100000 in
theorem rx_cw229 : Cond.code (rx_y 229) (rx_b 229) (rx_ml 229) (rx_rt 229) ∈ lw_tbl := rx_in8 (List.mem_of_getElem? (i := 161) rfl)
set_option maxRecDepth 100000 in
theorem rx_cw230 : Cond.code (rx_y 230) (rx_b 230) (rx_ml 230) (rx_rt 230) ∈ lw_tbl := rx_in8 (List.mem_of_getElem? (i := 166) rfl)
set_option maxRecDepth 100000 in
theorem rx_cw231 : Cond.code (rx_y 231) (rx_b 231) (rx_ml 231) (rx_rt 231) ∈ lw_tbl := rx_in8 (List.mem_of_getElem? (i := 157) rfl)
set_option maxRecDepth 100000 in
theorem rx_cw232 : Cond.code (rx_y 232) (rx_b 232) (rx_ml 232) (rx_rt 232) ∈ lw_tbl := rx_in8 (List.mem_of_getElem? (i := 170) rfl)
set_option maxRecDepth 100000 in
theorem rx_cw233 : Cond.code (rx_y 233) (rx_b 233) (rx_ml 233) (rx_rt 233) ∈ lw_tbl := rx_in8 (List.mem_of_getElem? (i := 182) rfl)
set_option maxRecDepth 100000 in
theorem rx_cw234 : Cond.code (rx_y 234) (rx_b 234) (rx_ml 234) (rx_rt 234) ∈ lw_tbl := rx_in8 (List.mem_of_getElem? (i := 178) rfl)
set_option maxRecDepth 100000 in
theorem rx_cw235 : Cond.code (rx_y 235) (rx_b 235) (rx_ml 235) (rx_rt 235) ∈ lw_tbl := rx_in8 (List.mem_of_getElem? (i := 174) rfl)
set_option maxRecDepth 100000 in
theorem rx_cw236 : Cond.code (rx_y 236) (rx_b 236) (rx_ml 236) (rx_rt 236) ∈ lw_tbl := rx_in8 (List.mem_of_getElem? (i := 186) rfl)
set_option maxRecDepth 100000 in
theorem rx_cw237 : Cond.code (rx_y 237) (rx_b 237) (rx_ml 237) (rx_rt 237) ∈ lw_tbl := rx_in8 (List.mem_of_getElem? (i := 190) rfl)
set_option maxRecDepth 100000 in
theorem rx_cw238 : Cond.code (rx_y 238) (rx_b 238) (rx_ml 238) (rx_rt 238) ∈ lw_tbl := rx_in8 (List.mem_of_getElem? (i := 194) rfl)
set_option maxRecDepth 100000 in
theorem rx_cw239 : Cond.code (rx_y 239) (rx_b 239) (rx_ml 239) (rx_rt 239) ∈ lw_tbl := rx_in8 (List.mem_of_getElem? (i := 202) rfl)
set_option maxRecDepth 100000 in
theorem rx_cw240 : Cond.code (rx_y 240) (rx_b 240) (rx_ml 240) (rx_rt 240) ∈ lw_tbl := rx_in8 (List.mem_of_getElem? (i := 205) rfl)
set_option maxRecDepth 100000 in
theorem rx_cw241 : Cond.code (rx_y 241) (rx_b 241) (rx_ml 241) (rx_rt 241) ∈ lw_tbl := rx_in8 (List.mem_of_getElem? (i := 198) rfl)
set_option maxRecDepth 100000 in
theorem rx_cw242 : Cond.code (rx_y 242) (rx_b 242) (rx_ml 242) (rx_rt 242) ∈ lw_tbl := rx_in8 (List.mem_of_getElem? (i := 209) rfl)
set_option maxRecDepth 100000 in
theorem rx_cw243 : Cond.code (rx_y 243) (rx_b 243) (rx_ml 243) (rx_rt 243) ∈ lw_tbl := rx_in8 (List.mem_of_getElem? (i := 217) rfl)
set_option maxRecDepth 100000 in
theorem rx_cw244 : Cond.code (rx_y 244) (rx_b 244) (rx_ml 244) (rx_rt 244) ∈ lw_tbl := rx_in8 (List.mem_of_getElem? (i := 213) rfl)
set_option maxRecDepth 100000 in
theorem rx_cw245 : Cond.code (rx_y 245) (rx_b 245) (rx_ml 245) (rx_rt 245) ∈ lw_tbl := rx_in8 (List.mem_of_getElem? (i := 236) rfl)
set_option maxRecDepth 100000 in
theorem rx_cw246 : Cond.code (rx_y 246) (rx_b 246) (rx_ml 246) (rx_rt 246) ∈ lw_tbl := rx_in8 (List.mem_of_getElem? (i := 232) rfl)
set_option maxRecDepth 100000 in
theorem rx_cw247 : Cond.code (rx_y 247) (rx_b 247) (rx_ml 247) (rx_rt 247) ∈ lw_tbl := rx_in8 (List.mem_of_getElem? (i := 228) rfl)
set_option maxRecDepth 100000 in
theorem rx_cw248 : Cond.code (rx_y 248) (rx_b 248) (rx_ml 248) (rx_rt 248) ∈ lw_tbl := rx_in8 (List.mem_of_getElem? (i := 224) rfl)
set_option maxRecDepth 100000 in
theorem rx_cw249 : Cond.code (rx_y 249) (rx_b 249) (rx_ml 249) (rx_rt 249) ∈ lw_tbl := rx_in8 (List.mem_of_getElem? (i := 221) rfl)
set_option maxRecDepth 100000 in
theorem rx_cw250 : Cond.code (rx_y 250) (rx_b 250) (rx_ml 250) (rx_rt 250) ∈ lw_tbl := rx_in9 (List.mem_of_getElem? (i := 0) rfl)
set_option maxRecDepth 100000 in
theorem rx_cw251 : Cond.code (rx_y 251) (rx_b 251) (rx_ml 251) (rx_rt 251) ∈ lw_tbl := rx_in9 (List.mem_of_getElem? (i := 4) rfl)
set_option maxRecDepth 100000 in
theorem rx_cw252 : Cond.code (rx_y 252) (rx_b 252) (rx_ml 252) (rx_rt 252) ∈ lw_tbl := rx_in9 (List.mem_of_getElem? (i := 8) rfl)
set_option maxRecDepth 100000 in
theorem rx_cw253 : Cond.code (rx_y 253) (rx_b 253) (rx_ml 253) (rx_rt 253) ∈ lw_tbl := rx_in9 (List.mem_of_getElem? (i := 21) rfl)
set_option maxRecDepth 100000 in
theorem rx_cw254 : Cond.code (rx_y 254) (rx_b 254) (rx_ml 254) (rx_rt 254) ∈ lw_tbl := rx_in9 (List.mem_of_getElem? (i := 18) rfl)
set_option maxRecDepth 100000 in
theorem rx_cw255 : Cond.code (rx_y 255) (rx_b 255) (rx_ml 255) (rx_rt 255) ∈ lw_tbl := rx_in9 (List.mem_of_getElem? (i := 15) rfl)
set_option maxRecDepth 100000 in
theorem rx_cw256 : Cond.code (rx_y 256) (rx_b 256) (rx_ml 256) (rx_rt 256) ∈ lw_tbl := rx_in9 (List.mem_of_getElem? (i := 12) rfl)
set_option maxRecDepth 100000 in
theorem rx_cw257 : Cond.code (rx_y 257) (rx_b 257) (rx_ml 257) (rx_rt 257) ∈ lw_tbl := rx_in9 (List.mem_of_getElem? (i := 25) rfl)
set_option maxRecDepth 100000 in
theorem rx_cw258 : Cond.code (rx_y 258) (rx_b 258) (rx_ml 258) (rx_rt 258) ∈ lw_tbl := rx_in9 (List.mem_of_getElem? (i := 29) rfl)
set_option maxRecDepth 100000 in
theorem rx_cw259 : Cond.code (rx_y 259) (rx_b 259) (rx_ml 259) (rx_rt 259) ∈ lw_tbl := rx_in5 (List.mem_of_getElem? (i := 88) rfl)
set_option maxRecDepth 100000 in
theorem rx_cw260 : Cond.code (rx_y 260) (rx_b 260) (rx_ml 260) (rx_rt 260) ∈ lw_tbl := rx_in5 (List.mem_of_getElem? (i := 6) rfl)
set_option maxRecDepth 100000 in
theorem rx_cw261 : Cond.code (rx_y 261) (rx_b 261) (rx_ml 261) (rx_rt 261) ∈ lw_tbl := rx_in3 (List.mem_of_getElem? (i := 142) rfl)
set_option maxRecDepth 100000 in
theorem rx_cw262 : Cond.code (rx_y 262) (rx_b 262) (rx_ml 262) (rx_rt 262) ∈ lw_tbl := rx_in4 (List.mem_of_getElem? (i := 185) rfl)
theorem rx_cwA0 {mi : Nat} (h0 : 0 ≤ mi) (h1 : mi < 16) : Cond.code (rx_y mi) (rx_b mi) (rx_ml mi) (rx_rt mi) ∈ lw_tbl := by
  rcases (show mi = 0 ∨ mi = 1 ∨ mi = 2 ∨ mi = 3 ∨ mi = 4 ∨ mi = 5 ∨ mi = 6 ∨ mi = 7 ∨ mi = 8 ∨ mi = 9 ∨ mi = 10 ∨ mi = 11 ∨ mi = 12 ∨ mi = 13 ∨ mi = 14 ∨ mi = 15 by omega) with rfl | rfl | rfl | rfl | rfl | rfl | rfl | rfl | rfl | rfl | rfl | rfl | rfl | rfl | rfl | rfl
  · exact rx_cw0
  · exact rx_cw1
  · exact rx_cw2
  · exact rx_cw3
  · exact rx_cw4
  · exact rx_cw5
  · exact rx_cw6
  · exact rx_cw7
  · exact rx_cw8
  · exact rx_cw9
  · exact rx_cw10
  · exact rx_cw11
  · exact rx_cw12
  · exact rx_cw13
  · exact rx_cw14
  · exact rx_cw15
theorem rx_cwA1 {mi : Nat} (h0 : 16 ≤ mi) (h1 : mi < 32) : Cond.code (rx_y mi) (rx_b mi) (rx_ml mi) (rx_rt mi) ∈ lw_tbl := by
  rcases (show mi = 16 ∨ mi = 17 ∨ mi = 18 ∨ mi = 19 ∨ mi = 20 ∨ mi = 21 ∨ mi = 22 ∨ mi = 23 ∨ mi = 24 ∨ mi = 25 ∨ mi = 26 ∨ mi = 27 ∨ mi = 28 ∨ mi = 29 ∨ mi = 30 ∨ mi = 31 by omega) with rfl | rfl | rfl | rfl | rfl | rfl | rfl | rfl | rfl | rfl | rfl | rfl | rfl | rfl | rfl | rfl
  · exact rx_cw16
  · exact rx_cw17
  · exact rx_cw18
  · exact rx_cw19
  · exact rx_cw20
  · exact rx_cw21
  · exact rx_cw22
  · exact rx_cw23
  · exact rx_cw24
  · exact rx_cw25
  · exact rx_cw26
  · exact rx_cw27
  · exact rx_cw28
  · exact rx_cw29
  · exact rx_cw30
  · exact rx_cw31
theorem rx_cwA2 {mi : Nat} (h0 : 32 ≤ mi) (h1 : mi < 48) : Cond.code (rx_y mi) (rx_b mi) (rx_ml mi) (rx_rt mi) ∈ lw_tbl := by
  rcases (show mi = 32 ∨ mi = 33 ∨ mi = 34 ∨ mi = 35 ∨ mi = 36 ∨ mi = 37 ∨ mi = 38 ∨ mi = 39 ∨ mi = 40 ∨ mi = 41 ∨ mi = 42 ∨ mi = 43 ∨ mi = 44 ∨ mi = 45 ∨ mi = 46 ∨ mi = 47 by omega) with rfl | rfl | rfl | rfl | rfl | rfl | rfl | rfl | rfl | rfl | rfl | rfl | rfl | rfl | rfl | rfl
  · exact rx_cw32
  · exact rx_cw33
  · exact rx_cw34
  · exact rx_cw35
  · exact rx_cw36
  · exact rx_cw37
  · exact rx_cw38
  · exact rx_cw39
  · exact rx_cw40
  · exact rx_cw41
  · exact rx_cw42
  · exact rx_cw43
  · exact rx_cw44
  · exact rx_cw45
  · exact rx_cw46
  · exact rx_cw47
theorem rx_cwA3 {mi : Nat} (h0 : 48 ≤ mi) (h1 : mi < 64) : Cond.code (rx_y mi) (rx_b mi) (rx_ml mi) (rx_rt mi) ∈ lw_tbl := by
  rcases (show mi = 48 ∨ mi = 49 ∨ mi = 50 ∨ mi = 51 ∨ mi = 52 ∨ mi = 53 ∨ mi = 54 ∨ mi = 55 ∨ mi = 56 ∨ mi = 57 ∨ mi = 58 ∨ mi = 59 ∨ mi = 60 ∨ mi = 61 ∨ mi = 62 ∨ mi = 63 by omega) with rfl | rfl | rfl | rfl | rfl | rfl | rfl | rfl | rfl | rfl | rfl | rfl | rfl | rfl | rfl | rfl
  · exact rx_cw48
  · exact rx_cw49
  · exact rx_cw50
  · exact rx_cw51
  · exact rx_cw52
  · exact rx_cw53
  · exact rx_cw54
  · exact rx_cw55
  · exact rx_cw56
  · exact rx_cw57
  · exact rx_cw58
  · exact rx_cw59
  · exact rx_cw60
  · exact rx_cw61
  · exact rx_cw62
  · exact rx_cw63
theorem rx_cwA4 {mi : Nat} (h0 : 64 ≤ mi) (h1 : mi < 80) : Cond.code (rx_y mi) (rx_b mi) (rx_ml mi) (rx_rt mi) ∈ lw_tbl := by
  rcases (show mi = 64 ∨ mi = 65 ∨ mi = 66 ∨ mi = 67 ∨ mi = 68 ∨ mi = 69 ∨ mi = 70 ∨ mi = 71 ∨ mi = 72 ∨ mi = 73 ∨ mi = 74 ∨ mi = 75 ∨ mi = 76 ∨ mi = 77 ∨ mi = 78 ∨ mi = 79 by omega) with rfl | rfl | rfl | rfl | rfl | rfl | rfl | rfl | rfl | rfl | rfl | rfl | rfl | rfl | rfl | rfl
  · exact rx_cw64
  · exact rx_cw65
  · exact rx_cw66
  · exact rx_cw67
  · exact rx_cw68
  · exact rx_cw69
  · exact rx_cw70
  · exact rx_cw71
  · exact rx_cw72
  · exact rx_cw73
  · exact rx_cw74
  · exact rx_cw75
  · exact rx_cw76
  · exact rx_cw77
  · exact rx_cw78
  · exact rx_cw79
theorem rx_cwA5 {mi : Nat} (h0 : 80 ≤ mi) (h1 : mi < 96) : Cond.code (rx_y mi) (rx_b mi) (rx_ml mi) (rx_rt mi) ∈ lw_tbl := by
  rcases (show mi = 80 ∨ mi = 81 ∨ mi = 82 ∨ mi = 83 ∨ mi = 84 ∨ mi = 85 ∨ mi = 86 ∨ mi = 87 ∨ mi = 88 ∨ mi = 89 ∨ mi = 90 ∨ mi = 91 ∨ mi = 92 ∨ mi = 93 ∨ mi = 94 ∨ mi = 95 by omega) with rfl | rfl | rfl | rfl | rfl | rfl | rfl | rfl | rfl | rfl | rfl | rfl | rfl | rfl | rfl | rfl
  · exact rx_cw80
  · exact rx_cw81
  · exact rx_cw82
  · exact rx_cw83
  · exact rx_cw84
  · exact rx_cw85
  · exact rx_cw86
  · exact rx_cw87
  · exact rx_cw88
  · exact rx_cw89
  · exact rx_cw90
  · exact rx_cw91
  · exact rx_cw92
  · exact rx_cw93
  · exact rx_cw94
  · exact rx_cw95
theorem rx_cwA6 {mi : Nat} (h0 : 96 ≤ mi) (h1 : mi < 112) : Cond.code (rx_y mi) (rx_b mi) (rx_ml mi) (rx_rt mi) ∈ lw_tbl := by
  rcases (show mi = 96 ∨ mi = 97 ∨ mi = 98 ∨ mi = 99 ∨ mi = 100 ∨ mi = 101 ∨ mi = 102 ∨ mi = 103 ∨ mi = 104 ∨ mi = 105 ∨ mi = 106 ∨ mi = 107 ∨ mi = 108 ∨ mi = 109 ∨ mi = 110 ∨ mi = 111 by omega) with rfl | rfl | rfl | rfl | rfl | rfl | rfl | rfl | rfl | rfl | rfl | rfl | rfl | rfl | rfl | rfl
  · exact rx_cw96
  · exact rx_cw97
  · exact rx_cw98
  · exact rx_cw99
  · exact rx_cw100
  · exact rx_cw101
  · exact rx_cw102
  · exact rx_cw103
  · exact rx_cw104
  · exact rx_cw105
  · exact rx_cw106
  · exact rx_cw107
  · exact rx_cw108
  · exact rx_cw109
  · exact rx_cw110
  · exact rx_cw111
theorem rx_cwA7 {mi : Nat} (h0 : 112 ≤ mi) (h1 : mi < 128) : Cond.code (rx_y mi) (rx_b mi) (rx_ml mi) (rx_rt mi) ∈ lw_tbl := by
  rcases (show mi = 112 ∨ mi = 113 ∨ mi = 114 ∨ mi = 115 ∨ mi = 116 ∨ mi = 117 ∨ mi = 118 ∨ mi = 119 ∨ mi = 120 ∨ mi = 121 ∨ mi = 122 ∨ mi = 123 ∨ mi = 124 ∨ mi = 125 ∨ mi = 126 ∨ mi = 127 by omega) with rfl | rfl | rfl | rfl | rfl | rfl | rfl | rfl | rfl | rfl | rfl | rfl | rfl | rfl | rfl | rfl
  · exact rx_cw112
  · exact rx_cw113
  · exact rx_cw114
  · exact rx_cw115
  · exact rx_cw116
  · exact rx_cw117
  · exact rx_cw118
  · exact rx_cw119
  · exact rx_cw120
  · exact rx_cw121
  · exact rx_cw122
  · exact rx_cw123
  · exact rx_cw124
  · exact rx_cw125
  · exact rx_cw126
  · exact rx_cw127
theorem rx_cwA8 {mi : Nat} (h0 : 128 ≤ mi) (h1 : mi < 144) : Cond.code (rx_y mi) (rx_b mi) (rx_ml mi) (rx_rt mi) ∈ lw_tbl := by
  rcases (show mi = 128 ∨ mi = 129 ∨ mi = 130 ∨ mi = 131 ∨ mi = 132 ∨ mi = 133 ∨ mi = 134 ∨ mi = 135 ∨ mi = 136 ∨ mi = 137 ∨ mi = 138 ∨ mi = 139 ∨ mi = 140 ∨ mi = 141 ∨ mi = 142 ∨ mi = 143 by omega) with rfl | rfl | rfl | rfl | rfl | rfl | rfl | rfl | rfl | rfl | rfl | rfl | rfl | rfl | rfl | rfl
  · exact rx_cw128
  · exact rx_cw129
  · exact rx_cw130
  · exact rx_cw131
  · exact rx_cw132
  · exact rx_cw133
  · exact rx_cw134
  · exact rx_cw135
  · exact rx_cw136
  · exact rx_cw137
  · exact rx_cw138
  · exact rx_cw139
  · exact rx_cw140
  · exact rx_cw141
  · exact rx_cw142
  · exact rx_cw143
theorem rx_cwA9 {mi : Nat} (h0 : 144 ≤ mi) (h1 : mi < 160) : Cond.code (rx_y mi) (rx_b mi) (rx_ml mi) (rx_rt mi) ∈ lw_tbl := by
  rcases (show mi = 144 ∨ mi = 145 ∨ mi = 146 ∨ mi = 147 ∨ mi = 148 ∨ mi = 149 ∨ mi = 150 ∨ mi = 151 ∨ mi = 152 ∨ mi = 153 ∨ mi = 154 ∨ mi = 155 ∨ mi = 156 ∨ mi = 157 ∨ mi = 158 ∨ mi = 159 by omega) with rfl | rfl | rfl | rfl | rfl | rfl | rfl | rfl | rfl | rfl | rfl | rfl | rfl | rfl | rfl | rfl
  · exact rx_cw144
  · exact rx_cw145
  · exact rx_cw146
  · exact rx_cw147
  · exact rx_cw148
  · exact rx_cw149
  · exact rx_cw150
  · exact rx_cw151
  · exact rx_cw152
  · exact rx_cw153
  · exact rx_cw154
  · exact rx_cw155
  · exact rx_cw156
  · exact rx_cw157
  · exact rx_cw158
  · exact rx_cw159
theorem rx_cwA10 {mi : Nat} (h0 : 160 ≤ mi) (h1 : mi < 176) : Cond.code (rx_y mi) (rx_b mi) (rx_ml mi) (rx_rt mi) ∈ lw_tbl := by
  rcases (show mi = 160 ∨ mi = 161 ∨ mi = 162 ∨ mi = 163 ∨ mi = 164 ∨ mi = 165 ∨ mi = 166 ∨ mi = 167 ∨ mi = 168 ∨ mi = 169 ∨ mi = 170 ∨ mi = 171 ∨ mi = 172 ∨ mi = 173 ∨ mi = 174 ∨ mi = 175 by omega) with rfl | rfl | rfl | rfl | rfl | rfl | rfl | rfl | rfl | rfl | rfl | rfl | rfl | rfl | rfl | rfl
  · exact rx_cw160
  · exact rx_cw161
  · exact rx_cw162
  · exact rx_cw163
  · exact rx_cw164
  · exact rx_cw165
  · exact rx_cw166
  · exact rx_cw167
  · exact rx_cw168
  · exact rx_cw169
  · exact rx_cw170
  · exact rx_cw171
  · exact rx_cw172
  · exact rx_cw173
  · exact rx_cw174
  · exact rx_cw175
theorem rx_cwA11 {mi : Nat} (h0 : 176 ≤ mi) (h1 : mi < 192) : Cond.code (rx_y mi) (rx_b mi) (rx_ml mi) (rx_rt mi) ∈ lw_tbl := by
  rcases (show mi = 176 ∨ mi = 177 ∨ mi = 178 ∨ mi = 179 ∨ mi = 180 ∨ mi = 181 ∨ mi = 182 ∨ mi = 183 ∨ mi = 184 ∨ mi = 185 ∨ mi = 186 ∨ mi = 187 ∨ mi = 188 ∨ mi = 189 ∨ mi = 190 ∨ mi = 191 by omega) with rfl | rfl | rfl | rfl | rfl | rfl | rfl | rfl | rfl | rfl | rfl | rfl | rfl | rfl | rfl | rfl
  · exact rx_cw176
  · exact rx_cw177
  · exact rx_cw178
  · exact rx_cw179
  · exact rx_cw180
  · exact rx_cw181
  · exact rx_cw182
  · exact rx_cw183
  · exact rx_cw184
  · exact rx_cw185
  · exact rx_cw186
  · exact rx_cw187
  · exact rx_cw188
  · exact rx_cw189
  · exact rx_cw190
  · exact rx_cw191
theorem rx_cwA12 {mi : Nat} (h0 : 192 ≤ mi) (h1 : mi < 208) : Cond.code (rx_y mi) (rx_b mi) (rx_ml mi) (rx_rt mi) ∈ lw_tbl := by
  rcases (show mi = 192 ∨ mi = 193 ∨ mi = 194 ∨ mi = 195 ∨ mi = 196 ∨ mi = 197 ∨ mi = 198 ∨ mi = 199 ∨ mi = 200 ∨ mi = 201 ∨ mi = 202 ∨ mi = 203 ∨ mi = 204 ∨ mi = 205 ∨ mi = 206 ∨ mi = 207 by omega) with rfl | rfl | rfl | rfl | rfl | rfl | rfl | rfl | rfl | rfl | rfl | rfl | rfl | rfl | rfl | rfl
  · exact rx_cw192
  · exact rx_cw193
  · exact rx_cw194
  · exact rx_cw195
  · exact rx_cw196
  · exact rx_cw197
  · exact rx_cw198
  · exact rx_cw199
  · exact rx_cw200
  · exact rx_cw201
  · exact rx_cw202
  · exact rx_cw203
  · exact rx_cw204
  · exact rx_cw205
  · exact rx_cw206
  · exact rx_cw207
theorem rx_cwA13 {mi : Nat} (h0 : 208 ≤ mi) (h1 : mi < 224) : Cond.code (rx_y mi) (rx_b mi) (rx_ml mi) (rx_rt mi) ∈ lw_tbl := by
  rcases (show mi = 208 ∨ mi = 209 ∨ mi = 210 ∨ mi = 211 ∨ mi = 212 ∨ mi = 213 ∨ mi = 214 ∨ mi = 215 ∨ mi = 216 ∨ mi = 217 ∨ mi = 218 ∨ mi = 219 ∨ mi = 220 ∨ mi = 221 ∨ mi = 222 ∨ mi = 223 by omega) with rfl | rfl | rfl | rfl | rfl | rfl | rfl | rfl | rfl | rfl | rfl | rfl | rfl | rfl | rfl | rfl
  · exact rx_cw208
  · exact rx_cw209
  · exact rx_cw210
  · exact rx_cw211
  · exact rx_cw212
  · exact rx_cw213
  · exact rx_cw214
  · exact rx_cw215
  · exact rx_cw216
  · exact rx_cw217
  · exact rx_cw218
  · exact rx_cw219
  · exact rx_cw220
  · exact rx_cw221
  · exact rx_cw222
  · exact rx_cw223
theorem rx_cwA14 {mi : Nat} (h0 : 224 ≤ mi) (h1 : mi < 240) : Cond.code (rx_y mi) (rx_b mi) (rx_ml mi) (rx_rt mi) ∈ lw_tbl := by
  rcases (show mi = 224 ∨ mi = 225 ∨ mi = 226 ∨ mi = 227 ∨ mi = 228 ∨ mi = 229 ∨ mi = 230 ∨ mi = 231 ∨ mi = 232 ∨ mi = 233 ∨ mi = 234 ∨ mi = 235 ∨ mi = 236 ∨ mi = 237 ∨ mi = 238 ∨ mi = 239 by omega) with rfl | rfl | rfl | rfl | rfl | rfl | rfl | rfl | rfl | rfl | rfl | rfl | rfl | rfl | rfl | rfl
  · exact rx_cw224
  · exact rx_cw225
  · exact rx_cw226
  · exact rx_cw227
  · exact rx_cw228
  · exact rx_cw229
  · exact rx_cw230
  · exact rx_cw231
  · exact rx_cw232
  · exact rx_cw233
  · exact rx_cw234
  · exact rx_cw235
  · exact rx_cw236
  · exact rx_cw237
  · exact rx_cw238
  · exact rx_cw239
theorem rx_cwA15 {mi : Nat} (h0 : 240 ≤ mi) (h1 : mi < 256) : Cond.code (rx_y mi) (rx_b mi) (rx_ml mi) (rx_rt mi) ∈ lw_tbl := by
  rcases (show mi = 240 ∨ mi = 241 ∨ mi = 242 ∨ mi = 243 ∨ mi = 244 ∨ mi = 245 ∨ mi = 246 ∨ mi = 247 ∨ mi = 248 ∨ mi = 249 ∨ mi = 250 ∨ mi = 251 ∨ mi = 252 ∨ mi = 253 ∨ mi = 254 ∨ mi = 255 by omega) with rfl | rfl | rfl | rfl | rfl | rfl | rfl | rfl | rfl | rfl | rfl | rfl | rfl | rfl | rfl | rfl
  · exact rx_cw240
  · exact rx_cw241
  · exact rx_cw242
  · exact rx_cw243
  · exact rx_cw244
  · exact rx_cw245
  · exact rx_cw246
  · exact rx_cw247
  · exact rx_cw248
  · exact rx_cw249
  · exact rx_cw250
  · exact rx_cw251
  · exact rx_cw252
  · exact rx_cw253
  · exact rx_cw254
  · exact rx_cw255
theorem rx_cwA16 {mi : Nat} (h0 : 256 ≤ mi) (h1 : mi < 263) : Cond.code (rx_y mi) (rx_b mi) (rx_ml mi) (rx_rt mi) ∈ lw_tbl := by
  rcases (show mi = 256 ∨ mi = 257 ∨ mi = 258 ∨ mi = 259 ∨ mi = 260 ∨ mi = 261 ∨ mi = 262 by omega) with rfl | rfl | rfl | rfl | rfl | rfl | rfl
  · exact rx_cw256
  · exact rx_cw257
  · exact rx_cw258
  · exact rx_cw259
  · exact rx_cw260
  · exact rx_cw261
  · exact rx_cw262
theorem rx_cwA {mi : Nat} (h : mi < 263) : Cond.code (rx_y mi) (rx_b mi) (rx_ml mi) (rx_rt mi) ∈ rx_TS := by
  refine List.mem_filter.mpr ⟨?_, rfl⟩
  by_cases h0 : mi < 16
  · exact rx_cwA0 (by omega) h0
  by_cases h1 : mi < 32
  · exact rx_cwA1 (by omega) h1
  by_cases h2 : mi < 48
  · exact rx_cwA2 (by omega) h2
  by_cases h3 : mi < 64
  · exact rx_cwA3 (by omega) h3
  by_cases h4 : mi < 80
  · exact rx_cwA4 (by omega) h4
  by_cases h5 : mi < 96
  · exact rx_cwA5 (by omega) h5
  by_cases h6 : mi < 112
  · exact rx_cwA6 (by omega) h6
  by_cases h7 : mi < 128
  · exact rx_cwA7 (by omega) h7
  by_cases h8 : mi < 144
  · exact rx_cwA8 (by omega) h8
  by_cases h9 : mi < 160
  · exact rx_cwA9 (by omega) h9
  by_cases h10 : mi < 176
  · exact rx_cwA10 (by omega) h10
  by_cases h11 : mi < 192
  · exact rx_cwA11 (by omega) h11
  by_cases h12 : mi < 208
  · exact rx_cwA12 (by omega) h12
  by_cases h13 : mi < 224
  · exact rx_cwA13 (by omega) h13
  by_cases h14 : mi < 240
  · exact rx_cwA14 (by omega) h14
  by_cases h15 : mi < 256
  · exact rx_cwA15 (by omega) h15
  by_cases h16 : mi < 263
  · exact rx_cwA16 (by omega) h16
  omega
