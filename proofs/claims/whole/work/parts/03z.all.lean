theorem rx_okJ0 {mi : Nat} (h0 : 0 ≤ mi) (h1 : mi < 16) : rx_chain (rx_code mi) = true ∧ ∀ i ∈ rx_code mi, rx_chkI mi i = true := by
  rcases (show mi = 0 ∨ mi = 1 ∨ mi = 2 ∨ mi = 3 ∨ mi = 4 ∨ mi = 5 ∨ mi = 6 ∨ mi = 7 ∨ mi = 8 ∨ mi = 9 ∨ mi = 10 ∨ mi = 11 ∨ mi = 12 ∨ mi = 13 ∨ mi = 14 ∨ mi = 15 by omega) with rfl | rfl | rfl | rfl | rfl | rfl | rfl | rfl | rfl | rfl | rfl | rfl | rfl | rfl | rfl | rfl
  · exact rx_ok0
  · exact rx_ok1
  · exact rx_ok2
  · exact rx_ok3
  · exact rx_ok4
  · exact rx_ok5
  · exact rx_ok6
  · exact rx_ok7
  · exact rx_ok8
  · exact rx_ok9
  · exact rx_ok10
  · exact rx_ok11
  · exact rx_ok12
  · exact rx_ok13
  · exact rx_ok14
  · exact rx_ok15
theorem rx_okJ1 {mi : Nat} (h0 : 16 ≤ mi) (h1 : mi < 32) : rx_chain (rx_code mi) = true ∧ ∀ i ∈ rx_code mi, rx_chkI mi i = true := by
  rcases (show mi = 16 ∨ mi = 17 ∨ mi = 18 ∨ mi = 19 ∨ mi = 20 ∨ mi = 21 ∨ mi = 22 ∨ mi = 23 ∨ mi = 24 ∨ mi = 25 ∨ mi = 26 ∨ mi = 27 ∨ mi = 28 ∨ mi = 29 ∨ mi = 30 ∨ mi = 31 by omega) with rfl | rfl | rfl | rfl | rfl | rfl | rfl | rfl | rfl | rfl | rfl | rfl | rfl | rfl | rfl | rfl
  · exact rx_ok16
  · exact rx_ok17
  · exact rx_ok18
  · exact rx_ok19
  · exact rx_ok20
  · exact rx_ok21
  · exact rx_ok22
  · exact rx_ok23
  · exact rx_ok24
  · exact rx_ok25
  · exact rx_ok26
  · exact rx_ok27
  · exact rx_ok28
  · exact rx_ok29
  · exact rx_ok30
  · exact rx_ok31
theorem rx_okJ2 {mi : Nat} (h0 : 32 ≤ mi) (h1 : mi < 48) : rx_chain (rx_code mi) = true ∧ ∀ i ∈ rx_code mi, rx_chkI mi i = true := by
  rcases (show mi = 32 ∨ mi = 33 ∨ mi = 34 ∨ mi = 35 ∨ mi = 36 ∨ mi = 37 ∨ mi = 38 ∨ mi = 39 ∨ mi = 40 ∨ mi = 41 ∨ mi = 42 ∨ mi = 43 ∨ mi = 44 ∨ mi = 45 ∨ mi = 46 ∨ mi = 47 by omega) with rfl | rfl | rfl | rfl | rfl | rfl | rfl | rfl | rfl | rfl | rfl | rfl | rfl | rfl | rfl | rfl
  · exact rx_ok32
  · exact rx_ok33
  · exact rx_ok34
  · exact rx_ok35
  · exact rx_ok36
  · exact rx_ok37
  · exact rx_ok38
  · exact rx_ok39
  · exact rx_ok40
  · exact rx_ok41
  · exact rx_ok42
  · exact rx_ok43
  · exact rx_ok44
  · exact rx_ok45
  · exact rx_ok46
  · exact rx_ok47
theorem rx_okJ3 {mi : Nat} (h0 : 48 ≤ mi) (h1 : mi < 64) : rx_chain (rx_code mi) = true ∧ ∀ i ∈ rx_code mi, rx_chkI mi i = true := by
  rcases (show mi = 48 ∨ mi = 49 ∨ mi = 50 ∨ mi = 51 ∨ mi = 52 ∨ mi = 53 ∨ mi = 54 ∨ mi = 55 ∨ mi = 56 ∨ mi = 57 ∨ mi = 58 ∨ mi = 59 ∨ mi = 60 ∨ mi = 61 ∨ mi = 62 ∨ mi = 63 by omega) with rfl | rfl | rfl | rfl | rfl | rfl | rfl | rfl | rfl | rfl | rfl | rfl | rfl | rfl | rfl | rfl
  · exact rx_ok48
  · exact rx_ok49
  · exact rx_ok50
  · exact rx_ok51
  · exact rx_ok52
  · exact rx_ok53
  · exact rx_ok54
  · exact rx_ok55
  · exact rx_ok56
  · exact rx_ok57
  · exact rx_ok58
  · exact rx_ok59
  · exact rx_ok60
  · exact rx_ok61
  · exact rx_ok62
  · exact rx_ok63
theorem rx_okJ4 {mi : Nat} (h0 : 64 ≤ mi) (h1 : mi < 80) : rx_chain (rx_code mi) = true ∧ ∀ i ∈ rx_code mi, rx_chkI mi i = true := by
  rcases (show mi = 64 ∨ mi = 65 ∨ mi = 66 ∨ mi = 67 ∨ mi = 68 ∨ mi = 69 ∨ mi = 70 ∨ mi = 71 ∨ mi = 72 ∨ mi = 73 ∨ mi = 74 ∨ mi = 75 ∨ mi = 76 ∨ mi = 77 ∨ mi = 78 ∨ mi = 79 by omega) with rfl | rfl | rfl | rfl | rfl | rfl | rfl | rfl | rfl | rfl | rfl | rfl | rfl | rfl | rfl | rfl
  · exact rx_ok64
  · exact rx_ok65
  · exact rx_ok66
  · exact rx_ok67
  · exact rx_ok68
  · exact rx_ok69
  · exact rx_ok70
  · exact rx_ok71
  · exact rx_ok72
  · exact rx_ok73
  · exact rx_ok74
  · exact rx_ok75
  · exact rx_ok76
  · exact rx_ok77
  · exact rx_ok78
  · exact rx_ok79
theorem rx_okJ5 {mi : Nat} (h0 : 80 ≤ mi) (h1 : mi < 96) : rx_chain (rx_code mi) = true ∧ ∀ i ∈ rx_code mi, rx_chkI mi i = true := by
  rcases (show mi = 80 ∨ mi = 81 ∨ mi = 82 ∨ mi = 83 ∨ mi = 84 ∨ mi = 85 ∨ mi = 86 ∨ mi = 87 ∨ mi = 88 ∨ mi = 89 ∨ mi = 90 ∨ mi = 91 ∨ mi = 92 ∨ mi = 93 ∨ mi = 94 ∨ mi = 95 by omega) with rfl | rfl | rfl | rfl | rfl | rfl | rfl | rfl | rfl | rfl | rfl | rfl | rfl | rfl | rfl | rfl
  · exact rx_ok80
  · exact rx_ok81
  · exact rx_ok82
  · exact rx_ok83
  · exact rx_ok84
  · exact rx_ok85
  · exact rx_ok86
  · exact rx_ok87
  · exact rx_ok88
  · exact rx_ok89
  · exact rx_ok90
  · exact rx_ok91
  · exact rx_ok92
  · exact rx_ok93
  · exact rx_ok94
  · exact rx_ok95
theorem rx_okJ6 {mi : Nat} (h0 : 96 ≤ mi) (h1 : mi < 112) : rx_chain (rx_code mi) = true ∧ ∀ i ∈ rx_code mi, rx_chkI mi i = true := by
  rcases (show mi = 96 ∨ mi = 97 ∨ mi = 98 ∨ mi = 99 ∨ mi = 100 ∨ mi = 101 ∨ mi = 102 ∨ mi = 103 ∨ mi = 104 ∨ mi = 105 ∨ mi = 106 ∨ mi = 107 ∨ mi = 108 ∨ mi = 109 ∨ mi = 110 ∨ mi = 111 by omega) with rfl | rfl | rfl | rfl | rfl | rfl | rfl | rfl | rfl | rfl | rfl | rfl | rfl | rfl | rfl | rfl
  · exact rx_ok96
  · exact rx_ok97
  · exact rx_ok98
  · exact rx_ok99
  · exact rx_ok100
  · exact rx_ok101
  · exact rx_ok102
  · exact rx_ok103
  · exact rx_ok104
  · exact rx_ok105
  · exact rx_ok106
  · exact rx_ok107
  · exact rx_ok108
  · exact rx_ok109
  · exact rx_ok110
  · exact rx_ok111
theorem rx_okJ7 {mi : Nat} (h0 : 112 ≤ mi) (h1 : mi < 128) : rx_chain (rx_code mi) = true ∧ ∀ i ∈ rx_code mi, rx_chkI mi i = true := by
  rcases (show mi = 112 ∨ mi = 113 ∨ mi = 114 ∨ mi = 115 ∨ mi = 116 ∨ mi = 117 ∨ mi = 118 ∨ mi = 119 ∨ mi = 120 ∨ mi = 121 ∨ mi = 122 ∨ mi = 123 ∨ mi = 124 ∨ mi = 125 ∨ mi = 126 ∨ mi = 127 by omega) with rfl | rfl | rfl | rfl | rfl | rfl | rfl | rfl | rfl | rfl | rfl | rfl | rfl | rfl | rfl | rfl
  · exact rx_ok112
  · exact rx_ok113
  · exact rx_ok114
  · exact rx_ok115
  · exact rx_ok116
  · exact rx_ok117
  · exact rx_ok118
  · exact rx_ok119
  · exact rx_ok120
  · exact rx_ok121
  · exact rx_ok122
  · exact rx_ok123
  · exact rx_ok124
  · exact rx_ok125
  · exact rx_ok126
  · exact rx_ok127
theorem rx_okJ8 {mi : Nat} (h0 : 128 ≤ mi) (h1 : mi < 144) : rx_chain (rx_code mi) = true ∧ ∀ i ∈ rx_code mi, rx_chkI mi i = true := by
  rcases (show mi = 128 ∨ mi = 129 ∨ mi = 130 ∨ mi = 131 ∨ mi = 132 ∨ mi = 133 ∨ mi = 134 ∨ mi = 135 ∨ mi = 136 ∨ mi = 137 ∨ mi = 138 ∨ mi = 139 ∨ mi = 140 ∨ mi = 141 ∨ mi = 142 ∨ mi = 143 by omega) with rfl | rfl | rfl | rfl | rfl | rfl | rfl | rfl | rfl | rfl | rfl | rfl | rfl | rfl | rfl | rfl
  · exact rx_ok128
  · exact rx_ok129
  · exact rx_ok130
  · exact rx_ok131
  · exact rx_ok132
  · exact rx_ok133
  · exact rx_ok134
  · exact rx_ok135
  · exact rx_ok136
  · exact rx_ok137
  · exact rx_ok138
  · exact rx_ok139
  · exact rx_ok140
  · exact rx_ok141
  · exact rx_ok142
  · exact rx_ok143
theorem rx_okJ9 {mi : Nat} (h0 : 144 ≤ mi) (h1 : mi < 160) : rx_chain (rx_code mi) = true ∧ ∀ i ∈ rx_code mi, rx_chkI mi i = true := by
  rcases (show mi = 144 ∨ mi = 145 ∨ mi = 146 ∨ mi = 147 ∨ mi = 148 ∨ mi = 149 ∨ mi = 150 ∨ mi = 151 ∨ mi = 152 ∨ mi = 153 ∨ mi = 154 ∨ mi = 155 ∨ mi = 156 ∨ mi = 157 ∨ mi = 158 ∨ mi = 159 by omega) with rfl | rfl | rfl | rfl | rfl | rfl | rfl | rfl | rfl | rfl | rfl | rfl | rfl | rfl | rfl | rfl
  · exact rx_ok144
  · exact rx_ok145
  · exact rx_ok146
  · exact rx_ok147
  · exact rx_ok148
  · exact rx_ok149
  · exact rx_ok150
  · exact rx_ok151
  · exact rx_ok152
  · exact rx_ok153
  · exact rx_ok154
  · exact rx_ok155
  · exact rx_ok156
  · exact rx_ok157
  · exact rx_ok158
  · exact rx_ok159
theorem rx_okJ10 {mi : Nat} (h0 : 160 ≤ mi) (h1 : mi < 176) : rx_chain (rx_code mi) = true ∧ ∀ i ∈ rx_code mi, rx_chkI mi i = true := by
  rcases (show mi = 160 ∨ mi = 161 ∨ mi = 162 ∨ mi = 163 ∨ mi = 164 ∨ mi = 165 ∨ mi = 166 ∨ mi = 167 ∨ mi = 168 ∨ mi = 169 ∨ mi = 170 ∨ mi = 171 ∨ mi = 172 ∨ mi = 173 ∨ mi = 174 ∨ mi = 175 by omega) with rfl | rfl | rfl | rfl | rfl | rfl | rfl | rfl | rfl | rfl | rfl | rfl | rfl | rfl | rfl | rfl
  · exact rx_ok160
  · exact rx_ok161
  · exact rx_ok162
  · exact rx_ok163
  · exact rx_ok164
  · exact rx_ok165
  · exact rx_ok166
  · exact rx_ok167
  · exact rx_ok168
  · exact rx_ok169
  · exact rx_ok170
  · exact rx_ok171
  · exact rx_ok172
  · exact rx_ok173
  · exact rx_ok174
  · exact rx_ok175
theorem rx_okJ11 {mi : Nat} (h0 : 176 ≤ mi) (h1 : mi < 192) : rx_chain (rx_code mi) = true ∧ ∀ i ∈ rx_code mi, rx_chkI mi i = true := by
  rcases (show mi = 176 ∨ mi = 177 ∨ mi = 178 ∨ mi = 179 ∨ mi = 180 ∨ mi = 181 ∨ mi = 182 ∨ mi = 183 ∨ mi = 184 ∨ mi = 185 ∨ mi = 186 ∨ mi = 187 ∨ mi = 188 ∨ mi = 189 ∨ mi = 190 ∨ mi = 191 by omega) with rfl | rfl | rfl | rfl | rfl | rfl | rfl | rfl | rfl | rfl | rfl | rfl | rfl | rfl | rfl | rfl
  · exact rx_ok176
  · exact rx_ok177
  · exact rx_ok178
  · exact rx_ok179
  · exact rx_ok180
  · exact rx_ok181
  · exact rx_ok182
  · exact rx_ok183
  · exact rx_ok184
  · exact rx_ok185
  · exact rx_ok186
  · exact rx_ok187
  · exact rx_ok188
  · exact rx_ok189
  · exact rx_ok190
  · exact rx_ok191
theorem rx_okJ12 {mi : Nat} (h0 : 192 ≤ mi) (h1 : mi < 208) : rx_chain (rx_code mi) = true ∧ ∀ i ∈ rx_code mi, rx_chkI mi i = true := by
  rcases (show mi = 192 ∨ mi = 193 ∨ mi = 194 ∨ mi = 195 ∨ mi = 196 ∨ mi = 197 ∨ mi = 198 ∨ mi = 199 ∨ mi = 200 ∨ mi = 201 ∨ mi = 202 ∨ mi = 203 ∨ mi = 204 ∨ mi = 205 ∨ mi = 206 ∨ mi = 207 by omega) with rfl | rfl | rfl | rfl | rfl | rfl | rfl | rfl | rfl | rfl | rfl | rfl | rfl | rfl | rfl | rfl
  · exact rx_ok192
  · exact rx_ok193
  · exact rx_ok194
  · exact rx_ok195
  · exact rx_ok196
  · exact rx_ok197
  · exact rx_ok198
  · exact rx_ok199
  · exact rx_ok200
  · exact rx_ok201
  · exact rx_ok202
  · exact rx_ok203
  · exact rx_ok204
  · exact rx_ok205
  · exact rx_ok206
  · exact rx_ok207
theorem rx_okJ13 {mi : Nat} (h0 : 208 ≤ mi) (h1 : mi < 224) : rx_chain (rx_code mi) = true ∧ ∀ i ∈ rx_code mi, rx_chkI mi i = true := by
  rcases (show mi = 208 ∨ mi = 209 ∨ mi = 210 ∨ mi = 211 ∨ mi = 212 ∨ mi = 213 ∨ mi = 214 ∨ mi = 215 ∨ mi = 216 ∨ mi = 217 ∨ mi = 218 ∨ mi = 219 ∨ mi = 220 ∨ mi = 221 ∨ mi = 222 ∨ mi = 223 by omega) with rfl | rfl | rfl | rfl | rfl | rfl | rfl | rfl | rfl | rfl | rfl | rfl | rfl | rfl | rfl | rfl
  · exact rx_ok208
  · exact rx_ok209
  · exact rx_ok210
  · exact rx_ok211
  · exact rx_ok212
  · exact rx_ok213
  · exact rx_ok214
  · exact rx_ok215
  · exact rx_ok216
  · exact rx_ok217
  · exact rx_ok218
  · exact rx_ok219
  · exact rx_ok220
  · exact rx_ok221
  · exact rx_ok222
  · exact rx_ok223
theorem rx_okJ14 {mi : Nat} (h0 : 224 ≤ mi) (h1 : mi < 240) : rx_chain (rx_code mi) = true ∧ ∀ i ∈ rx_code mi, rx_chkI mi i = true := by
  rcases (show mi = 224 ∨ mi = 225 ∨ mi = 226 ∨ mi = 227 ∨ mi = 228 ∨ mi = 229 ∨ mi = 230 ∨ mi = 231 ∨ mi = 232 ∨ mi = 233 ∨ mi = 234 ∨ mi = 235 ∨ mi = 236 ∨ mi = 237 ∨ mi = 238 ∨ mi = 239 by omega) with rfl | rfl | rfl | rfl | rfl | rfl | rfl | rfl | rfl | rfl | rfl | rfl | rfl | rfl | rfl | rfl
  · exact rx_ok224
  · exact rx_ok225
  · exact rx_ok226
  · exact rx_ok227
  · exact rx_ok228
  · exact rx_ok229
  · exact rx_ok230
  · exact rx_ok231
  · exact rx_ok232
  · exact rx_ok233
  · exact rx_ok234
  · exact rx_ok235
  · exact rx_ok236
  · exact rx_ok237
  · exact rx_ok238
  · exact rx_ok239
theorem rx_okJ15 {mi : Nat} (h0 : 240 ≤ mi) (h1 : mi < 256) : rx_chain (rx_code mi) = true ∧ ∀ i ∈ rx_code mi, rx_chkI mi i = true := by
  rcases (show mi = 240 ∨ mi = 241 ∨ mi = 242 ∨ mi = 243 ∨ mi = 244 ∨ mi = 245 ∨ mi = 246 ∨ mi = 247 ∨ mi = 248 ∨ mi = 249 ∨ mi = 250 ∨ mi = 251 ∨ mi = 252 ∨ mi = 253 ∨ mi = 254 ∨ mi = 255 by omega) with rfl | rfl | rfl | rfl | rfl | rfl | rfl | rfl | rfl | rfl | rfl | rfl | rfl | rfl | rfl | rfl
  · exact rx_ok240
  · exact rx_ok241
  · exact rx_ok242
  · exact rx_ok243
  · exact rx_ok244
  · exact rx_ok245
  · exact rx_ok246
  · exact rx_ok247
  · exact rx_ok248
  · exact rx_ok249
  · exact rx_ok250
  · exact rx_ok251
  · exact rx_ok252
  · exact rx_ok253
  · exact rx_ok254
  · exact rx_ok255
theorem rx_okJ16 {mi : Nat} (h0 : 256 ≤ mi) (h1 : mi < 264) : rx_chain (rx_code mi) = true ∧ ∀ i ∈ rx_code mi, rx_chkI mi i = true := by
  rcases (show mi = 256 ∨ mi = 257 ∨ mi = 258 ∨ mi = 259 ∨ mi = 260 ∨ mi = 261 ∨ mi = 262 ∨ mi = 263 by omega) with rfl | rfl | rfl | rfl | rfl | rfl | rfl | rfl
  · exact rx_ok256
  · exact rx_ok257
  · exact rx_ok258
  · exact rx_ok259
  · exact rx_ok260
  · exact rx_ok261
  · exact rx_ok262
  · exact rx_ok263
theorem rx_okI {mi : Nat} (h : mi < 264) : rx_chain (rx_code mi) = true ∧ ∀ i ∈ rx_code mi, rx_chkI mi i = true := by
  by_cases h0 : mi < 16
  · exact rx_okJ0 (by omega) h0
  by_cases h1 : mi < 32
  · exact rx_okJ1 (by omega) h1
  by_cases h2 : mi < 48
  · exact rx_okJ2 (by omega) h2
  by_cases h3 : mi < 64
  · exact rx_okJ3 (by omega) h3
  by_cases h4 : mi < 80
  · exact rx_okJ4 (by omega) h4
  by_cases h5 : mi < 96
  · exact rx_okJ5 (by omega) h5
  by_cases h6 : mi < 112
  · exact rx_okJ6 (by omega) h6
  by_cases h7 : mi < 128
  · exact rx_okJ7 (by omega) h7
  by_cases h8 : mi < 144
  · exact rx_okJ8 (by omega) h8
  by_cases h9 : mi < 160
  · exact rx_okJ9 (by omega) h9
  by_cases h10 : mi < 176
  · exact rx_okJ10 (by omega) h10
  by_cases h11 : mi < 192
  · exact rx_okJ11 (by omega) h11
  by_cases h12 : mi < 208
  · exact rx_okJ12 (by omega) h12
  by_cases h13 : mi < 224
  · exact rx_okJ13 (by omega) h13
  by_cases h14 : mi < 240
  · exact rx_okJ14 (by omega) h14
  by_cases h15 : mi < 256
  · exact rx_okJ15 (by omega) h15
  by_cases h16 : mi < 264
  · exact rx_okJ16 (by omega) h16
  omega
