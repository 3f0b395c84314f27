/-! all of it -/
theorem okLaw : okM GP 229 = true := by
  show List.all [k229_0, k229_1, k229_2, k229_3, k229_4, k229_5, k229_6, k229_7, k229_8, k229_9, k229_10, k229_11, k229_12, k229_13, k229_14, k229_15, k229_16, k229_17, k229_18, k229_19, k229_20, k229_21, k229_22, k229_23, k229_24, k229_25, k229_26, k229_27, k229_28, k229_29, k229_30, k229_31, k229_32, k229_33, k229_34, k229_35, k229_36, k229_37, k229_38, k229_39, k229_40] (okL GP 229) = true
  simp only [List.all_cons, List.all_nil, Bool.and_true, Bool.and_self, okL0, okL1, okL2, okL3, okL4, okL5, okL6, okL7, okL8, okL9, okL10, okL11, okL12, okL13, okL14, okL15, okL16, okL17, okL18, okL19, okL20, okL21, okL22, okL23, okL24, okL25, okL26, okL27, okL28, okL29, okL30, okL31, okL32, okL33, okL34, okL35, okL36, okL37, okL38, okL39, okL40]
theorem okc0 : ∀ mi, 0 ≤ mi → mi < 16 → okOne mi = true := by
  intro mi h1 h2
  rcases (show mi = 0 ∨ mi = 1 ∨ mi = 2 ∨ mi = 3 ∨ mi = 4 ∨ mi = 5 ∨ mi = 6 ∨ mi = 7 ∨ mi = 8 ∨ mi = 9 ∨ mi = 10 ∨ mi = 11 ∨ mi = 12 ∨ mi = 13 ∨ mi = 14 ∨ mi = 15 by omega) with rfl | rfl | rfl | rfl | rfl | rfl | rfl | rfl | rfl | rfl | rfl | rfl | rfl | rfl | rfl | rfl
  · exact ok0
  · exact ok1
  · exact ok2
  · exact ok3
  · exact ok4
  · exact ok5
  · exact ok6
  · exact ok7
  · exact ok8
  · exact ok9
  · exact ok10
  · exact ok11
  · exact ok12
  · exact ok13
  · exact ok14
  · exact ok15
theorem okc1 : ∀ mi, 16 ≤ mi → mi < 32 → okOne mi = true := by
  intro mi h1 h2
  rcases (show mi = 16 ∨ mi = 17 ∨ mi = 18 ∨ mi = 19 ∨ mi = 20 ∨ mi = 21 ∨ mi = 22 ∨ mi = 23 ∨ mi = 24 ∨ mi = 25 ∨ mi = 26 ∨ mi = 27 ∨ mi = 28 ∨ mi = 29 ∨ mi = 30 ∨ mi = 31 by omega) with rfl | rfl | rfl | rfl | rfl | rfl | rfl | rfl | rfl | rfl | rfl | rfl | rfl | rfl | rfl | rfl
  · exact ok16
  · exact ok17
  · exact ok18
  · exact ok19
  · exact ok20
  · exact ok21
  · exact ok22
  · exact ok23
  · exact ok24
  · exact ok25
  · exact ok26
  · exact ok27
  · exact ok28
  · exact ok29
  · exact ok30
  · exact ok31
theorem okc2 : ∀ mi, 32 ≤ mi → mi < 48 → okOne mi = true := by
  intro mi h1 h2
  rcases (show mi = 32 ∨ mi = 33 ∨ mi = 34 ∨ mi = 35 ∨ mi = 36 ∨ mi = 37 ∨ mi = 38 ∨ mi = 39 ∨ mi = 40 ∨ mi = 41 ∨ mi = 42 ∨ mi = 43 ∨ mi = 44 ∨ mi = 45 ∨ mi = 46 ∨ mi = 47 by omega) with rfl | rfl | rfl | rfl | rfl | rfl | rfl | rfl | rfl | rfl | rfl | rfl | rfl | rfl | rfl | rfl
  · exact ok32
  · exact ok33
  · exact ok34
  · exact ok35
  · exact ok36
  · exact ok37
  · exact ok38
  · exact ok39
  · exact ok40
  · exact ok41
  · exact ok42
  · exact ok43
  · exact ok44
  · exact ok45
  · exact ok46
  · exact ok47
theorem okc3 : ∀ mi, 48 ≤ mi → mi < 64 → okOne mi = true := by
  intro mi h1 h2
  rcases (show mi = 48 ∨ mi = 49 ∨ mi = 50 ∨ mi = 51 ∨ mi = 52 ∨ mi = 53 ∨ mi = 54 ∨ mi = 55 ∨ mi = 56 ∨ mi = 57 ∨ mi = 58 ∨ mi = 59 ∨ mi = 60 ∨ mi = 61 ∨ mi = 62 ∨ mi = 63 by omega) with rfl | rfl | rfl | rfl | rfl | rfl | rfl | rfl | rfl | rfl | rfl | rfl | rfl | rfl | rfl | rfl
  · exact ok48
  · exact ok49
  · exact ok50
  · exact ok51
  · exact ok52
  · exact ok53
  · exact ok54
  · exact ok55
  · exact ok56
  · exact ok57
  · exact ok58
  · exact ok59
  · exact ok60
  · exact ok61
  · exact ok62
  · exact ok63
theorem okc4 : ∀ mi, 64 ≤ mi → mi < 80 → okOne mi = true := by
  intro mi h1 h2
  rcases (show mi = 64 ∨ mi = 65 ∨ mi = 66 ∨ mi = 67 ∨ mi = 68 ∨ mi = 69 ∨ mi = 70 ∨ mi = 71 ∨ mi = 72 ∨ mi = 73 ∨ mi = 74 ∨ mi = 75 ∨ mi = 76 ∨ mi = 77 ∨ mi = 78 ∨ mi = 79 by omega) with rfl | rfl | rfl | rfl | rfl | rfl | rfl | rfl | rfl | rfl | rfl | rfl | rfl | rfl | rfl | rfl
  · exact ok64
  · exact ok65
  · exact ok66
  · exact ok67
  · exact ok68
  · exact ok69
  · exact ok70
  · exact ok71
  · exact ok72
  · exact ok73
  · exact ok74
  · exact ok75
  · exact ok76
  · exact ok77
  · exact ok78
  · exact ok79
theorem okc5 : ∀ mi, 80 ≤ mi → mi < 96 → okOne mi = true := by
  intro mi h1 h2
  rcases (show mi = 80 ∨ mi = 81 ∨ mi = 82 ∨ mi = 83 ∨ mi = 84 ∨ mi = 85 ∨ mi = 86 ∨ mi = 87 ∨ mi = 88 ∨ mi = 89 ∨ mi = 90 ∨ mi = 91 ∨ mi = 92 ∨ mi = 93 ∨ mi = 94 ∨ mi = 95 by omega) with rfl | rfl | rfl | rfl | rfl | rfl | rfl | rfl | rfl | rfl | rfl | rfl | rfl | rfl | rfl | rfl
  · exact ok80
  · exact ok81
  · exact ok82
  · exact ok83
  · exact ok84
  · exact ok85
  · exact ok86
  · exact ok87
  · exact ok88
  · exact ok89
  · exact ok90
  · exact ok91
  · exact ok92
  · exact ok93
  · exact ok94
  · exact ok95
theorem okc6 : ∀ mi, 96 ≤ mi → mi < 112 → okOne mi = true := by
  intro mi h1 h2
  rcases (show mi = 96 ∨ mi = 97 ∨ mi = 98 ∨ mi = 99 ∨ mi = 100 ∨ mi = 101 ∨ mi = 102 ∨ mi = 103 ∨ mi = 104 ∨ mi = 105 ∨ mi = 106 ∨ mi = 107 ∨ mi = 108 ∨ mi = 109 ∨ mi = 110 ∨ mi = 111 by omega) with rfl | rfl | rfl | rfl | rfl | rfl | rfl | rfl | rfl | rfl | rfl | rfl | rfl | rfl | rfl | rfl
  · exact ok96
  · exact ok97
  · exact ok98
  · exact ok99
  · exact ok100
  · exact ok101
  · exact ok102
  · exact ok103
  · exact ok104
  · exact ok105
  · exact ok106
  · exact ok107
  · exact ok108
  · exact ok109
  · exact ok110
  · exact ok111
theorem okc7 : ∀ mi, 112 ≤ mi → mi < 128 → okOne mi = true := by
  intro mi h1 h2
  rcases (show mi = 112 ∨ mi = 113 ∨ mi = 114 ∨ mi = 115 ∨ mi = 116 ∨ mi = 117 ∨ mi = 118 ∨ mi = 119 ∨ mi = 120 ∨ mi = 121 ∨ mi = 122 ∨ mi = 123 ∨ mi = 124 ∨ mi = 125 ∨ mi = 126 ∨ mi = 127 by omega) with rfl | rfl | rfl | rfl | rfl | rfl | rfl | rfl | rfl | rfl | rfl | rfl | rfl | rfl | rfl | rfl
  · exact ok112
  · exact ok113
  · exact ok114
  · exact ok115
  · exact ok116
  · exact ok117
  · exact ok118
  · exact ok119
  · exact ok120
  · exact ok121
  · exact ok122
  · exact ok123
  · exact ok124
  · exact ok125
  · exact ok126
  · exact ok127
theorem okc8 : ∀ mi, 128 ≤ mi → mi < 144 → okOne mi = true := by
  intro mi h1 h2
  rcases (show mi = 128 ∨ mi = 129 ∨ mi = 130 ∨ mi = 131 ∨ mi = 132 ∨ mi = 133 ∨ mi = 134 ∨ mi = 135 ∨ mi = 136 ∨ mi = 137 ∨ mi = 138 ∨ mi = 139 ∨ mi = 140 ∨ mi = 141 ∨ mi = 142 ∨ mi = 143 by omega) with rfl | rfl | rfl | rfl | rfl | rfl | rfl | rfl | rfl | rfl | rfl | rfl | rfl | rfl | rfl | rfl
  · exact ok128
  · exact ok129
  · exact ok130
  · exact ok131
  · exact ok132
  · exact ok133
  · exact ok134
  · exact ok135
  · exact ok136
  · exact ok137
  · exact ok138
  · exact ok139
  · exact ok140
  · exact ok141
  · exact ok142
  · exact ok143
theorem okc9 : ∀ mi, 144 ≤ mi → mi < 160 → okOne mi = true := by
  intro mi h1 h2
  rcases (show mi = 144 ∨ mi = 145 ∨ mi = 146 ∨ mi = 147 ∨ mi = 148 ∨ mi = 149 ∨ mi = 150 ∨ mi = 151 ∨ mi = 152 ∨ mi = 153 ∨ mi = 154 ∨ mi = 155 ∨ mi = 156 ∨ mi = 157 ∨ mi = 158 ∨ mi = 159 by omega) with rfl | rfl | rfl | rfl | rfl | rfl | rfl | rfl | rfl | rfl | rfl | rfl | rfl | rfl | rfl | rfl
  · exact ok144
  · exact ok145
  · exact ok146
  · exact ok147
  · exact ok148
  · exact ok149
  · exact ok150
  · exact ok151
  · exact ok152
  · exact ok153
  · exact ok154
  · exact ok155
  · exact ok156
  · exact ok157
  · exact ok158
  · exact ok159
theorem okc10 : ∀ mi, 160 ≤ mi → mi < 176 → okOne mi = true := by
  intro mi h1 h2
  rcases (show mi = 160 ∨ mi = 161 ∨ mi = 162 ∨ mi = 163 ∨ mi = 164 ∨ mi = 165 ∨ mi = 166 ∨ mi = 167 ∨ mi = 168 ∨ mi = 169 ∨ mi = 170 ∨ mi = 171 ∨ mi = 172 ∨ mi = 173 ∨ mi = 174 ∨ mi = 175 by omega) with rfl | rfl | rfl | rfl | rfl | rfl | rfl | rfl | rfl | rfl | rfl | rfl | rfl | rfl | rfl | rfl
  · exact ok160
  · exact ok161
  · exact ok162
  · exact ok163
  · exact ok164
  · exact ok165
  · exact ok166
  · exact ok167
  · exact ok168
  · exact ok169
  · exact ok170
  · exact ok171
  · exact ok172
  · exact ok173
  · exact ok174
  · exact ok175
theorem okc11 : ∀ mi, 176 ≤ mi → mi < 192 → okOne mi = true := by
  intro mi h1 h2
  rcases (show mi = 176 ∨ mi = 177 ∨ mi = 178 ∨ mi = 179 ∨ mi = 180 ∨ mi = 181 ∨ mi = 182 ∨ mi = 183 ∨ mi = 184 ∨ mi = 185 ∨ mi = 186 ∨ mi = 187 ∨ mi = 188 ∨ mi = 189 ∨ mi = 190 ∨ mi = 191 by omega) with rfl | rfl | rfl | rfl | rfl | rfl | rfl | rfl | rfl | rfl | rfl | rfl | rfl | rfl | rfl | rfl
  · exact ok176
  · exact ok177
  · exact ok178
  · exact ok179
  · exact ok180
  · exact ok181
  · exact ok182
  · exact ok183
  · exact ok184
  · exact ok185
  · exact ok186
  · exact ok187
  · exact ok188
  · exact ok189
  · exact ok190
  · exact ok191
theorem okc12 : ∀ mi, 192 ≤ mi → mi < 208 → okOne mi = true := by
  intro mi h1 h2
  rcases (show mi = 192 ∨ mi = 193 ∨ mi = 194 ∨ mi = 195 ∨ mi = 196 ∨ mi = 197 ∨ mi = 198 ∨ mi = 199 ∨ mi = 200 ∨ mi = 201 ∨ mi = 202 ∨ mi = 203 ∨ mi = 204 ∨ mi = 205 ∨ mi = 206 ∨ mi = 207 by omega) with rfl | rfl | rfl | rfl | rfl | rfl | rfl | rfl | rfl | rfl | rfl | rfl | rfl | rfl | rfl | rfl
  · exact ok192
  · exact ok193
  · exact ok194
  · exact ok195
  · exact ok196
  · exact ok197
  · exact ok198
  · exact ok199
  · exact ok200
  · exact ok201
  · exact ok202
  · exact ok203
  · exact ok204
  · exact ok205
  · exact ok206
  · exact ok207
theorem okc13 : ∀ mi, 208 ≤ mi → mi < 224 → okOne mi = true := by
  intro mi h1 h2
  rcases (show mi = 208 ∨ mi = 209 ∨ mi = 210 ∨ mi = 211 ∨ mi = 212 ∨ mi = 213 ∨ mi = 214 ∨ mi = 215 ∨ mi = 216 ∨ mi = 217 ∨ mi = 218 ∨ mi = 219 ∨ mi = 220 ∨ mi = 221 ∨ mi = 222 ∨ mi = 223 by omega) with rfl | rfl | rfl | rfl | rfl | rfl | rfl | rfl | rfl | rfl | rfl | rfl | rfl | rfl | rfl | rfl
  · exact ok208
  · exact ok209
  · exact ok210
  · exact ok211
  · exact ok212
  · exact ok213
  · exact ok214
  · exact ok215
  · exact ok216
  · exact ok217
  · exact ok218
  · exact ok219
  · exact ok220
  · exact ok221
  · exact ok222
  · exact ok223
theorem okc14 : ∀ mi, 224 ≤ mi → mi < 229 → okOne mi = true := by
  intro mi h1 h2
  rcases (show mi = 224 ∨ mi = 225 ∨ mi = 226 ∨ mi = 227 ∨ mi = 228 by omega) with rfl | rfl | rfl | rfl | rfl
  · exact ok224
  · exact ok225
  · exact ok226
  · exact ok227
  · exact ok228
theorem okAll : ∀ mi, mi < 229 → okOne mi = true := by
  intro mi h
  by_cases g0 : mi < 16
  · exact okc0 mi (by omega) g0
  by_cases g1 : mi < 32
  · exact okc1 mi (by omega) g1
  by_cases g2 : mi < 48
  · exact okc2 mi (by omega) g2
  by_cases g3 : mi < 64
  · exact okc3 mi (by omega) g3
  by_cases g4 : mi < 80
  · exact okc4 mi (by omega) g4
  by_cases g5 : mi < 96
  · exact okc5 mi (by omega) g5
  by_cases g6 : mi < 112
  · exact okc6 mi (by omega) g6
  by_cases g7 : mi < 128
  · exact okc7 mi (by omega) g7
  by_cases g8 : mi < 144
  · exact okc8 mi (by omega) g8
  by_cases g9 : mi < 160
  · exact okc9 mi (by omega) g9
  by_cases g10 : mi < 176
  · exact okc10 mi (by omega) g10
  by_cases g11 : mi < 192
  · exact okc11 mi (by omega) g11
  by_cases g12 : mi < 208
  · exact okc12 mi (by omega) g12
  by_cases g13 : mi < 224
  · exact okc13 mi (by omega) g13
  exact okc14 mi (by omega) h
theorem MOk_GP : MOk GP := by
  intro mi h
  have h1 := okAll mi h
  unfold okOne at h1
  rw [Bool.and_eq_true] at h1
  exact ⟨⟨_, h1.1⟩, h1.2⟩
