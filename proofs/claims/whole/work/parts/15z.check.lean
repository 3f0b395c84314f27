/-! all of it -/
theorem okLaw : okM GP 229 = true := by
  show List.all [k229_0, k229_1, k229_2, k229_3, k229_4, k229_5, k229_6, k229_7, k229_8, k229_9, k229_10, k229_11, k229_12, k229_13, k229_14, k229_15, k229_16, k229_17, k229_18, k229_19, k229_20, k229_21, k229_22, k229_23, k229_24, k229_25, k229_26, k229_27, k229_28, k229_29, k229_30, k229_31, k229_32, k229_33, k229_34, k229_35, k229_36, k229_37, k229_38, k229_39, k229_40] (okL GP 229) = true
  simp only [List.all_cons, List.all_nil, Bool.and_true, Bool.and_self, okL0, okL1, okL2, okL3, okL4, okL5, okL6, okL7, okL8, okL9, okL10, okL11, okL12, okL13, okL14, okL15, okL16, okL17, okL18, okL19, okL20, okL21, okL22, okL23, okL24, okL25, okL26, okL27, okL28, okL29, okL30, okL31, okL32, okL33, okL34, okL35, okL36, okL37, okL38, okL39, okL40]
theorem okc0 : ∀ mi, 0 ≤ mi → mi < 16 → okOne mi = true := by
  intro mi h1 h2
  rcases (show mi = 0 ∨ mi = 1 ∨ mi = 2 ∨ mi = 3 ∨ mi = 4 ∨ mi = 5 ∨ mi = 6 ∨ mi = 7 ∨ mi = 8 ∨ mi = 9 ∨ mi = 10 ∨ mi = 11 ∨ mi = 12 ∨ mi = 13 ∨ mi = 14 ∨ mi = 15 by omega) with rfl | rfl | rfl | rfl | rfl | rfl | rfl | rfl | rfl | rfl | rfl | rfl | rfl | rfl | rfl | rfl
  exacts [ok0, ok1, ok2, ok3, ok4, ok5, ok6, ok7, ok8, ok9, ok10, ok11, ok12, ok13, ok14, ok15]
theorem okc1 : ∀ mi, 16 ≤ mi → mi < 32 → okOne mi = true := by
  intro mi h1 h2
  rcases (show mi = 16 ∨ mi = 17 ∨ mi = 18 ∨ mi = 19 ∨ mi = 20 ∨ mi = 21 ∨ mi = 22 ∨ mi = 23 ∨ mi = 24 ∨ mi = 25 ∨ mi = 26 ∨ mi = 27 ∨ mi = 28 ∨ mi = 29 ∨ mi = 30 ∨ mi = 31 by omega) with rfl | rfl | rfl | rfl | rfl | rfl | rfl | rfl | rfl | rfl | rfl | rfl | rfl | rfl | rfl | rfl
  exacts [ok16, ok17, ok18, ok19, ok20, ok21, ok22, ok23, ok24, ok25, ok26, ok27, ok28, ok29, ok30, ok31]
theorem okc2 : ∀ mi, 32 ≤ mi → mi < 48 → okOne mi = true := by
  intro mi h1 h2
  rcases (show mi = 32 ∨ mi = 33 ∨ mi = 34 ∨ mi = 35 ∨ mi = 36 ∨ mi = 37 ∨ mi = 38 ∨ mi = 39 ∨ mi = 40 ∨ mi = 41 ∨ mi = 42 ∨ mi = 43 ∨ mi = 44 ∨ mi = 45 ∨ mi = 46 ∨ mi = 47 by omega) with rfl | rfl | rfl | rfl | rfl | rfl | rfl | rfl | rfl | rfl | rfl | rfl | rfl | rfl | rfl | rfl
  exacts [ok32, ok33, ok34, ok35, ok36, ok37, ok38, ok39, ok40, ok41, ok42, ok43, ok44, ok45, ok46, ok47]
theorem okc3 : ∀ mi, 48 ≤ mi → mi < 64 → okOne mi = true := by
  intro mi h1 h2
  rcases (show mi = 48 ∨ mi = 49 ∨ mi = 50 ∨ mi = 51 ∨ mi = 52 ∨ mi = 53 ∨ mi = 54 ∨ mi = 55 ∨ mi = 56 ∨ mi = 57 ∨ mi = 58 ∨ mi = 59 ∨ mi = 60 ∨ mi = 61 ∨ mi = 62 ∨ mi = 63 by omega) with rfl | rfl | rfl | rfl | rfl | rfl | rfl | rfl | rfl | rfl | rfl | rfl | rfl | rfl | rfl | rfl
  exacts [ok48, ok49, ok50, ok51, ok52, ok53, ok54, ok55, ok56, ok57, ok58, ok59, ok60, ok61, ok62, ok63]
theorem okc4 : ∀ mi, 64 ≤ mi → mi < 80 → okOne mi = true := by
  intro mi h1 h2
  rcases (show mi = 64 ∨ mi = 65 ∨ mi = 66 ∨ mi = 67 ∨ mi = 68 ∨ mi = 69 ∨ mi = 70 ∨ mi = 71 ∨ mi = 72 ∨ mi = 73 ∨ mi = 74 ∨ mi = 75 ∨ mi = 76 ∨ mi = 77 ∨ mi = 78 ∨ mi = 79 by omega) with rfl | rfl | rfl | rfl | rfl | rfl | rfl | rfl | rfl | rfl | rfl | rfl | rfl | rfl | rfl | rfl
  exacts [ok64, ok65, ok66, ok67, ok68, ok69, ok70, ok71, ok72, ok73, ok74, ok75, ok76, ok77, ok78, ok79]
theorem okc5 : ∀ mi, 80 ≤ mi → mi < 96 → okOne mi = true := by
  intro mi h1 h2
  rcases (show mi = 80 ∨ mi = 81 ∨ mi = 82 ∨ mi = 83 ∨ mi = 84 ∨ mi = 85 ∨ mi = 86 ∨ mi = 87 ∨ mi = 88 ∨ mi = 89 ∨ mi = 90 ∨ mi = 91 ∨ mi = 92 ∨ mi = 93 ∨ mi = 94 ∨ mi = 95 by omega) with rfl | rfl | rfl | rfl | rfl | rfl | rfl | rfl | rfl | rfl | rfl | rfl | rfl | rfl | rfl | rfl
  exacts [ok80, ok81, ok82, ok83, ok84, ok85, ok86, ok87, ok88, ok89, ok90, ok91, ok92, ok93, ok94, ok95]
theorem okc6 : ∀ mi, 96 ≤ mi → mi < 112 → okOne mi = true := by
  intro mi h1 h2
  rcases (show mi = 96 ∨ mi = 97 ∨ mi = 98 ∨ mi = 99 ∨ mi = 100 ∨ mi = 101 ∨ mi = 102 ∨ mi = 103 ∨ mi = 104 ∨ mi = 105 ∨ mi = 106 ∨ mi = 107 ∨ mi = 108 ∨ mi = 109 ∨ mi = 110 ∨ mi = 111 by omega) with rfl | rfl | rfl | rfl | rfl | rfl | rfl | rfl | rfl | rfl | rfl | rfl | rfl | rfl | rfl | rfl
  exacts [ok96, ok97, ok98, ok99, ok100, ok101, ok102, ok103, ok104, ok105, ok106, ok107, ok108, ok109, ok110, ok111]
theorem okc7 : ∀ mi, 112 ≤ mi → mi < 128 → okOne mi = true := by
  intro mi h1 h2
  rcases (show mi = 112 ∨ mi = 113 ∨ mi = 114 ∨ mi = 115 ∨ mi = 116 ∨ mi = 117 ∨ mi = 118 ∨ mi = 119 ∨ mi = 120 ∨ mi = 121 ∨ mi = 122 ∨ mi = 123 ∨ mi = 124 ∨ mi = 125 ∨ mi = 126 ∨ mi = 127 by omega) with rfl | rfl | rfl | rfl | rfl | rfl | rfl | rfl | rfl | rfl | rfl | rfl | rfl | rfl | rfl | rfl
  exacts [ok112, ok113, ok114, ok115, ok116, ok117, ok118, ok119, ok120, ok121, ok122, ok123, ok124, ok125, ok126, ok127]
theorem okc8 : ∀ mi, 128 ≤ mi → mi < 144 → okOne mi = true := by
  intro mi h1 h2
  rcases (show mi = 128 ∨ mi = 129 ∨ mi = 130 ∨ mi = 131 ∨ mi = 132 ∨ mi = 133 ∨ mi = 134 ∨ mi = 135 ∨ mi = 136 ∨ mi = 137 ∨ mi = 138 ∨ mi = 139 ∨ mi = 140 ∨ mi = 141 ∨ mi = 142 ∨ mi = 143 by omega) with rfl | rfl | rfl | rfl | rfl | rfl | rfl | rfl | rfl | rfl | rfl | rfl | rfl | rfl | rfl | rfl
  exacts [ok128, ok129, ok130, ok131, ok132, ok133, ok134, ok135, ok136, ok137, ok138, ok139, ok140, ok141, ok142, ok143]
theorem okc9 : ∀ mi, 144 ≤ mi → mi < 160 → okOne mi = true := by
  intro mi h1 h2
  rcases (show mi = 144 ∨ mi = 145 ∨ mi = 146 ∨ mi = 147 ∨ mi = 148 ∨ mi = 149 ∨ mi = 150 ∨ mi = 151 ∨ mi = 152 ∨ mi = 153 ∨ mi = 154 ∨ mi = 155 ∨ mi = 156 ∨ mi = 157 ∨ mi = 158 ∨ mi = 159 by omega) with rfl | rfl | rfl | rfl | rfl | rfl | rfl | rfl | rfl | rfl | rfl | rfl | rfl | rfl | rfl | rfl
  exacts [ok144, ok145, ok146, ok147, ok148, ok149, ok150, ok151, ok152, ok153, ok154, ok155, ok156, ok157, ok158, ok159]
theorem okc10 : ∀ mi, 160 ≤ mi → mi < 176 → okOne mi = true := by
  intro mi h1 h2
  rcases (show mi = 160 ∨ mi = 161 ∨ mi = 162 ∨ mi = 163 ∨ mi = 164 ∨ mi = 165 ∨ mi = 166 ∨ mi = 167 ∨ mi = 168 ∨ mi = 169 ∨ mi = 170 ∨ mi = 171 ∨ mi = 172 ∨ mi = 173 ∨ mi = 174 ∨ mi = 175 by omega) with rfl | rfl | rfl | rfl | rfl | rfl | rfl | rfl | rfl | rfl | rfl | rfl | rfl | rfl | rfl | rfl
  exacts [ok160, ok161, ok162, ok163, ok164, ok165, ok166, ok167, ok168, ok169, ok170, ok171, ok172, ok173, ok174, ok175]
theorem okc11 : ∀ mi, 176 ≤ mi → mi < 192 → okOne mi = true := by
  intro mi h1 h2
  rcases (show mi = 176 ∨ mi = 177 ∨ mi = 178 ∨ mi = 179 ∨ mi = 180 ∨ mi = 181 ∨ mi = 182 ∨ mi = 183 ∨ mi = 184 ∨ mi = 185 ∨ mi = 186 ∨ mi = 187 ∨ mi = 188 ∨ mi = 189 ∨ mi = 190 ∨ mi = 191 by omega) with rfl | rfl | rfl | rfl | rfl | rfl | rfl | rfl | rfl | rfl | rfl | rfl | rfl | rfl | rfl | rfl
  exacts [ok176, ok177, ok178, ok179, ok180, ok181, ok182, ok183, ok184, ok185, ok186, ok187, ok188, ok189, ok190, ok191]
theorem okc12 : ∀ mi, 192 ≤ mi → mi < 208 → okOne mi = true := by
  intro mi h1 h2
  rcases (show mi = 192 ∨ mi = 193 ∨ mi = 194 ∨ mi = 195 ∨ mi = 196 ∨ mi = 197 ∨ mi = 198 ∨ mi = 199 ∨ mi = 200 ∨ mi = 201 ∨ mi = 202 ∨ mi = 203 ∨ mi = 204 ∨ mi = 205 ∨ mi = 206 ∨ mi = 207 by omega) with rfl | rfl | rfl | rfl | rfl | rfl | rfl | rfl | rfl | rfl | rfl | rfl | rfl | rfl | rfl | rfl
  exacts [ok192, ok193, ok194, ok195, ok196, ok197, ok198, ok199, ok200, ok201, ok202, ok203, ok204, ok205, ok206, ok207]
theorem okc13 : ∀ mi, 208 ≤ mi → mi < 224 → okOne mi = true := by
  intro mi h1 h2
  rcases (show mi = 208 ∨ mi = 209 ∨ mi = 210 ∨ mi = 211 ∨ mi = 212 ∨ mi = 213 ∨ mi = 214 ∨ mi = 215 ∨ mi = 216 ∨ mi = 217 ∨ mi = 218 ∨ mi = 219 ∨ mi = 220 ∨ mi = 221 ∨ mi = 222 ∨ mi = 223 by omega) with rfl | rfl | rfl | rfl | rfl | rfl | rfl | rfl | rfl | rfl | rfl | rfl | rfl | rfl | rfl | rfl
  exacts [ok208, ok209, ok210, ok211, ok212, ok213, ok214, ok215, ok216, ok217, ok218, ok219, ok220, ok221, ok222, ok223]
theorem okc14 : ∀ mi, 224 ≤ mi → mi < 229 → okOne mi = true := by
  intro mi h1 h2
  rcases (show mi = 224 ∨ mi = 225 ∨ mi = 226 ∨ mi = 227 ∨ mi = 228 by omega) with rfl | rfl | rfl | rfl | rfl
  exacts [ok224, ok225, ok226, ok227, ok228]
theorem okAll : ∀ mi, mi < 229 → okOne mi = true := by
  intro mi h
  by_cases g0 : mi < 16
  · exact okc0 mi (by omega) g0
  by_cases g1 : mi < 32
  · exact okc1 mi (by omega) g1
  by_cases g2 : mi < 48
  · exact okc2 mi (by omega) g2
  by_cases g3 : mi < 64
  · exact okc3 mi (by omega) g3
  by_cases g4 : mi < 80
  · exact okc4 mi (by omega) g4
  by_cases g5 : mi < 96
  · exact okc5 mi (by omega) g5
  by_cases g6 : mi < 112
  · exact okc6 mi (by omega) g6
  by_cases g7 : mi < 128
  · exact okc7 mi (by omega) g7
  by_cases g8 : mi < 144
  · exact okc8 mi (by omega) g8
  by_cases g9 : mi < 160
  · exact okc9 mi (by omega) g9
  by_cases g10 : mi < 176
  · exact okc10 mi (by omega) g10
  by_cases g11 : mi < 192
  · exact okc11 mi (by omega) g11
  by_cases g12 : mi < 208
  · exact okc12 mi (by omega) g12
  by_cases g13 : mi < 224
  · exact okc13 mi (by omega) g13
  exact okc14 mi (by omega) h
theorem MOk_GP : MOk GP := by
  intro mi h
  have h1 := okAll mi h
  unfold okOne at h1
  rw [Bool.and_eq_true] at h1
  exact ⟨⟨_, h1.1⟩, h1.2⟩
