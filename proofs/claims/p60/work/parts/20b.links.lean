theorem zlRX8_11 : Cond.methodLink RX8 11 yX3_init ∈ z_tb ∨ ∃ host : String, Cond.methodLinkNest RX8 11 yX3_init host ∈ z_tn := Or.inr ⟨"TimeGaps", z_w2 134 (by decide +kernel) (by decide +kernel)⟩
theorem zlRX8_18 : Cond.methodLink RX8 18 yX2_init ∈ z_tb ∨ ∃ host : String, Cond.methodLinkNest RX8 18 yX2_init host ∈ z_tn := Or.inr ⟨"TimeGaps", z_w2 230 (by decide +kernel) (by decide +kernel)⟩
theorem zlRX8_28 : Cond.methodLink RX8 28 yX0_init ∈ z_tb ∨ ∃ host : String, Cond.methodLinkNest RX8 28 yX0_init host ∈ z_tn := Or.inr ⟨"TimeGaps", z_w2 259 (by decide +kernel) (by decide +kernel)⟩
theorem zlRX8_35 : Cond.methodLink RX8 35 yX5_init ∈ z_tb ∨ ∃ host : String, Cond.methodLinkNest RX8 35 yX5_init host ∈ z_tn := Or.inr ⟨"TimeGaps", z_w2 279 (by decide +kernel) (by decide +kernel)⟩
theorem zlRX8_42 : Cond.methodLink RX8 42 yX4_init ∈ z_tb ∨ ∃ host : String, Cond.methodLinkNest RX8 42 yX4_init host ∈ z_tn := Or.inr ⟨"TimeGaps", z_w2 296 (by decide +kernel) (by decide +kernel)⟩
theorem zlRX8_54 : Cond.methodLink RX8 54 yX7_init ∈ z_tb ∨ ∃ host : String, Cond.methodLinkNest RX8 54 yX7_init host ∈ z_tn := Or.inr ⟨"TimeGaps", z_w2 341 (by decide +kernel) (by decide +kernel)⟩
theorem zlRX8_63 : Cond.methodLink RX8 63 yX3_clear ∈ z_tb ∨ ∃ host : String, Cond.methodLinkNest RX8 63 yX3_clear host ∈ z_tn := Or.inr ⟨"TimeGaps", z_w2 353 (by decide +kernel) (by decide +kernel)⟩
theorem zlRX8_66 : Cond.methodLink RX8 66 yX2_build ∈ z_tb ∨ ∃ host : String, Cond.methodLinkNest RX8 66 yX2_build host ∈ z_tn := Or.inr ⟨"TimeGaps", z_w2 414 (by decide +kernel) (by decide +kernel)⟩
theorem zlRX8_75 : Cond.methodLink RX8 75 yX6_putFourBytes ∈ z_tb ∨ ∃ host : String, Cond.methodLinkNest RX8 75 yX6_putFourBytes host ∈ z_tn := Or.inr ⟨"TimeGaps", z_w2 499 (by decide +kernel) (by decide +kernel)⟩
theorem zlRX8_79 : Cond.methodLink RX8 79 yX4_read ∈ z_tb ∨ ∃ host : String, Cond.methodLinkNest RX8 79 yX4_read host ∈ z_tn := Or.inr ⟨"TimeGaps", z_w2 507 (by decide +kernel) (by decide +kernel)⟩
theorem zlRX8_83 : Cond.methodLink RX8 83 yX4_position ∈ z_tb ∨ ∃ host : String, Cond.methodLinkNest RX8 83 yX4_position host ∈ z_tn := Or.inr ⟨"TimeGaps", z_w2 675 (by decide +kernel) (by decide +kernel)⟩
theorem zlRX8_90 : Cond.methodLink RX8 90 yX3_copyFrom ∈ z_tb ∨ ∃ host : String, Cond.methodLinkNest RX8 90 yX3_copyFrom host ∈ z_tn := Or.inr ⟨"TimeGaps", z_w2 679 (by decide +kernel) (by decide +kernel)⟩
theorem zlRX8_94 : Cond.methodLink RX8 94 yX5_clear ∈ z_tb ∨ ∃ host : String, Cond.methodLinkNest RX8 94 yX5_clear host ∈ z_tn := Or.inr ⟨"TimeGaps", z_w2 691 (by decide +kernel) (by decide +kernel)⟩
theorem zlRX8_95 : Cond.methodLink RX8 95 yX0_clear ∈ z_tb ∨ ∃ host : String, Cond.methodLinkNest RX8 95 yX0_clear host ∈ z_tn := Or.inr ⟨"TimeGaps", z_w2 695 (by decide +kernel) (by decide +kernel)⟩
set_option maxRecDepth 100000 in
theorem zlRX8_99 : Cond.methodLink RX8 99 yX8_isNewNameOnTape ∈ z_tb ∨ ∃ host : String, Cond.methodLinkNest RX8 99 yX8_isNewNameOnTape host ∈ z_tn := Or.inl (z_w1 1157 (Eq.refl _) (by decide +kernel))
theorem zlRX8_105 : Cond.methodLink RX8 105 yX0_remember ∈ z_tb ∨ ∃ host : String, Cond.methodLinkNest RX8 105 yX0_remember host ∈ z_tn := Or.inr ⟨"TimeGaps", z_w2 1053 (by decide +kernel) (by decide +kernel)⟩
theorem zlRX8_108 : Cond.methodLink RX8 108 yX3_addEvent ∈ z_tb ∨ ∃ host : String, Cond.methodLinkNest RX8 108 yX3_addEvent host ∈ z_tn := Or.inr ⟨"TimeGaps", z_w2 1163 (by decide +kernel) (by decide +kernel)⟩
set_option maxRecDepth 100000 in
theorem zlRX8_112 : Cond.methodLink RX8 112 yX8_finish ∈ z_tb ∨ ∃ host : String, Cond.methodLinkNest RX8 112 yX8_finish host ∈ z_tn := Or.inl (z_w1 1064 (Eq.refl _) (by decide +kernel))
set_option maxRecDepth 100000 in
theorem zlRX8_116 : Cond.methodLink RX8 116 yX8_isTellable ∈ z_tb ∨ ∃ host : String, Cond.methodLinkNest RX8 116 yX8_isTellable host ∈ z_tn := Or.inl (z_w1 1035 (Eq.refl _) (by decide +kernel))
theorem zlRX8_120 : Cond.methodLink RX8 120 yX2_leastRing ∈ z_tb ∨ ∃ host : String, Cond.methodLinkNest RX8 120 yX2_leastRing host ∈ z_tn := Or.inr ⟨"TimeGaps", z_w2 1058 (by decide +kernel) (by decide +kernel)⟩
theorem zlRX8_128 : Cond.methodLink RX8 128 yX1_note ∈ z_tb ∨ ∃ host : String, Cond.methodLinkNest RX8 128 yX1_note host ∈ z_tn := Or.inr ⟨"TimeGaps", z_w2 1059 (by decide +kernel) (by decide +kernel)⟩
theorem zlRX8_133 : Cond.methodLink RX8 133 yX3_addGap ∈ z_tb ∨ ∃ host : String, Cond.methodLinkNest RX8 133 yX3_addGap host ∈ z_tn := Or.inr ⟨"TimeGaps", z_w2 1063 (by decide +kernel) (by decide +kernel)⟩
set_option maxRecDepth 100000 in
theorem zlRX8_137 : Cond.methodLink RX8 137 yX8_isGap ∈ z_tb ∨ ∃ host : String, Cond.methodLinkNest RX8 137 yX8_isGap host ∈ z_tn := Or.inl (z_w1 1072 (Eq.refl _) (by decide +kernel))
theorem zlRX8_145 : Cond.methodLink RX8 145 yX3_removeGap ∈ z_tb ∨ ∃ host : String, Cond.methodLinkNest RX8 145 yX3_removeGap host ∈ z_tn := Or.inr ⟨"TimeGaps", z_w2 1076 (by decide +kernel) (by decide +kernel)⟩
set_option maxRecDepth 100000 in
theorem zlRX8_148 : Cond.methodLink RX8 148 yX8_isNumber ∈ z_tb ∨ ∃ host : String, Cond.methodLinkNest RX8 148 yX8_isNumber host ∈ z_tn := Or.inl (z_w1 1050 (Eq.refl _) (by decide +kernel))
set_option maxRecDepth 100000 in
theorem zlRX8_155 : Cond.methodLink RX8 155 yX8_ringOfGap ∈ z_tb ∨ ∃ host : String, Cond.methodLinkNest RX8 155 yX8_ringOfGap host ∈ z_tn := Or.inl (z_w1 1084 (Eq.refl _) (by decide +kernel))
set_option maxRecDepth 100000 in
theorem zlRX8_159 : Cond.methodLink RX8 159 yX8_asNumber ∈ z_tb ∨ ∃ host : String, Cond.methodLinkNest RX8 159 yX8_asNumber host ∈ z_tn := Or.inl (z_w1 1004 (Eq.refl _) (by decide +kernel))
set_option maxRecDepth 100000 in
theorem zlRX8_163 : Cond.methodLink RX8 163 yX8_isEvent ∈ z_tb ∨ ∃ host : String, Cond.methodLinkNest RX8 163 yX8_isEvent host ∈ z_tn := Or.inl (z_w1 1043 (Eq.refl _) (by decide +kernel))
set_option maxRecDepth 100000 in
theorem zlRX8_166 : Cond.methodLink RX8 166 yX8_isTime ∈ z_tb ∨ ∃ host : String, Cond.methodLinkNest RX8 166 yX8_isTime host ∈ z_tn := Or.inl (z_w1 1096 (Eq.refl _) (by decide +kernel))
set_option maxRecDepth 100000 in
theorem zlRX8_169 : Cond.methodLink RX8 169 yX8_isPinnable ∈ z_tb ∨ ∃ host : String, Cond.methodLinkNest RX8 169 yX8_isPinnable host ∈ z_tn := Or.inl (z_w1 1100 (Eq.refl _) (by decide +kernel))
theorem zlRX8_172 : Cond.methodLink RX8 172 yX2_allows ∈ z_tb ∨ ∃ host : String, Cond.methodLinkNest RX8 172 yX2_allows host ∈ z_tn := Or.inr ⟨"TimeGaps", z_w2 1105 (by decide +kernel) (by decide +kernel)⟩
theorem zlRX8_179 : Cond.methodLink RX8 179 yX3_countPinned ∈ z_tb ∨ ∃ host : String, Cond.methodLinkNest RX8 179 yX3_countPinned host ∈ z_tn := Or.inr ⟨"TimeGaps", z_w2 971 (by decide +kernel) (by decide +kernel)⟩
theorem zlRX8_182 : Cond.methodLink RX8 182 yX3_isPinned ∈ z_tb ∨ ∃ host : String, Cond.methodLinkNest RX8 182 yX3_isPinned host ∈ z_tn := Or.inr ⟨"TimeGaps", z_w2 1104 (by decide +kernel) (by decide +kernel)⟩
theorem zlRX8_188 : Cond.methodLink RX8 188 yX2_greatestEarliest ∈ z_tb ∨ ∃ host : String, Cond.methodLinkNest RX8 188 yX2_greatestEarliest host ∈ z_tn := Or.inr ⟨"TimeGaps", z_w2 1022 (by decide +kernel) (by decide +kernel)⟩
theorem zlRX8_191 : Cond.methodLink RX8 191 yX3_nameEvent ∈ z_tb ∨ ∃ host : String, Cond.methodLinkNest RX8 191 yX3_nameEvent host ∈ z_tn := Or.inr ⟨"TimeGaps", z_w2 1168 (by decide +kernel) (by decide +kernel)⟩
set_option maxRecDepth 100000 in
theorem zlRX8_201 : Cond.methodLink RX8 201 yX8_tryWithout ∈ z_tb ∨ ∃ host : String, Cond.methodLinkNest RX8 201 yX8_tryWithout host ∈ z_tn := Or.inl (z_w1 1118 (Eq.refl _) (by decide +kernel))
set_option maxRecDepth 100000 in
theorem zlRX8_207 : Cond.methodLink RX8 207 yX8_isLoose ∈ z_tb ∨ ∃ host : String, Cond.methodLinkNest RX8 207 yX8_isLoose host ∈ z_tn := Or.inl (z_w1 1131 (Eq.refl _) (by decide +kernel))
set_option maxRecDepth 100000 in
theorem zlRX8_210 : Cond.methodLink RX8 210 yX8_tightNumber ∈ z_tb ∨ ∃ host : String, Cond.methodLinkNest RX8 210 yX8_tightNumber host ∈ z_tn := Or.inl (z_w1 1135 (Eq.refl _) (by decide +kernel))
theorem zlRX8_214 : Cond.methodLink RX8 214 yX2_room ∈ z_tb ∨ ∃ host : String, Cond.methodLinkNest RX8 214 yX2_room host ∈ z_tn := Or.inr ⟨"TimeGaps", z_w2 1027 (by decide +kernel) (by decide +kernel)⟩
set_option maxRecDepth 100000 in
theorem zlRX8_217 : Cond.methodLink RX8 217 yX8_firstNeedless ∈ z_tb ∨ ∃ host : String, Cond.methodLinkNest RX8 217 yX8_firstNeedless host ∈ z_tn := Or.inl (z_w1 1143 (Eq.refl _) (by decide +kernel))
theorem zlRX8_220 : Cond.methodLink RX8 220 yX2_earliest ∈ z_tb ∨ ∃ host : String, Cond.methodLinkNest RX8 220 yX2_earliest host ∈ z_tn := Or.inr ⟨"TimeGaps", z_w2 1151 (by decide +kernel) (by decide +kernel)⟩
set_option maxRecDepth 100000 in
theorem zlRX8_223 : Cond.methodLink RX8 223 yX8_isSlot ∈ z_tb ∨ ∃ host : String, Cond.methodLinkNest RX8 223 yX8_isSlot host ∈ z_tn := Or.inl (z_w1 1394 (Eq.refl _) (by decide +kernel))
theorem zlRX8_236 : Cond.methodLink RX8 236 yX0_bringBack ∈ z_tb ∨ ∃ host : String, Cond.methodLinkNest RX8 236 yX0_bringBack host ∈ z_tn := Or.inr ⟨"TimeGaps", z_w2 1335 (by decide +kernel) (by decide +kernel)⟩
theorem zlRX8_239 : Cond.methodLink RX8 239 yX3_countOn ∈ z_tb ∨ ∃ host : String, Cond.methodLinkNest RX8 239 yX3_countOn host ∈ z_tn := Or.inr ⟨"TimeGaps", z_w2 964 (by decide +kernel) (by decide +kernel)⟩
set_option maxRecDepth 100000 in
theorem zlRX8_245 : Cond.methodLink RX8 245 yX8_countTight ∈ z_tb ∨ ∃ host : String, Cond.methodLinkNest RX8 245 yX8_countTight host ∈ z_tn := Or.inl (z_w1 976 (Eq.refl _) (by decide +kernel))
set_option maxRecDepth 100000 in
theorem zlRX8_248 : Cond.methodLink RX8 248 yX8_countNeeded ∈ z_tb ∨ ∃ host : String, Cond.methodLinkNest RX8 248 yX8_countNeeded host ∈ z_tn := Or.inl (z_w1 1005 (Eq.refl _) (by decide +kernel))
theorem zlRX8_251 : Cond.methodLink RX8 251 yX2_countSettled ∈ z_tb ∨ ∃ host : String, Cond.methodLinkNest RX8 251 yX2_countSettled host ∈ z_tn := Or.inr ⟨"TimeGaps", z_w2 1013 (by decide +kernel) (by decide +kernel)⟩
theorem zlRX8_258 : Cond.methodLink RX8 258 yX3_letterOf ∈ z_tb ∨ ∃ host : String, Cond.methodLinkNest RX8 258 yX3_letterOf host ∈ z_tn := Or.inr ⟨"TimeGaps", z_w2 1266 (by decide +kernel) (by decide +kernel)⟩
set_option maxRecDepth 100000 in
theorem zlRX8_261 : Cond.methodLink RX8 261 yX8_isTight ∈ z_tb ∨ ∃ host : String, Cond.methodLinkNest RX8 261 yX8_isTight host ∈ z_tn := Or.inl (z_w1 980 (Eq.refl _) (by decide +kernel))
set_option maxRecDepth 100000 in
theorem zlRX8_264 : Cond.methodLink RX8 264 yX8_isNeeded ∈ z_tb ∨ ∃ host : String, Cond.methodLinkNest RX8 264 yX8_isNeeded host ∈ z_tn := Or.inl (z_w1 1009 (Eq.refl _) (by decide +kernel))
set_option maxRecDepth 100000 in
theorem zlRX8_267 : Cond.methodLink RX8 267 yX8_lengthOf ∈ z_tb ∨ ∃ host : String, Cond.methodLinkNest RX8 267 yX8_lengthOf host ∈ z_tn := Or.inl (z_w1 984 (Eq.refl _) (by decide +kernel))
set_option maxRecDepth 100000 in
theorem zlRX8_270 : Cond.methodLink RX8 270 yX8_boundOf ∈ z_tb ∨ ∃ host : String, Cond.methodLinkNest RX8 270 yX8_boundOf host ∈ z_tn := Or.inl (z_w1 989 (Eq.refl _) (by decide +kernel))
theorem zlRX8_273 : Cond.methodLink RX8 273 yX2_latest ∈ z_tb ∨ ∃ host : String, Cond.methodLinkNest RX8 273 yX2_latest host ∈ z_tn := Or.inr ⟨"TimeGaps", z_w2 1186 (by decide +kernel) (by decide +kernel)⟩
theorem zlRX8_276 : Cond.methodLink RX8 276 yX2_possibleTimes ∈ z_tb ∨ ∃ host : String, Cond.methodLinkNest RX8 276 yX2_possibleTimes host ∈ z_tn := Or.inr ⟨"TimeGaps", z_w2 1187 (by decide +kernel) (by decide +kernel)⟩
theorem zlRX8_279 : Cond.methodLink RX8 279 yX3_countOnOf ∈ z_tb ∨ ∃ host : String, Cond.methodLinkNest RX8 279 yX3_countOnOf host ∈ z_tn := Or.inr ⟨"TimeGaps", z_w2 1188 (by decide +kernel) (by decide +kernel)⟩
theorem zlRX8_282 : Cond.methodLink RX8 282 yX2_between ∈ z_tb ∨ ∃ host : String, Cond.methodLinkNest RX8 282 yX2_between host ∈ z_tn := Or.inr ⟨"TimeGaps", z_w2 1003 (by decide +kernel) (by decide +kernel)⟩
set_option maxRecDepth 100000 in
theorem zlRX8_286 : Cond.methodLink RX8 286 yX8_areTwoEvents ∈ z_tb ∨ ∃ host : String, Cond.methodLinkNest RX8 286 yX8_areTwoEvents host ∈ z_tn := Or.inl (z_w1 1039 (Eq.refl _) (by decide +kernel))
theorem zlRX8_289 : Cond.methodLink RX8 289 yX2_stepOfWay ∈ z_tb ∨ ∃ host : String, Cond.methodLinkNest RX8 289 yX2_stepOfWay host ∈ z_tn := Or.inr ⟨"TimeGaps", z_w2 1225 (by decide +kernel) (by decide +kernel)⟩
theorem zlRX8_293 : Cond.methodLink RX8 293 yX2_stepsBetween ∈ z_tb ∨ ∃ host : String, Cond.methodLinkNest RX8 293 yX2_stepsBetween host ∈ z_tn := Or.inr ⟨"TimeGaps", z_w2 1214 (by decide +kernel) (by decide +kernel)⟩
set_option maxRecDepth 100000 in
theorem zlRX8_296 : Cond.methodLink RX8 296 yX8_relationOf ∈ z_tb ∨ ∃ host : String, Cond.methodLinkNest RX8 296 yX8_relationOf host ∈ z_tn := Or.inl (z_w1 1240 (Eq.refl _) (by decide +kernel))
set_option maxRecDepth 100000 in
theorem zlRX8_299 : Cond.methodLink RX8 299 yX8_beginOf ∈ z_tb ∨ ∃ host : String, Cond.methodLinkNest RX8 299 yX8_beginOf host ∈ z_tn := Or.inl (z_w1 993 (Eq.refl _) (by decide +kernel))
set_option maxRecDepth 100000 in
theorem zlRX8_302 : Cond.methodLink RX8 302 yX8_finishOf ∈ z_tb ∨ ∃ host : String, Cond.methodLinkNest RX8 302 yX8_finishOf host ∈ z_tn := Or.inl (z_w1 998 (Eq.refl _) (by decide +kernel))
theorem zlRX8_305 : Cond.methodLink RX8 305 yX2_placeByEarliest ∈ z_tb ∨ ∃ host : String, Cond.methodLinkNest RX8 305 yX2_placeByEarliest host ∈ z_tn := Or.inr ⟨"TimeGaps", z_w2 1371 (by decide +kernel) (by decide +kernel)⟩
theorem zlRX8_308 : Cond.methodLink RX8 308 yX2_copyBounds ∈ z_tb ∨ ∃ host : String, Cond.methodLinkNest RX8 308 yX2_copyBounds host ∈ z_tn := Or.inr ⟨"TimeGaps", z_w2 1122 (by decide +kernel) (by decide +kernel)⟩
theorem zlRX8_312 : Cond.methodLink RX8 312 yX2_addPin ∈ z_tb ∨ ∃ host : String, Cond.methodLinkNest RX8 312 yX2_addPin host ∈ z_tn := Or.inr ⟨"TimeGaps", z_w2 1200 (by decide +kernel) (by decide +kernel)⟩
theorem zlRX8_316 : Cond.methodLink RX8 316 yX2_placeByLatest ∈ z_tb ∨ ∃ host : String, Cond.methodLinkNest RX8 316 yX2_placeByLatest host ∈ z_tn := Or.inr ⟨"TimeGaps", z_w2 1383 (by decide +kernel) (by decide +kernel)⟩
theorem zlRX8_319 : Cond.methodLink RX8 319 yX2_oneStepDenies ∈ z_tb ∨ ∃ host : String, Cond.methodLinkNest RX8 319 yX2_oneStepDenies host ∈ z_tn := Or.inr ⟨"TimeGaps", z_w2 1282 (by decide +kernel) (by decide +kernel)⟩
set_option maxRecDepth 100000 in
theorem zlRX8_322 : Cond.methodLink RX8 322 yX8_stepOfRing ∈ z_tb ∨ ∃ host : String, Cond.methodLinkNest RX8 322 yX8_stepOfRing host ∈ z_tn := Or.inl (z_w1 1286 (Eq.refl _) (by decide +kernel))
set_option maxRecDepth 100000 in
theorem zlRX8_325 : Cond.methodLink RX8 325 yX8_isKind ∈ z_tb ∨ ∃ host : String, Cond.methodLinkNest RX8 325 yX8_isKind host ∈ z_tn := Or.inl (z_w1 1047 (Eq.refl _) (by decide +kernel))
set_option maxRecDepth 100000 in
theorem zlRX8_328 : Cond.methodLink RX8 328 yX8_tightestNumber ∈ z_tb ∨ ∃ host : String, Cond.methodLinkNest RX8 328 yX8_tightestNumber host ∈ z_tn := Or.inl (z_w1 1318 (Eq.refl _) (by decide +kernel))
set_option maxRecDepth 100000 in
theorem zlRX8_331 : Cond.methodLink RX8 331 yJ9_abs_0f7a4 ∈ z_tb ∨ ∃ host : String, Cond.methodLinkNest RX8 331 yJ9_abs_0f7a4 host ∈ z_tn := Or.inl (z_w1 1343 (Eq.refl _) (by decide +kernel))
theorem zlRX8_336 : Cond.methodLink RX8 336 yX3_hasEvent ∈ z_tb ∨ ∃ host : String, Cond.methodLinkNest RX8 336 yX3_hasEvent host ∈ z_tn := Or.inr ⟨"TimeGaps", z_w2 1410 (by decide +kernel) (by decide +kernel)⟩
set_option maxRecDepth 100000 in
theorem zlRX8_339 : Cond.methodLink RX8 339 yX8_isChange ∈ z_tb ∨ ∃ host : String, Cond.methodLinkNest RX8 339 yX8_isChange host ∈ z_tn := Or.inl (z_w1 1294 (Eq.refl _) (by decide +kernel))
theorem zlRX8_342 : Cond.methodLink RX8 342 yX2_addGapStep ∈ z_tb ∨ ∃ host : String, Cond.methodLinkNest RX8 342 yX2_addGapStep host ∈ z_tn := Or.inr ⟨"TimeGaps", z_w2 1297 (by decide +kernel) (by decide +kernel)⟩
set_option maxRecDepth 100000 in
theorem zlRX8_346 : Cond.methodLink RX8 346 yX8_changeOnTrial ∈ z_tb ∨ ∃ host : String, Cond.methodLinkNest RX8 346 yX8_changeOnTrial host ∈ z_tn := Or.inl (z_w1 1298 (Eq.refl _) (by decide +kernel))
set_option maxRecDepth 100000 in
theorem zlRX8_349 : Cond.methodLink RX8 349 yX8_ifTold ∈ z_tb ∨ ∃ host : String, Cond.methodLinkNest RX8 349 yX8_ifTold host ∈ z_tn := Or.inl (z_w1 1358 (Eq.refl _) (by decide +kernel))
set_option maxRecDepth 100000 in
theorem zlRX8_353 : Cond.methodLink RX8 353 yJ9_max_7cf53 ∈ z_tb ∨ ∃ host : String, Cond.methodLinkNest RX8 353 yJ9_max_7cf53 host ∈ z_tn := Or.inl (z_w1 1322 (Eq.refl _) (by decide +kernel))
theorem zlRX8_356 : Cond.methodLink RX8 356 yX1_part ∈ z_tb ∨ ∃ host : String, Cond.methodLinkNest RX8 356 yX1_part host ∈ z_tn := Or.inr ⟨"TimeGaps", z_w2 1271 (by decide +kernel) (by decide +kernel)⟩
theorem zlRX8_359 : Cond.methodLink RX8 359 yX7_writeList ∈ z_tb ∨ ∃ host : String, Cond.methodLinkNest RX8 359 yX7_writeList host ∈ z_tn := Or.inr ⟨"TimeGaps", z_w2 1418 (by decide +kernel) (by decide +kernel)⟩
theorem zlRX8_364 : Cond.methodLink RX8 364 yX7_byteAt ∈ z_tb ∨ ∃ host : String, Cond.methodLinkNest RX8 364 yX7_byteAt host ∈ z_tn := Or.inr ⟨"TimeGaps", z_w2 1467 (by decide +kernel) (by decide +kernel)⟩
theorem zlRX8_367 : Cond.methodLink RX8 367 yX7_writeSetup ∈ z_tb ∨ ∃ host : String, Cond.methodLinkNest RX8 367 yX7_writeSetup host ∈ z_tn := Or.inr ⟨"TimeGaps", z_w2 1442 (by decide +kernel) (by decide +kernel)⟩
theorem zlRX8_370 : Cond.methodLink RX8 370 yX6_isName ∈ z_tb ∨ ∃ host : String, Cond.methodLinkNest RX8 370 yX6_isName host ∈ z_tn := Or.inr ⟨"TimeGaps", z_w2 1161 (by decide +kernel) (by decide +kernel)⟩
theorem zlRX8_373 : Cond.methodLink RX8 373 yX3_findEvent ∈ z_tb ∨ ∃ host : String, Cond.methodLinkNest RX8 373 yX3_findEvent host ∈ z_tn := Or.inr ⟨"TimeGaps", z_w2 1162 (by decide +kernel) (by decide +kernel)⟩
set_option maxRecDepth 100000 in
theorem zlRX8_376 : Cond.methodLink RX8 376 yX8_stepBegin ∈ z_tb ∨ ∃ host : String, Cond.methodLinkNest RX8 376 yX8_stepBegin host ∈ z_tn := Or.inl (z_w1 997 (Eq.refl _) (by decide +kernel))
set_option maxRecDepth 100000 in
theorem zlRX8_379 : Cond.methodLink RX8 379 yX8_stepFinish ∈ z_tb ∨ ∃ host : String, Cond.methodLinkNest RX8 379 yX8_stepFinish host ∈ z_tn := Or.inl (z_w1 1002 (Eq.refl _) (by decide +kernel))
set_option maxRecDepth 100000 in
theorem zlRX8_382 : Cond.methodLink RX8 382 yX8_stepLength ∈ z_tb ∨ ∃ host : String, Cond.methodLinkNest RX8 382 yX8_stepLength host ∈ z_tn := Or.inl (z_w1 988 (Eq.refl _) (by decide +kernel))
set_option maxRecDepth 100000 in
theorem zlRX8_385 : Cond.methodLink RX8 385 yJ9_min_7cf53 ∈ z_tb ∨ ∃ host : String, Cond.methodLinkNest RX8 385 yJ9_min_7cf53 host ∈ z_tn := Or.inl (z_w1 1323 (Eq.refl _) (by decide +kernel))
theorem zlRX8_388 : Cond.methodLink RX8 388 yX2_countOtherBounds ∈ z_tb ∨ ∃ host : String, Cond.methodLinkNest RX8 388 yX2_countOtherBounds host ∈ z_tn := Or.inr ⟨"TimeGaps", z_w2 1302 (by decide +kernel) (by decide +kernel)⟩
theorem zlRX8_392 : Cond.methodLink RX8 392 yX2_countOtherTimes ∈ z_tb ∨ ∃ host : String, Cond.methodLinkNest RX8 392 yX2_countOtherTimes host ∈ z_tn := Or.inr ⟨"TimeGaps", z_w2 1306 (by decide +kernel) (by decide +kernel)⟩
theorem zlRX0_17 : Cond.methodLink RX0 17 yX3_init ∈ z_tb ∨ ∃ host : String, Cond.methodLinkNest RX0 17 yX3_init host ∈ z_tn := Or.inr ⟨"TimeGaps", z_w2 265 (by decide +kernel) (by decide +kernel)⟩
theorem zlRX0_25 : Cond.methodLink RX0 25 yX3_copyFrom ∈ z_tb ∨ ∃ host : String, Cond.methodLinkNest RX0 25 yX3_copyFrom host ∈ z_tn := Or.inr ⟨"TimeGaps", z_w2 1057 (by decide +kernel) (by decide +kernel)⟩
set_option maxRecDepth 100000 in
theorem zlRX2_34 : Cond.methodLink RX2 34 yX2_collectSteps ∈ z_tb ∨ ∃ host : String, Cond.methodLinkNest RX2 34 yX2_collectSteps host ∈ z_tn := Or.inl (z_w1 418 (Eq.refl _) (by decide +kernel))
set_option maxRecDepth 100000 in
theorem zlRX2_38 : Cond.methodLink RX2 38 yX2_startWeights ∈ z_tb ∨ ∃ host : String, Cond.methodLinkNest RX2 38 yX2_startWeights host ∈ z_tn := Or.inl (z_w1 439 (Eq.refl _) (by decide +kernel))
set_option maxRecDepth 100000 in
theorem zlRX2_41 : Cond.methodLink RX2 41 yX2_closeWeights ∈ z_tb ∨ ∃ host : String, Cond.methodLinkNest RX2 41 yX2_closeWeights host ∈ z_tn := Or.inl (z_w1 450 (Eq.refl _) (by decide +kernel))
theorem zlRX2_63 : Cond.methodLink RX2 63 yX8_stepBegin ∈ z_tb ∨ ∃ host : String, Cond.methodLinkNest RX2 63 yX8_stepBegin host ∈ z_tn := Or.inr ⟨"TimeGaps", z_w2 422 (by decide +kernel) (by decide +kernel)⟩
theorem zlRX2_67 : Cond.methodLink RX2 67 yX8_stepFinish ∈ z_tb ∨ ∃ host : String, Cond.methodLinkNest RX2 67 yX8_stepFinish host ∈ z_tn := Or.inr ⟨"TimeGaps", z_w2 425 (by decide +kernel) (by decide +kernel)⟩
theorem zlRX2_73 : Cond.methodLink RX2 73 yX8_stepLength ∈ z_tb ∨ ∃ host : String, Cond.methodLinkNest RX2 73 yX8_stepLength host ∈ z_tn := Or.inr ⟨"TimeGaps", z_w2 428 (by decide +kernel) (by decide +kernel)⟩
set_option maxRecDepth 100000 in
theorem zlRX2_77 : Cond.methodLink RX2 77 yX2_collect ∈ z_tb ∨ ∃ host : String, Cond.methodLinkNest RX2 77 yX2_collect host ∈ z_tn := Or.inl (z_w1 431 (Eq.refl _) (by decide +kernel))
theorem zlRX2_84 : Cond.methodLink RX2 84 yX3_isPinned ∈ z_tb ∨ ∃ host : String, Cond.methodLinkNest RX2 84 yX3_isPinned host ∈ z_tn := Or.inr ⟨"TimeGaps", z_w2 435 (by decide +kernel) (by decide +kernel)⟩
set_option maxRecDepth 100000 in
theorem zlRX2_92 : Cond.methodLink RX2 92 yX2_weightOf ∈ z_tb ∨ ∃ host : String, Cond.methodLinkNest RX2 92 yX2_weightOf host ∈ z_tn := Or.inl (z_w1 444 (Eq.refl _) (by decide +kernel))
set_option maxRecDepth 100000 in
theorem zlRX2_96 : Cond.methodLink RX2 96 yJ9_min_7cf53 ∈ z_tb ∨ ∃ host : String, Cond.methodLinkNest RX2 96 yJ9_min_7cf53 host ∈ z_tn := Or.inl (z_w1 447 (Eq.refl _) (by decide +kernel))
set_option maxRecDepth 100000 in
theorem zlRX2_107 : Cond.methodLink RX2 107 yX2_addStep ∈ z_tb ∨ ∃ host : String, Cond.methodLinkNest RX2 107 yX2_addStep host ∈ z_tn := Or.inl (z_w1 649 (Eq.refl _) (by decide +kernel))
set_option maxRecDepth 100000 in
theorem zlRX2_111 : Cond.methodLink RX2 111 yJ9_floorDiv_7cf53 ∈ z_tb ∨ ∃ host : String, Cond.methodLinkNest RX2 111 yJ9_floorDiv_7cf53 host ∈ z_tn := Or.inl (z_w1 638 (Eq.refl _) (by decide +kernel))
set_option maxRecDepth 100000 in
theorem zlRX2_114 : Cond.methodLink RX2 114 yJ9_floorMod_7cf53 ∈ z_tb ∨ ∃ host : String, Cond.methodLinkNest RX2 114 yJ9_floorMod_7cf53 host ∈ z_tn := Or.inl (z_w1 1218 (Eq.refl _) (by decide +kernel))
set_option maxRecDepth 100000 in
theorem zlRX2_117 : Cond.methodLink RX2 117 yX2_between ∈ z_tb ∨ ∃ host : String, Cond.methodLinkNest RX2 117 yX2_between host ∈ z_tn := Or.inl (z_w1 634 (Eq.refl _) (by decide +kernel))
set_option maxRecDepth 100000 in
theorem zlRX2_120 : Cond.methodLink RX2 120 yX2_latest ∈ z_tb ∨ ∃ host : String, Cond.methodLinkNest RX2 120 yX2_latest host ∈ z_tn := Or.inl (z_w1 667 (Eq.refl _) (by decide +kernel))
set_option maxRecDepth 100000 in
theorem zlRX2_123 : Cond.methodLink RX2 123 yX2_earliest ∈ z_tb ∨ ∃ host : String, Cond.methodLinkNest RX2 123 yX2_earliest host ∈ z_tn := Or.inl (z_w1 663 (Eq.refl _) (by decide +kernel))
set_option maxRecDepth 100000 in
theorem zlRX2_126 : Cond.methodLink RX2 126 yX2_firstStep ∈ z_tb ∨ ∃ host : String, Cond.methodLinkNest RX2 126 yX2_firstStep host ∈ z_tn := Or.inl (z_w1 1229 (Eq.refl _) (by decide +kernel))
set_option maxRecDepth 100000 in
theorem zlRX2_129 : Cond.methodLink RX2 129 yX2_possibleTimes ∈ z_tb ∨ ∃ host : String, Cond.methodLinkNest RX2 129 yX2_possibleTimes host ∈ z_tn := Or.inl (z_w1 1017 (Eq.refl _) (by decide +kernel))
theorem zlRX2_132 : Cond.methodLink RX2 132 yX8_asNumber ∈ z_tb ∨ ∃ host : String, Cond.methodLinkNest RX2 132 yX8_asNumber host ∈ z_tn := Or.inr ⟨"TimeGaps", z_w2 1021 (by decide +kernel) (by decide +kernel)⟩
set_option maxRecDepth 100000 in
theorem zlRX2_136 : Cond.methodLink RX2 136 yJ9_max_7cf53 ∈ z_tb ∨ ∃ host : String, Cond.methodLinkNest RX2 136 yJ9_max_7cf53 host ∈ z_tn := Or.inl (z_w1 1026 (Eq.refl _) (by decide +kernel))
theorem zlRX3_39 : Cond.methodLink RX3 39 yX1_init ∈ z_tb ∨ ∃ host : String, Cond.methodLinkNest RX3 39 yX1_init host ∈ z_tn := Or.inr ⟨"TimeGaps", z_w2 140 (by decide +kernel) (by decide +kernel)⟩
theorem zlRX3_54 : Cond.methodLink RX3 54 yX1_clear ∈ z_tb ∨ ∃ host : String, Cond.methodLinkNest RX3 54 yX1_clear host ∈ z_tn := Or.inr ⟨"TimeGaps", z_w2 357 (by decide +kernel) (by decide +kernel)⟩
set_option maxRecDepth 100000 in
theorem zlRX3_57 : Cond.methodLink RX3 57 yX3_addStart ∈ z_tb ∨ ∃ host : String, Cond.methodLinkNest RX3 57 yX3_addStart host ∈ z_tn := Or.inl (z_w1 361 (Eq.refl _) (by decide +kernel))
set_option maxRecDepth 100000 in
theorem zlRX3_62 : Cond.methodLink RX3 62 yJ0_length_8abf5 ∈ z_tb ∨ ∃ host : String, Cond.methodLinkNest RX3 62 yJ0_length_8abf5 host ∈ z_tn := Or.inl (z_w1 366 (Eq.refl _) (by decide +kernel))
set_option maxRecDepth 100000 in
theorem zlRX3_68 : Cond.methodLink RX3 68 yJ0_charAt_5068e ∈ z_tb ∨ ∃ host : String, Cond.methodLinkNest RX3 68 yJ0_charAt_5068e host ∈ z_tn := Or.inl (z_w1 376 (Eq.refl _) (by decide +kernel))
theorem zlRX3_78 : Cond.methodLink RX3 78 yX1_copyFrom ∈ z_tb ∨ ∃ host : String, Cond.methodLinkNest RX3 78 yX1_copyFrom host ∈ z_tn := Or.inr ⟨"TimeGaps", z_w2 686 (by decide +kernel) (by decide +kernel)⟩
set_option maxRecDepth 100000 in
theorem zlRX3_82 : Cond.methodLink RX3 82 yX3_nameEvent ∈ z_tb ∨ ∃ host : String, Cond.methodLinkNest RX3 82 yX3_nameEvent host ∈ z_tn := Or.inl (z_w1 612 (Eq.refl _) (by decide +kernel))
theorem zlRX3_86 : Cond.methodLink RX3 86 yX6_byteAt ∈ z_tb ∨ ∃ host : String, Cond.methodLinkNest RX3 86 yX6_byteAt host ∈ z_tn := Or.inr ⟨"TimeGaps", z_w2 607 (by decide +kernel) (by decide +kernel)⟩
set_option maxRecDepth 100000 in
theorem zlRX3_92 : Cond.methodLink RX3 92 yJ9_min_7cf53 ∈ z_tb ∨ ∃ host : String, Cond.methodLinkNest RX3 92 yJ9_min_7cf53 host ∈ z_tn := Or.inl (z_w1 616 (Eq.refl _) (by decide +kernel))
set_option maxRecDepth 100000 in
theorem zlRX3_98 : Cond.methodLink RX3 98 yX3_isNamed ∈ z_tb ∨ ∃ host : String, Cond.methodLinkNest RX3 98 yX3_isNamed host ∈ z_tn := Or.inl (z_w1 599 (Eq.refl _) (by decide +kernel))
set_option maxRecDepth 100000 in
theorem zlRX3_102 : Cond.methodLink RX3 102 yX3_letterOf ∈ z_tb ∨ ∃ host : String, Cond.methodLinkNest RX3 102 yX3_letterOf host ∈ z_tn := Or.inl (z_w1 603 (Eq.refl _) (by decide +kernel))
set_option maxRecDepth 100000 in
theorem zlRX3_105 : Cond.methodLink RX3 105 yX3_isPinned ∈ z_tb ∨ ∃ host : String, Cond.methodLinkNest RX3 105 yX3_isPinned host ∈ z_tn := Or.inl (z_w1 975 (Eq.refl _) (by decide +kernel))
theorem zlRX3_109 : Cond.methodLink RX3 109 yX8_asNumber ∈ z_tb ∨ ∃ host : String, Cond.methodLinkNest RX3 109 yX8_asNumber host ∈ z_tn := Or.inr ⟨"TimeGaps", z_w2 968 (by decide +kernel) (by decide +kernel)⟩
set_option maxRecDepth 100000 in
theorem zlRX3_113 : Cond.methodLink RX3 113 yX3_hasEvent ∈ z_tb ∨ ∃ host : String, Cond.methodLinkNest RX3 113 yX3_hasEvent host ∈ z_tn := Or.inl (z_w1 1192 (Eq.refl _) (by decide +kernel))
theorem zlRX4_11 : Cond.methodLink RX4 11 yX6_init ∈ z_tb ∨ ∃ host : String, Cond.methodLinkNest RX4 11 yX6_init host ∈ z_tn := Or.inr ⟨"TimeGaps", z_w2 302 (by decide +kernel) (by decide +kernel)⟩
theorem zlRX4_20 : Cond.methodLink RX4 20 yX3_init ∈ z_tb ∨ ∃ host : String, Cond.methodLinkNest RX4 20 yX3_init host ∈ z_tn := Or.inr ⟨"TimeGaps", z_w2 315 (by decide +kernel) (by decide +kernel)⟩
theorem zlRX4_27 : Cond.methodLink RX4 27 yX2_init ∈ z_tb ∨ ∃ host : String, Cond.methodLinkNest RX4 27 yX2_init host ∈ z_tn := Or.inr ⟨"TimeGaps", z_w2 317 (by decide +kernel) (by decide +kernel)⟩
theorem zlRX4_32 : Cond.methodLink RX4 32 yX3_clear ∈ z_tb ∨ ∃ host : String, Cond.methodLinkNest RX4 32 yX3_clear host ∈ z_tn := Or.inr ⟨"TimeGaps", z_w2 511 (by decide +kernel) (by decide +kernel)⟩
set_option maxRecDepth 100000 in
theorem zlRX4_42 : Cond.methodLink RX4 42 yX4_next ∈ z_tb ∨ ∃ host : String, Cond.methodLinkNest RX4 42 yX4_next host ∈ z_tn := Or.inl (z_w1 512 (Eq.refl _) (by decide +kernel))
set_option maxRecDepth 100000 in
theorem zlRX4_45 : Cond.methodLink RX4 45 yX4_readEnd ∈ z_tb ∨ ∃ host : String, Cond.methodLinkNest RX4 45 yX4_readEnd host ∈ z_tn := Or.inl (z_w1 541 (Eq.refl _) (by decide +kernel))
set_option maxRecDepth 100000 in
theorem zlRX4_51 : Cond.methodLink RX4 51 yX4_isHere ∈ z_tb ∨ ∃ host : String, Cond.methodLinkNest RX4 51 yX4_isHere host ∈ z_tn := Or.inl (z_w1 550 (Eq.refl _) (by decide +kernel))
set_option maxRecDepth 100000 in
theorem zlRX4_55 : Cond.methodLink RX4 55 yX4_readEvent ∈ z_tb ∨ ∃ host : String, Cond.methodLinkNest RX4 55 yX4_readEvent host ∈ z_tn := Or.inl (z_w1 569 (Eq.refl _) (by decide +kernel))
theorem zlRX4_58 : Cond.methodLink RX4 58 yX2_build ∈ z_tb ∨ ∃ host : String, Cond.methodLinkNest RX4 58 yX2_build host ∈ z_tn := Or.inr ⟨"TimeGaps", z_w2 617 (by decide +kernel) (by decide +kernel)⟩
set_option maxRecDepth 100000 in
theorem zlRX4_64 : Cond.methodLink RX4 64 yX4_readGap ∈ z_tb ∨ ∃ host : String, Cond.methodLinkNest RX4 64 yX4_readGap host ∈ z_tn := Or.inl (z_w1 619 (Eq.refl _) (by decide +kernel))
set_option maxRecDepth 100000 in
theorem zlRX4_69 : Cond.methodLink RX4 69 yX4_readPin ∈ z_tb ∨ ∃ host : String, Cond.methodLinkNest RX4 69 yX4_readPin host ∈ z_tn := Or.inl (z_w1 654 (Eq.refl _) (by decide +kernel))
theorem zlRX4_75 : Cond.methodLink RX4 75 yX6_countSpaces ∈ z_tb ∨ ∃ host : String, Cond.methodLinkNest RX4 75 yX6_countSpaces host ∈ z_tn := Or.inr ⟨"TimeGaps", z_w2 516 (by decide +kernel) (by decide +kernel)⟩
theorem zlRX4_79 : Cond.methodLink RX4 79 yX6_byteAt ∈ z_tb ∨ ∃ host : String, Cond.methodLinkNest RX4 79 yX6_byteAt host ∈ z_tn := Or.inr ⟨"TimeGaps", z_w2 524 (by decide +kernel) (by decide +kernel)⟩
theorem zlRX4_82 : Cond.methodLink RX4 82 yX6_isLetter ∈ z_tb ∨ ∃ host : String, Cond.methodLinkNest RX4 82 yX6_isLetter host ∈ z_tn := Or.inr ⟨"TimeGaps", z_w2 525 (by decide +kernel) (by decide +kernel)⟩
theorem zlRX4_86 : Cond.methodLink RX4 86 yX6_countLetters ∈ z_tb ∨ ∃ host : String, Cond.methodLinkNest RX4 86 yX6_countLetters host ∈ z_tn := Or.inr ⟨"TimeGaps", z_w2 528 (by decide +kernel) (by decide +kernel)⟩
theorem zlRX4_89 : Cond.methodLink RX4 89 yX6_isDigit ∈ z_tb ∨ ∃ host : String, Cond.methodLinkNest RX4 89 yX6_isDigit host ∈ z_tn := Or.inr ⟨"TimeGaps", z_w2 533 (by decide +kernel) (by decide +kernel)⟩
theorem zlRX4_92 : Cond.methodLink RX4 92 yX6_countDigits ∈ z_tb ∨ ∃ host : String, Cond.methodLinkNest RX4 92 yX6_countDigits host ∈ z_tn := Or.inr ⟨"TimeGaps", z_w2 536 (by decide +kernel) (by decide +kernel)⟩
theorem zlRX4_95 : Cond.methodLink RX4 95 yX6_spells ∈ z_tb ∨ ∃ host : String, Cond.methodLinkNest RX4 95 yX6_spells host ∈ z_tn := Or.inr ⟨"TimeGaps", z_w2 554 (by decide +kernel) (by decide +kernel)⟩
theorem zlRX4_99 : Cond.methodLink RX4 99 yX3_findEvent ∈ z_tb ∨ ∃ host : String, Cond.methodLinkNest RX4 99 yX3_findEvent host ∈ z_tn := Or.inr ⟨"TimeGaps", z_w2 595 (by decide +kernel) (by decide +kernel)⟩
set_option maxRecDepth 100000 in
theorem zlRX4_109 : Cond.methodLink RX4 109 yX4_takeWord ∈ z_tb ∨ ∃ host : String, Cond.methodLinkNest RX4 109 yX4_takeWord host ∈ z_tn := Or.inl (z_w1 546 (Eq.refl _) (by decide +kernel))
set_option maxRecDepth 100000 in
theorem zlRX4_112 : Cond.methodLink RX4 112 yX4_numberHere ∈ z_tb ∨ ∃ host : String, Cond.methodLinkNest RX4 112 yX4_numberHere host ∈ z_tn := Or.inl (z_w1 560 (Eq.refl _) (by decide +kernel))
set_option maxRecDepth 100000 in
theorem zlRX4_119 : Cond.methodLink RX4 119 yX4_takeSemicolon ∈ z_tb ∨ ∃ host : String, Cond.methodLinkNest RX4 119 yX4_takeSemicolon host ∈ z_tn := Or.inl (z_w1 564 (Eq.refl _) (by decide +kernel))
theorem zlRX4_125 : Cond.methodLink RX4 125 yX6_isName ∈ z_tb ∨ ∃ host : String, Cond.methodLinkNest RX4 125 yX6_isName host ∈ z_tn := Or.inr ⟨"TimeGaps", z_w2 573 (by decide +kernel) (by decide +kernel)⟩
set_option maxRecDepth 100000 in
theorem zlRX4_129 : Cond.methodLink RX4 129 yX4_eventHere ∈ z_tb ∨ ∃ host : String, Cond.methodLinkNest RX4 129 yX4_eventHere host ∈ z_tn := Or.inl (z_w1 591 (Eq.refl _) (by decide +kernel))
theorem zlRX4_132 : Cond.methodLink RX4 132 yX3_addEvent ∈ z_tb ∨ ∃ host : String, Cond.methodLinkNest RX4 132 yX3_addEvent host ∈ z_tn := Or.inr ⟨"TimeGaps", z_w2 608 (by decide +kernel) (by decide +kernel)⟩
set_option maxRecDepth 100000 in
theorem zlRX4_138 : Cond.methodLink RX4 138 yX4_kindHere ∈ z_tb ∨ ∃ host : String, Cond.methodLinkNest RX4 138 yX4_kindHere host ∈ z_tn := Or.inl (z_w1 623 (Eq.refl _) (by decide +kernel))
theorem zlRX4_143 : Cond.methodLink RX4 143 yX2_leastRing ∈ z_tb ∨ ∃ host : String, Cond.methodLinkNest RX4 143 yX2_leastRing host ∈ z_tn := Or.inr ⟨"TimeGaps", z_w2 630 (by decide +kernel) (by decide +kernel)⟩
theorem zlRX4_147 : Cond.methodLink RX4 147 yX3_addGap ∈ z_tb ∨ ∃ host : String, Cond.methodLinkNest RX4 147 yX3_addGap host ∈ z_tn := Or.inr ⟨"TimeGaps", z_w2 641 (by decide +kernel) (by decide +kernel)⟩
theorem zlRX4_151 : Cond.methodLink RX4 151 yX2_addGapStep ∈ z_tb ∨ ∃ host : String, Cond.methodLinkNest RX4 151 yX2_addGapStep host ∈ z_tn := Or.inr ⟨"TimeGaps", z_w2 645 (by decide +kernel) (by decide +kernel)⟩
theorem zlRX4_155 : Cond.methodLink RX4 155 yX3_isPinned ∈ z_tb ∨ ∃ host : String, Cond.methodLinkNest RX4 155 yX3_isPinned host ∈ z_tn := Or.inr ⟨"TimeGaps", z_w2 658 (by decide +kernel) (by decide +kernel)⟩
theorem zlRX4_158 : Cond.methodLink RX4 158 yX2_allows ∈ z_tb ∨ ∃ host : String, Cond.methodLinkNest RX4 158 yX2_allows host ∈ z_tn := Or.inr ⟨"TimeGaps", z_w2 659 (by decide +kernel) (by decide +kernel)⟩
theorem zlRX4_165 : Cond.methodLink RX4 165 yX2_addPin ∈ z_tb ∨ ∃ host : String, Cond.methodLinkNest RX4 165 yX2_addPin host ∈ z_tn := Or.inr ⟨"TimeGaps", z_w2 671 (by decide +kernel) (by decide +kernel)⟩
theorem zlRX5_21 : Cond.methodLink RX5 21 yX3_init ∈ z_tb ∨ ∃ host : String, Cond.methodLinkNest RX5 21 yX3_init host ∈ z_tn := Or.inr ⟨"TimeGaps", z_w2 284 (by decide +kernel) (by decide +kernel)⟩
set_option maxRecDepth 100000 in
theorem zlRX6_19 : Cond.methodLink RX6 19 yX6_countLetters ∈ z_tb ∨ ∃ host : String, Cond.methodLinkNest RX6 19 yX6_countLetters host ∈ z_tn := Or.inl (z_w1 577 (Eq.refl _) (by decide +kernel))
set_option maxRecDepth 100000 in
theorem zlRX6_23 : Cond.methodLink RX6 23 yX6_isKeyword ∈ z_tb ∨ ∃ host : String, Cond.methodLinkNest RX6 23 yX6_isKeyword host ∈ z_tn := Or.inl (z_w1 578 (Eq.refl _) (by decide +kernel))
set_option maxRecDepth 100000 in
theorem zlRX6_29 : Cond.methodLink RX6 29 yX6_spells ∈ z_tb ∨ ∃ host : String, Cond.methodLinkNest RX6 29 yX6_spells host ∈ z_tn := Or.inl (z_w1 583 (Eq.refl _) (by decide +kernel))
set_option maxRecDepth 100000 in
theorem zlRX6_47 : Cond.methodLink RX6 47 yJ0_length_8abf5 ∈ z_tb ∨ ∃ host : String, Cond.methodLinkNest RX6 47 yJ0_length_8abf5 host ∈ z_tn := Or.inl (z_w1 558 (Eq.refl _) (by decide +kernel))
set_option maxRecDepth 100000 in
theorem zlRX6_52 : Cond.methodLink RX6 52 yX6_byteAt ∈ z_tb ∨ ∃ host : String, Cond.methodLinkNest RX6 52 yX6_byteAt host ∈ z_tn := Or.inl (z_w1 520 (Eq.refl _) (by decide +kernel))
set_option maxRecDepth 100000 in
theorem zlRX6_55 : Cond.methodLink RX6 55 yJ0_charAt_5068e ∈ z_tb ∨ ∃ host : String, Cond.methodLinkNest RX6 55 yJ0_charAt_5068e host ∈ z_tn := Or.inl (z_w1 559 (Eq.refl _) (by decide +kernel))
set_option maxRecDepth 100000 in
theorem zlRX6_59 : Cond.methodLink RX6 59 yX6_isLetter ∈ z_tb ∨ ∃ host : String, Cond.methodLinkNest RX6 59 yX6_isLetter host ∈ z_tn := Or.inl (z_w1 532 (Eq.refl _) (by decide +kernel))
set_option maxRecDepth 100000 in
theorem zlRX6_63 : Cond.methodLink RX6 63 yX6_isDigit ∈ z_tb ∨ ∃ host : String, Cond.methodLinkNest RX6 63 yX6_isDigit host ∈ z_tn := Or.inl (z_w1 540 (Eq.refl _) (by decide +kernel))
set_option maxRecDepth 100000 in
theorem zlRX7_24 : Cond.methodLink RX7 24 yX7_putName ∈ z_tb ∨ ∃ host : String, Cond.methodLinkNest RX7 24 yX7_putName host ∈ z_tn := Or.inl (z_w1 1422 (Eq.refl _) (by decide +kernel))
set_option maxRecDepth 100000 in
theorem zlRX7_28 : Cond.methodLink RX7 28 yX7_put ∈ z_tb ∨ ∃ host : String, Cond.methodLinkNest RX7 28 yX7_put host ∈ z_tn := Or.inl (z_w1 1427 (Eq.refl _) (by decide +kernel))
theorem zlRX7_32 : Cond.methodLink RX7 32 yX2_earliest ∈ z_tb ∨ ∃ host : String, Cond.methodLinkNest RX7 32 yX2_earliest host ∈ z_tn := Or.inr ⟨"TimeGaps", z_w2 1431 (by decide +kernel) (by decide +kernel)⟩
set_option maxRecDepth 100000 in
theorem zlRX7_38 : Cond.methodLink RX7 38 yX7_putNumber ∈ z_tb ∨ ∃ host : String, Cond.methodLinkNest RX7 38 yX7_putNumber host ∈ z_tn := Or.inl (z_w1 1432 (Eq.refl _) (by decide +kernel))
theorem zlRX7_41 : Cond.methodLink RX7 41 yX2_latest ∈ z_tb ∨ ∃ host : String, Cond.methodLinkNest RX7 41 yX2_latest host ∈ z_tn := Or.inr ⟨"TimeGaps", z_w2 1436 (by decide +kernel) (by decide +kernel)⟩
theorem zlRX7_44 : Cond.methodLink RX7 44 yX3_isPinned ∈ z_tb ∨ ∃ host : String, Cond.methodLinkNest RX7 44 yX3_isPinned host ∈ z_tn := Or.inr ⟨"TimeGaps", z_w2 1437 (by decide +kernel) (by decide +kernel)⟩
set_option maxRecDepth 100000 in
theorem zlRX7_50 : Cond.methodLink RX7 50 yX7_putWord ∈ z_tb ∨ ∃ host : String, Cond.methodLinkNest RX7 50 yX7_putWord host ∈ z_tn := Or.inl (z_w1 1447 (Eq.refl _) (by decide +kernel))
set_option maxRecDepth 100000 in
theorem zlRX7_62 : Cond.methodLink RX7 62 yX7_putGap ∈ z_tb ∨ ∃ host : String, Cond.methodLinkNest RX7 62 yX7_putGap host ∈ z_tn := Or.inl (z_w1 1454 (Eq.refl _) (by decide +kernel))
theorem zlRX7_97 : Cond.methodLink RX7 97 yX3_letterOf ∈ z_tb ∨ ∃ host : String, Cond.methodLinkNest RX7 97 yX3_letterOf host ∈ z_tn := Or.inr ⟨"TimeGaps", z_w2 1426 (by decide +kernel) (by decide +kernel)⟩
set_option maxRecDepth 100000 in
theorem zlRX7_101 : Cond.methodLink RX7 101 yJ0_length_8abf5 ∈ z_tb ∨ ∃ host : String, Cond.methodLinkNest RX7 101 yJ0_length_8abf5 host ∈ z_tn := Or.inl (z_w1 1451 (Eq.refl _) (by decide +kernel))
set_option maxRecDepth 100000 in
theorem zlRX7_106 : Cond.methodLink RX7 106 yJ0_charAt_5068e ∈ z_tb ∨ ∃ host : String, Cond.methodLinkNest RX7 106 yJ0_charAt_5068e host ∈ z_tn := Or.inl (z_w1 1452 (Eq.refl _) (by decide +kernel))
set_option maxRecDepth 100000 in
theorem zlRL_8 : Cond.methodLink RL 8 yX8_truncate ∈ z_tb ∨ ∃ host : String, Cond.methodLinkNest RL 8 yX8_truncate host ∈ z_tn := Or.inl (z_w1 489 (Eq.refl _) (by decide +kernel))
set_option maxRecDepth 100000 in
theorem zlRL_14 : Cond.methodLink RL 14 yJ0_length_8abf5 ∈ z_tb ∨ ∃ host : String, Cond.methodLinkNest RL 14 yJ0_length_8abf5 host ∈ z_tn := Or.inl (z_w1 493 (Eq.refl _) (by decide +kernel))
set_option maxRecDepth 100000 in
theorem zlRL_20 : Cond.methodLink RL 20 yJ0_charAt_5068e ∈ z_tb ∨ ∃ host : String, Cond.methodLinkNest RL 20 yJ0_charAt_5068e host ∈ z_tn := Or.inl (z_w1 494 (Eq.refl _) (by decide +kernel))
set_option maxRecDepth 100000 in
theorem zlRL_24 : Cond.methodLink RL 24 yX8_append ∈ z_tb ∨ ∃ host : String, Cond.methodLinkNest RL 24 yX8_append host ∈ z_tn := Or.inl (z_w1 495 (Eq.refl _) (by decide +kernel))
set_option maxRecDepth 100000 in
theorem zlRL_28 : Cond.methodLink RL 28 yL_write ∈ z_tb ∨ ∃ host : String, Cond.methodLinkNest RL 28 yL_write host ∈ z_tn := Or.inl (z_w1 486 (Eq.refl _) (by decide +kernel))
set_option maxRecDepth 100000 in
theorem zlRL_34 : Cond.methodLink RL 34 yX8_load ∈ z_tb ∨ ∃ host : String, Cond.methodLinkNest RL 34 yX8_load host ∈ z_tn := Or.inl (z_w1 503 (Eq.refl _) (by decide +kernel))
set_option maxRecDepth 100000 in
theorem zlRL_37 : Cond.methodLink RL 37 yX8_errorPosition ∈ z_tb ∨ ∃ host : String, Cond.methodLinkNest RL 37 yX8_errorPosition host ∈ z_tn := Or.inl (z_w1 699 (Eq.refl _) (by decide +kernel))
set_option maxRecDepth 100000 in
theorem zlRL_42 : Cond.methodLink RL 42 yJ4_init_da8c8 ∈ z_tb ∨ ∃ host : String, Cond.methodLinkNest RL 42 yJ4_init_da8c8 host ∈ z_tn := Or.inl (z_w1 888 (Eq.refl _) (by decide +kernel))
set_option maxRecDepth 100000 in
theorem zlRL_43 : Cond.methodLink RL 43 yX8_listLength ∈ z_tb ∨ ∃ host : String, Cond.methodLinkNest RL 43 yX8_listLength host ∈ z_tn := Or.inl (z_w1 1414 (Eq.refl _) (by decide +kernel))
set_option maxRecDepth 100000 in
theorem zlRL_46 : Cond.methodLink RL 46 yX8_setupLength ∈ z_tb ∨ ∃ host : String, Cond.methodLinkNest RL 46 yX8_setupLength host ∈ z_tn := Or.inl (z_w1 1438 (Eq.refl _) (by decide +kernel))
set_option maxRecDepth 100000 in
theorem zlRL_49 : Cond.methodLink RL 49 yX8_listByte ∈ z_tb ∨ ∃ host : String, Cond.methodLinkNest RL 49 yX8_listByte host ∈ z_tn := Or.inl (z_w1 1463 (Eq.refl _) (by decide +kernel))
set_option maxRecDepth 100000 in
theorem zlRL_52 : Cond.methodLink RL 52 yX8_setupByte ∈ z_tb ∨ ∃ host : String, Cond.methodLinkNest RL 52 yX8_setupByte host ∈ z_tn := Or.inl (z_w1 1471 (Eq.refl _) (by decide +kernel))
set_option maxRecDepth 100000 in
theorem zlRL_55 : Cond.methodLink RL 55 yJ4_append_cf468 ∈ z_tb ∨ ∃ host : String, Cond.methodLinkNest RL 55 yJ4_append_cf468 host ∈ z_tn := Or.inl (z_w1 872 (Eq.refl _) (by decide +kernel))
set_option maxRecDepth 100000 in
theorem zlRL_58 : Cond.methodLink RL 58 yJ4_toString_0e30d ∈ z_tb ∨ ∃ host : String, Cond.methodLinkNest RL 58 yJ4_toString_0e30d host ∈ z_tn := Or.inl (z_w1 895 (Eq.refl _) (by decide +kernel))
set_option maxRecDepth 100000 in
theorem zlRL_62 : Cond.methodLink RL 62 yL_draw ∈ z_tb ∨ ∃ host : String, Cond.methodLinkNest RL 62 yL_draw host ∈ z_tn := Or.inl (z_w1 706 (Eq.refl _) (by decide +kernel))
set_option maxRecDepth 100000 in
theorem zlRL_68 : Cond.methodLink RL 68 yJ4_init_a7421 ∈ z_tb ∨ ∃ host : String, Cond.methodLinkNest RL 68 yJ4_init_a7421 host ∈ z_tn := Or.inl (z_w1 713 (Eq.refl _) (by decide +kernel))
set_option maxRecDepth 100000 in
theorem zlRL_71 : Cond.methodLink RL 71 yJ4_append_bf812 ∈ z_tb ∨ ∃ host : String, Cond.methodLinkNest RL 71 yJ4_append_bf812 host ∈ z_tn := Or.inl (z_w1 844 (Eq.refl _) (by decide +kernel))
set_option maxRecDepth 100000 in
theorem zlRL_76 : Cond.methodLink RL 76 yJ4_append_15ec4 ∈ z_tb ∨ ∃ host : String, Cond.methodLinkNest RL 76 yJ4_append_15ec4 host ∈ z_tn := Or.inl (z_w1 870 (Eq.refl _) (by decide +kernel))
set_option maxRecDepth 100000 in
theorem zlRL_81 : Cond.methodLink RL 81 yJ9_max_7cf53 ∈ z_tb ∨ ∃ host : String, Cond.methodLinkNest RL 81 yJ9_max_7cf53 host ∈ z_tn := Or.inl (z_w1 885 (Eq.refl _) (by decide +kernel))
set_option maxRecDepth 100000 in
theorem zlRL_103 : Cond.methodLink RL 103 yX8_value ∈ z_tb ∨ ∃ host : String, Cond.methodLinkNest RL 103 yX8_value host ∈ z_tn := Or.inl (z_w1 960 (Eq.refl _) (by decide +kernel))
set_option maxRecDepth 100000 in
theorem zlRL_106 : Cond.methodLink RL 106 yX8_tell ∈ z_tb ∨ ∃ host : String, Cond.methodLinkNest RL 106 yX8_tell host ∈ z_tn := Or.inl (z_w1 1031 (Eq.refl _) (by decide +kernel))
set_option maxRecDepth 100000 in
theorem zlRL_110 : Cond.methodLink RL 110 yX8_drop ∈ z_tb ∨ ∃ host : String, Cond.methodLinkNest RL 110 yX8_drop host ∈ z_tn := Or.inl (z_w1 1068 (Eq.refl _) (by decide +kernel))
set_option maxRecDepth 100000 in
theorem zlRL_113 : Cond.methodLink RL 113 yX8_set ∈ z_tb ∨ ∃ host : String, Cond.methodLinkNest RL 113 yX8_set host ∈ z_tn := Or.inl (z_w1 1080 (Eq.refl _) (by decide +kernel))
set_option maxRecDepth 100000 in
theorem zlRL_116 : Cond.methodLink RL 116 yX8_turn ∈ z_tb ∨ ∃ host : String, Cond.methodLinkNest RL 116 yX8_turn host ∈ z_tn := Or.inl (z_w1 1088 (Eq.refl _) (by decide +kernel))
set_option maxRecDepth 100000 in
theorem zlRL_119 : Cond.methodLink RL 119 yX8_pin ∈ z_tb ∨ ∃ host : String, Cond.methodLinkNest RL 119 yX8_pin host ∈ z_tn := Or.inl (z_w1 1092 (Eq.refl _) (by decide +kernel))
set_option maxRecDepth 100000 in
theorem zlRL_122 : Cond.methodLink RL 122 yX8_unpin ∈ z_tb ∨ ∃ host : String, Cond.methodLinkNest RL 122 yX8_unpin host ∈ z_tn := Or.inl (z_w1 1106 (Eq.refl _) (by decide +kernel))
set_option maxRecDepth 100000 in
theorem zlRL_125 : Cond.methodLink RL 125 yX8_end ∈ z_tb ∨ ∃ host : String, Cond.methodLinkNest RL 125 yX8_end host ∈ z_tn := Or.inl (z_w1 1110 (Eq.refl _) (by decide +kernel))
set_option maxRecDepth 100000 in
theorem zlRL_128 : Cond.methodLink RL 128 yX8_reverse ∈ z_tb ∨ ∃ host : String, Cond.methodLinkNest RL 128 yX8_reverse host ∈ z_tn := Or.inl (z_w1 1114 (Eq.refl _) (by decide +kernel))
set_option maxRecDepth 100000 in
theorem zlRL_131 : Cond.methodLink RL 131 yX8_tighten ∈ z_tb ∨ ∃ host : String, Cond.methodLinkNest RL 131 yX8_tighten host ∈ z_tn := Or.inl (z_w1 1127 (Eq.refl _) (by decide +kernel))
set_option maxRecDepth 100000 in
theorem zlRL_134 : Cond.methodLink RL 134 yX8_thin ∈ z_tb ∨ ∃ host : String, Cond.methodLinkNest RL 134 yX8_thin host ∈ z_tn := Or.inl (z_w1 1139 (Eq.refl _) (by decide +kernel))
set_option maxRecDepth 100000 in
theorem zlRL_137 : Cond.methodLink RL 137 yX8_pinAll ∈ z_tb ∨ ∃ host : String, Cond.methodLinkNest RL 137 yX8_pinAll host ∈ z_tn := Or.inl (z_w1 1147 (Eq.refl _) (by decide +kernel))
set_option maxRecDepth 100000 in
theorem zlRL_142 : Cond.methodLink RL 142 yX8_open ∈ z_tb ∨ ∃ host : String, Cond.methodLinkNest RL 142 yX8_open host ∈ z_tn := Or.inl (z_w1 1153 (Eq.refl _) (by decide +kernel))
set_option maxRecDepth 100000 in
theorem zlRL_145 : Cond.methodLink RL 145 yX8_rename ∈ z_tb ∨ ∃ host : String, Cond.methodLinkNest RL 145 yX8_rename host ∈ z_tn := Or.inl (z_w1 1164 (Eq.refl _) (by decide +kernel))
set_option maxRecDepth 100000 in
theorem zlRL_148 : Cond.methodLink RL 148 yX8_event ∈ z_tb ∨ ∃ host : String, Cond.methodLinkNest RL 148 yX8_event host ∈ z_tn := Or.inl (z_w1 1182 (Eq.refl _) (by decide +kernel))
set_option maxRecDepth 100000 in
theorem zlRL_151 : Cond.methodLink RL 151 yX8_letter ∈ z_tb ∨ ∃ host : String, Cond.methodLinkNest RL 151 yX8_letter host ∈ z_tn := Or.inl (z_w1 1262 (Eq.refl _) (by decide +kernel))
set_option maxRecDepth 100000 in
theorem zlRL_154 : Cond.methodLink RL 154 yX8_gap ∈ z_tb ∨ ∃ host : String, Cond.methodLinkNest RL 154 yX8_gap host ∈ z_tn := Or.inl (z_w1 1175 (Eq.refl _) (by decide +kernel))
set_option maxRecDepth 100000 in
theorem zlRL_157 : Cond.methodLink RL 157 yX8_log ∈ z_tb ∨ ∃ host : String, Cond.methodLinkNest RL 157 yX8_log host ∈ z_tn := Or.inl (z_w1 1267 (Eq.refl _) (by decide +kernel))
set_option maxRecDepth 100000 in
theorem zlRL_160 : Cond.methodLink RL 160 yL_tells ∈ z_tb ∨ ∃ host : String, Cond.methodLinkNest RL 160 yL_tells host ∈ z_tn := Or.inl (z_w1 1259 (Eq.refl _) (by decide +kernel))
set_option maxRecDepth 100000 in
theorem zlRL_164 : Cond.methodLink RL 164 yL_time ∈ z_tb ∨ ∃ host : String, Cond.methodLinkNest RL 164 yL_time host ∈ z_tn := Or.inl (z_w1 1179 (Eq.refl _) (by decide +kernel))
set_option maxRecDepth 100000 in
theorem zlRL_168 : Cond.methodLink RL 168 yX8_can ∈ z_tb ∨ ∃ host : String, Cond.methodLinkNest RL 168 yX8_can host ∈ z_tn := Or.inl (z_w1 1201 (Eq.refl _) (by decide +kernel))
set_option maxRecDepth 100000 in
theorem zlRL_171 : Cond.methodLink RL 171 yX8_middle ∈ z_tb ∨ ∃ host : String, Cond.methodLinkNest RL 171 yX8_middle host ∈ z_tn := Or.inl (z_w1 1196 (Eq.refl _) (by decide +kernel))
set_option maxRecDepth 100000 in
theorem zlRL_174 : Cond.methodLink RL 174 yL_bear ∈ z_tb ∨ ∃ host : String, Cond.methodLinkNest RL 174 yL_bear host ∈ z_tn := Or.inl (z_w1 1172 (Eq.refl _) (by decide +kernel))
set_option maxRecDepth 100000 in
theorem zlRL_178 : Cond.methodLink RL 178 yX8_bound ∈ z_tb ∨ ∃ host : String, Cond.methodLinkNest RL 178 yX8_bound host ∈ z_tn := Or.inl (z_w1 1205 (Eq.refl _) (by decide +kernel))
set_option maxRecDepth 100000 in
theorem zlRL_181 : Cond.methodLink RL 181 yX8_wayLength ∈ z_tb ∨ ∃ host : String, Cond.methodLinkNest RL 181 yX8_wayLength host ∈ z_tn := Or.inl (z_w1 1210 (Eq.refl _) (by decide +kernel))
set_option maxRecDepth 100000 in
theorem zlRL_184 : Cond.methodLink RL 184 yX8_way ∈ z_tb ∨ ∃ host : String, Cond.methodLinkNest RL 184 yX8_way host ∈ z_tn := Or.inl (z_w1 1221 (Eq.refl _) (by decide +kernel))
set_option maxRecDepth 100000 in
theorem zlRL_188 : Cond.methodLink RL 188 yL_lengthOf ∈ z_tb ∨ ∃ host : String, Cond.methodLinkNest RL 188 yL_lengthOf host ∈ z_tn := Or.inl (z_w1 1233 (Eq.refl _) (by decide +kernel))
set_option maxRecDepth 100000 in
theorem zlRL_192 : Cond.methodLink RL 192 yX8_relation ∈ z_tb ∨ ∃ host : String, Cond.methodLinkNest RL 192 yX8_relation host ∈ z_tn := Or.inl (z_w1 1236 (Eq.refl _) (by decide +kernel))
set_option maxRecDepth 100000 in
theorem zlRL_195 : Cond.methodLink RL 195 yX8_play ∈ z_tb ∨ ∃ host : String, Cond.methodLinkNest RL 195 yX8_play host ∈ z_tn := Or.inl (z_w1 1244 (Eq.refl _) (by decide +kernel))
set_option maxRecDepth 100000 in
theorem zlRL_198 : Cond.methodLink RL 198 yX8_meanRoom ∈ z_tb ∨ ∃ host : String, Cond.methodLinkNest RL 198 yX8_meanRoom host ∈ z_tn := Or.inl (z_w1 1248 (Eq.refl _) (by decide +kernel))
set_option maxRecDepth 100000 in
theorem zlRL_202 : Cond.methodLink RL 202 yX8_tightShare ∈ z_tb ∨ ∃ host : String, Cond.methodLinkNest RL 202 yX8_tightShare host ∈ z_tn := Or.inl (z_w1 1252 (Eq.refl _) (by decide +kernel))
set_option maxRecDepth 100000 in
theorem zlRL_206 : Cond.methodLink RL 206 yX8_why ∈ z_tb ∨ ∃ host : String, Cond.methodLinkNest RL 206 yX8_why host ∈ z_tn := Or.inl (z_w1 1278 (Eq.refl _) (by decide +kernel))
set_option maxRecDepth 100000 in
theorem zlRL_209 : Cond.methodLink RL 209 yX8_ifTold ∈ z_tb ∨ ∃ host : String, Cond.methodLinkNest RL 209 yX8_ifTold host ∈ z_tn := Or.inl (z_w1 1290 (Eq.refl _) (by decide +kernel))
set_option maxRecDepth 100000 in
theorem zlRL_212 : Cond.methodLink RL 212 yX8_culprit ∈ z_tb ∨ ∃ host : String, Cond.methodLinkNest RL 212 yX8_culprit host ∈ z_tn := Or.inl (z_w1 1310 (Eq.refl _) (by decide +kernel))
set_option maxRecDepth 100000 in
theorem zlRL_215 : Cond.methodLink RL 215 yX8_tightest ∈ z_tb ∨ ∃ host : String, Cond.methodLinkNest RL 215 yX8_tightest host ∈ z_tn := Or.inl (z_w1 1314 (Eq.refl _) (by decide +kernel))
set_option maxRecDepth 100000 in
theorem zlRL_218 : Cond.methodLink RL 218 yL_isAs ∈ z_tb ∨ ∃ host : String, Cond.methodLinkNest RL 218 yL_isAs host ∈ z_tn := Or.inl (z_w1 1324 (Eq.refl _) (by decide +kernel))
set_option maxRecDepth 100000 in
theorem zlRL_222 : Cond.methodLink RL 222 yX8_ring ∈ z_tb ∨ ∃ host : String, Cond.methodLinkNest RL 222 yX8_ring host ∈ z_tn := Or.inl (z_w1 1327 (Eq.refl _) (by decide +kernel))
set_option maxRecDepth 100000 in
theorem zlRL_225 : Cond.methodLink RL 225 yX8_undo ∈ z_tb ∨ ∃ host : String, Cond.methodLinkNest RL 225 yX8_undo host ∈ z_tn := Or.inl (z_w1 1331 (Eq.refl _) (by decide +kernel))
set_option maxRecDepth 100000 in
theorem zlRL_228 : Cond.methodLink RL 228 yX8_spare ∈ z_tb ∨ ∃ host : String, Cond.methodLinkNest RL 228 yX8_spare host ∈ z_tn := Or.inl (z_w1 1339 (Eq.refl _) (by decide +kernel))
set_option maxRecDepth 100000 in
theorem zlRL_231 : Cond.methodLink RL 231 yL_gaps ∈ z_tb ∨ ∃ host : String, Cond.methodLinkNest RL 231 yL_gaps host ∈ z_tn := Or.inl (z_w1 1275 (Eq.refl _) (by decide +kernel))
set_option maxRecDepth 100000 in
theorem zlRL_235 : Cond.methodLink RL 235 yX8_leastEnd ∈ z_tb ∨ ∃ host : String, Cond.methodLinkNest RL 235 yX8_leastEnd host ∈ z_tn := Or.inl (z_w1 1346 (Eq.refl _) (by decide +kernel))
set_option maxRecDepth 100000 in
theorem zlRL_238 : Cond.methodLink RL 238 yX8_ifPinned ∈ z_tb ∨ ∃ host : String, Cond.methodLinkNest RL 238 yX8_ifPinned host ∈ z_tn := Or.inl (z_w1 1350 (Eq.refl _) (by decide +kernel))
set_option maxRecDepth 100000 in
theorem zlRL_241 : Cond.methodLink RL 241 yX8_ifTurned ∈ z_tb ∨ ∃ host : String, Cond.methodLinkNest RL 241 yX8_ifTurned host ∈ z_tn := Or.inl (z_w1 1354 (Eq.refl _) (by decide +kernel))
set_option maxRecDepth 100000 in
theorem zlRL_244 : Cond.methodLink RL 244 yX8_ifDropped ∈ z_tb ∨ ∃ host : String, Cond.methodLinkNest RL 244 yX8_ifDropped host ∈ z_tn := Or.inl (z_w1 1359 (Eq.refl _) (by decide +kernel))
set_option maxRecDepth 100000 in
theorem zlRL_247 : Cond.methodLink RL 247 yX8_needless ∈ z_tb ∨ ∃ host : String, Cond.methodLinkNest RL 247 yX8_needless host ∈ z_tn := Or.inl (z_w1 1363 (Eq.refl _) (by decide +kernel))
set_option maxRecDepth 100000 in
theorem zlRL_250 : Cond.methodLink RL 250 yX8_ordered ∈ z_tb ∨ ∃ host : String, Cond.methodLinkNest RL 250 yX8_ordered host ∈ z_tn := Or.inl (z_w1 1367 (Eq.refl _) (by decide +kernel))
set_option maxRecDepth 100000 in
theorem zlRL_253 : Cond.methodLink RL 253 yX8_freest ∈ z_tb ∨ ∃ host : String, Cond.methodLinkNest RL 253 yX8_freest host ∈ z_tn := Or.inl (z_w1 1375 (Eq.refl _) (by decide +kernel))
set_option maxRecDepth 100000 in
theorem zlRL_256 : Cond.methodLink RL 256 yX8_lastly ∈ z_tb ∨ ∃ host : String, Cond.methodLinkNest RL 256 yX8_lastly host ∈ z_tn := Or.inl (z_w1 1379 (Eq.refl _) (by decide +kernel))
set_option maxRecDepth 100000 in
theorem zlRL_259 : Cond.methodLink RL 259 yX8_keep ∈ z_tb ∨ ∃ host : String, Cond.methodLinkNest RL 259 yX8_keep host ∈ z_tn := Or.inl (z_w1 1390 (Eq.refl _) (by decide +kernel))
set_option maxRecDepth 100000 in
theorem zlRL_262 : Cond.methodLink RL 262 yL_acts ∈ z_tb ∨ ∃ host : String, Cond.methodLinkNest RL 262 yL_acts host ∈ z_tn := Or.inl (z_w1 957 (Eq.refl _) (by decide +kernel))
set_option maxRecDepth 100000 in
theorem zlRL_265 : Cond.methodLink RL 265 yX8_restore ∈ z_tb ∨ ∃ host : String, Cond.methodLinkNest RL 265 yX8_restore host ∈ z_tn := Or.inl (z_w1 1397 (Eq.refl _) (by decide +kernel))
set_option maxRecDepth 100000 in
theorem zlRL_269 : Cond.methodLink RL 269 yX8_pairs ∈ z_tb ∨ ∃ host : String, Cond.methodLinkNest RL 269 yX8_pairs host ∈ z_tn := Or.inl (z_w1 1402 (Eq.refl _) (by decide +kernel))
set_option maxRecDepth 100000 in
theorem zlRL_272 : Cond.methodLink RL 272 yX8_needs ∈ z_tb ∨ ∃ host : String, Cond.methodLinkNest RL 272 yX8_needs host ∈ z_tn := Or.inl (z_w1 1406 (Eq.refl _) (by decide +kernel))
set_option maxRecDepth 100000 in
theorem zlRL_275 : Cond.methodLink RL 275 yX8_init ∈ z_tb ∨ ∃ host : String, Cond.methodLinkNest RL 275 yX8_init host ∈ z_tn := Or.inl (z_w1 126 (Eq.refl _) (by decide +kernel))
set_option maxRecDepth 100000 in
theorem zlRL_276 : Cond.methodLink RL 276 yL_text ∈ z_tb ∨ ∃ host : String, Cond.methodLinkNest RL 276 yL_text host ∈ z_tn := Or.inl (z_w1 1411 (Eq.refl _) (by decide +kernel))
set_option maxRecDepth 100000 in
theorem zlRL_280 : Cond.methodLink RL 280 yL_loads ∈ z_tb ∨ ∃ host : String, Cond.methodLinkNest RL 280 yL_loads host ∈ z_tn := Or.inl (z_w1 483 (Eq.refl _) (by decide +kernel))
set_option maxRecDepth 100000 in
theorem zlRL_284 : Cond.methodLink RL 284 yL_setup ∈ z_tb ∨ ∃ host : String, Cond.methodLinkNest RL 284 yL_setup host ∈ z_tn := Or.inl (z_w1 703 (Eq.refl _) (by decide +kernel))
set_option maxRecDepth 100000 in
theorem zlRL_288 : Cond.methodLink RL 288 yL_bounds ∈ z_tb ∨ ∃ host : String, Cond.methodLinkNest RL 288 yL_bounds host ∈ z_tn := Or.inl (z_w1 1169 (Eq.refl _) (by decide +kernel))
set_option maxRecDepth 100000 in
theorem zlRL_292 : Cond.methodLink RL 292 yL_foretold ∈ z_tb ∨ ∃ host : String, Cond.methodLinkNest RL 292 yL_foretold host ∈ z_tn := Or.inl (z_w1 1256 (Eq.refl _) (by decide +kernel))
set_option maxRecDepth 100000 in
theorem zlRL_295 : Cond.methodLink RL 295 yL_undone ∈ z_tb ∨ ∃ host : String, Cond.methodLinkNest RL 295 yL_undone host ∈ z_tn := Or.inl (z_w1 1387 (Eq.refl _) (by decide +kernel))
set_option maxRecDepth 100000 in
theorem zlRJ5_32 : Cond.methodLink RJ5 32 yJ0_length_8abf5 ∈ z_tb ∨ ∃ host : String, Cond.methodLinkNest RJ5 32 yJ0_length_8abf5 host ∈ z_tn := Or.inl (z_w1 720 (Eq.refl _) (by decide +kernel))
set_option maxRecDepth 100000 in
theorem zlRJ5_40 : Cond.methodLink RJ5 40 yJ0_coder_7d493 ∈ z_tb ∨ ∃ host : String, Cond.methodLinkNest RJ5 40 yJ0_coder_7d493 host ∈ z_tn := Or.inl (z_w1 723 (Eq.refl _) (by decide +kernel))
set_option maxRecDepth 100000 in
theorem zlRJ5_43 : Cond.methodLink RJ5 43 yJ5_append_cf1ce ∈ z_tb ∨ ∃ host : String, Cond.methodLinkNest RJ5 43 yJ5_append_cf1ce host ∈ z_tn := Or.inl (z_w1 731 (Eq.refl _) (by decide +kernel))
set_option maxRecDepth 100000 in
theorem zlRJ5_83 : Cond.methodLink RJ5 83 yJ5_isLatin1_aae02 ∈ z_tb ∨ ∃ host : String, Cond.methodLinkNest RJ5 83 yJ5_isLatin1_aae02 host ∈ z_tn := Or.inl (z_w1 778 (Eq.refl _) (by decide +kernel))
set_option maxRecDepth 100000 in
theorem zlRJ5_100 : Cond.methodLink RJ5 100 yJ5_ensureCapacityInternal_d00df ∈ z_tb ∨ ∃ host : String, Cond.methodLinkNest RJ5 100 yJ5_ensureCapacityInternal_d00df host ∈ z_tn := Or.inl (z_w1 748 (Eq.refl _) (by decide +kernel))
set_option maxRecDepth 100000 in
theorem zlRJ5_104 : Cond.methodLink RJ5 104 yJ5_newCapacity_0f7a4 ∈ z_tb ∨ ∃ host : String, Cond.methodLinkNest RJ5 104 yJ5_newCapacity_0f7a4 host ∈ z_tn := Or.inl (z_w1 752 (Eq.refl _) (by decide +kernel))
set_option maxRecDepth 100000 in
theorem zlRJ5_108 : Cond.methodLink RJ5 108 yJ7_copyOf_9075b ∈ z_tb ∨ ∃ host : String, Cond.methodLinkNest RJ5 108 yJ7_copyOf_9075b host ∈ z_tn := Or.inl (z_w1 766 (Eq.refl _) (by decide +kernel))
set_option maxRecDepth 100000 in
theorem zlRJ5_114 : Cond.methodLink RJ5 114 yJ8_newLength_cabcc ∈ z_tb ∨ ∃ host : String, Cond.methodLinkNest RJ5 114 yJ8_newLength_cabcc host ∈ z_tn := Or.inl (z_w1 756 (Eq.refl _) (by decide +kernel))
set_option maxRecDepth 100000 in
theorem zlRJ5_125 : Cond.methodLink RJ5 125 yJ1_inflate_0e8fd ∈ z_tb ∨ ∃ host : String, Cond.methodLinkNest RJ5 125 yJ1_inflate_0e8fd host ∈ z_tn := Or.inl (z_w1 811 (Eq.refl _) (by decide +kernel))
set_option maxRecDepth 100000 in
theorem zlRJ5_191 : Cond.methodLink RJ5 191 yJ1_canEncode_fc78d ∈ z_tb ∨ ∃ host : String, Cond.methodLinkNest RJ5 191 yJ1_canEncode_fc78d host ∈ z_tn := Or.inl (z_w1 879 (Eq.refl _) (by decide +kernel))
set_option maxRecDepth 100000 in
theorem zlRJ5_195 : Cond.methodLink RJ5 195 yJ5_inflate_da8c8 ∈ z_tb ∨ ∃ host : String, Cond.methodLinkNest RJ5 195 yJ5_inflate_da8c8 host ∈ z_tn := Or.inl (z_w1 807 (Eq.refl _) (by decide +kernel))
set_option maxRecDepth 100000 in
theorem zlRJ5_204 : Cond.methodLink RJ5 204 yJ5_appendNull_278bc ∈ z_tb ∨ ∃ host : String, Cond.methodLinkNest RJ5 204 yJ5_appendNull_278bc host ∈ z_tn := Or.inl (z_w1 744 (Eq.refl _) (by decide +kernel))
set_option maxRecDepth 100000 in
theorem zlRJ5_208 : Cond.methodLink RJ5 208 yJ5_putStringAt_47b60 ∈ z_tb ∨ ∃ host : String, Cond.methodLinkNest RJ5 208 yJ5_putStringAt_47b60 host ∈ z_tn := Or.inl (z_w1 799 (Eq.refl _) (by decide +kernel))
set_option maxRecDepth 100000 in
theorem zlRJ5_245 : Cond.methodLink RJ5 245 yJ6_stringSize_0f7a4 ∈ z_tb ∨ ∃ host : String, Cond.methodLinkNest RJ5 245 yJ6_stringSize_0f7a4 host ∈ z_tn := Or.inl (z_w1 851 (Eq.refl _) (by decide +kernel))
set_option maxRecDepth 100000 in
theorem zlRJ5_248 : Cond.methodLink RJ5 248 yJ6_getChars_ba4f3 ∈ z_tb ∨ ∃ host : String, Cond.methodLinkNest RJ5 248 yJ6_getChars_ba4f3 host ∈ z_tn := Or.inl (z_w1 854 (Eq.refl _) (by decide +kernel))
set_option maxRecDepth 100000 in
theorem zlRJ5_397 : Cond.methodLink RJ5 397 yJ5_inflateIfNeededFor_a7421 ∈ z_tb ∨ ∃ host : String, Cond.methodLinkNest RJ5 397 yJ5_inflateIfNeededFor_a7421 host ∈ z_tn := Or.inl (z_w1 803 (Eq.refl _) (by decide +kernel))
set_option maxRecDepth 100000 in
theorem zlRJ5_399 : Cond.methodLink RJ5 399 yJ0_getBytes_840e7 ∈ z_tb ∨ ∃ host : String, Cond.methodLinkNest RJ5 399 yJ0_getBytes_840e7 host ∈ z_tn := Or.inl (z_w1 826 (Eq.refl _) (by decide +kernel))
set_option maxRecDepth 100000 in
theorem zlRJ0_54 : Cond.methodLink RJ0 54 yJ7_copyOfRange_39247 ∈ z_tb ∨ ∃ host : String, Cond.methodLinkNest RJ0 54 yJ7_copyOfRange_39247 host ∈ z_tn := Or.inl (z_w1 922 (Eq.refl _) (by decide +kernel))
set_option maxRecDepth 100000 in
theorem zlRJ0_106 : Cond.methodLink RJ0 106 yJ1_inflate_0e8fd ∈ z_tb ∨ ∃ host : String, Cond.methodLinkNest RJ0 106 yJ1_inflate_0e8fd host ∈ z_tn := Or.inl (z_w1 831 (Eq.refl _) (by decide +kernel))
set_option maxRecDepth 100000 in
theorem zlRJ0_335 : Cond.methodLink RJ0 335 yJ0_coder_7d493 ∈ z_tb ∨ ∃ host : String, Cond.methodLinkNest RJ0 335 yJ0_coder_7d493 host ∈ z_tn := Or.inl (z_w1 370 (Eq.refl _) (by decide +kernel))
set_option maxRecDepth 100000 in
theorem zlRJ0_489 : Cond.methodLink RJ0 489 yJ0_init_db425 ∈ z_tb ∨ ∃ host : String, Cond.methodLinkNest RJ0 489 yJ0_init_db425 host ∈ z_tn := Or.inl (z_w1 904 (Eq.refl _) (by decide +kernel))
set_option maxRecDepth 100000 in
theorem zlRJ0_492 : Cond.methodLink RJ0 492 yJ0_isLatin1_aae02 ∈ z_tb ∨ ∃ host : String, Cond.methodLinkNest RJ0 492 yJ0_isLatin1_aae02 host ∈ z_tn := Or.inl (z_w1 380 (Eq.refl _) (by decide +kernel))
set_option maxRecDepth 100000 in
theorem zlRJ0_495 : Cond.methodLink RJ0 495 yJ1_charAt_3b067 ∈ z_tb ∨ ∃ host : String, Cond.methodLinkNest RJ0 495 yJ1_charAt_3b067 host ∈ z_tn := Or.inl (z_w1 384 (Eq.refl _) (by decide +kernel))
set_option maxRecDepth 100000 in
theorem zlRJ0_549 : Cond.methodLink RJ0 549 yJ5_length_8abf5 ∈ z_tb ∨ ∃ host : String, Cond.methodLinkNest RJ0 549 yJ5_length_8abf5 host ∈ z_tn := Or.inl (z_w1 913 (Eq.refl _) (by decide +kernel))
set_option maxRecDepth 100000 in
theorem zlRJ0_552 : Cond.methodLink RJ0 552 yJ5_getValue_6d5f1 ∈ z_tb ∨ ∃ host : String, Cond.methodLinkNest RJ0 552 yJ5_getValue_6d5f1 host ∈ z_tn := Or.inl (z_w1 908 (Eq.refl _) (by decide +kernel))
set_option maxRecDepth 100000 in
theorem zlRJ0_1047 : Cond.methodLink RJ0 1047 yJ5_isLatin1_aae02 ∈ z_tb ∨ ∃ host : String, Cond.methodLinkNest RJ0 1047 yJ5_isLatin1_aae02 host ∈ z_tn := Or.inl (z_w1 921 (Eq.refl _) (by decide +kernel))
set_option maxRecDepth 100000 in
theorem zlRJ0_1059 : Cond.methodLink RJ0 1059 yJ3_checkIndex_8e157 ∈ z_tb ∨ ∃ host : String, Cond.methodLinkNest RJ0 1059 yJ3_checkIndex_8e157 host ∈ z_tn := Or.inl (z_w1 392 (Eq.refl _) (by decide +kernel))
set_option maxRecDepth 100000 in
theorem zlRJ4_1 : Cond.methodLink RJ4 1 yJ5_init_d00df ∈ z_tb ∨ ∃ host : String, Cond.methodLinkNest RJ4 1 yJ5_init_d00df host ∈ z_tn := Or.inl (z_w1 891 (Eq.refl _) (by decide +kernel))
set_option maxRecDepth 100000 in
theorem zlRJ4_7 : Cond.methodLink RJ4 7 yJ5_init_a7421 ∈ z_tb ∨ ∃ host : String, Cond.methodLinkNest RJ4 7 yJ5_init_a7421 host ∈ z_tn := Or.inl (z_w1 716 (Eq.refl _) (by decide +kernel))
set_option maxRecDepth 100000 in
theorem zlRJ4_23 : Cond.methodLink RJ4 23 yJ4_append_15ec4 ∈ z_tb ∨ ∃ host : String, Cond.methodLinkNest RJ4 23 yJ4_append_15ec4 host ∈ z_tn := Or.inl (z_w1 737 (Eq.refl _) (by decide +kernel))
set_option maxRecDepth 100000 in
theorem zlRJ4_29 : Cond.methodLink RJ4 29 yJ5_append_cf1ce ∈ z_tb ∨ ∃ host : String, Cond.methodLinkNest RJ4 29 yJ5_append_cf1ce host ∈ z_tn := Or.inl (z_w1 741 (Eq.refl _) (by decide +kernel))
set_option maxRecDepth 100000 in
theorem zlRJ4_50 : Cond.methodLink RJ4 50 yJ5_append_3fe6f ∈ z_tb ∨ ∃ host : String, Cond.methodLinkNest RJ4 50 yJ5_append_3fe6f host ∈ z_tn := Or.inl (z_w1 876 (Eq.refl _) (by decide +kernel))
set_option maxRecDepth 100000 in
theorem zlRJ4_53 : Cond.methodLink RJ4 53 yJ5_append_c97b9 ∈ z_tb ∨ ∃ host : String, Cond.methodLinkNest RJ4 53 yJ5_append_c97b9 host ∈ z_tn := Or.inl (z_w1 848 (Eq.refl _) (by decide +kernel))
set_option maxRecDepth 100000 in
theorem zlRJ4_137 : Cond.methodLink RJ4 137 yJ0_init_81219 ∈ z_tb ∨ ∃ host : String, Cond.methodLinkNest RJ4 137 yJ0_init_81219 host ∈ z_tn := Or.inl (z_w1 901 (Eq.refl _) (by decide +kernel))
set_option maxRecDepth 100000 in
theorem zlRJ4_343 : Cond.methodLink RJ4 343 yJ5_length_8abf5 ∈ z_tb ∨ ∃ host : String, Cond.methodLinkNest RJ4 343 yJ5_length_8abf5 host ∈ z_tn := Or.inl (z_w1 919 (Eq.refl _) (by decide +kernel))
set_option maxRecDepth 100000 in
theorem zlRJ1_9 : Cond.methodLink RJ1 9 yJ0_checkIndex_df160 ∈ z_tb ∨ ∃ host : String, Cond.methodLinkNest RJ1 9 yJ0_checkIndex_df160 host ∈ z_tn := Or.inl (z_w1 387 (Eq.refl _) (by decide +kernel))
set_option maxRecDepth 100000 in
theorem zlRJ7_304 : Cond.methodLink RJ7 304 yJ9_min_7cf53 ∈ z_tb ∨ ∃ host : String, Cond.methodLinkNest RJ7 304 yJ9_min_7cf53 host ∈ z_tn := Or.inl (z_w1 776 (Eq.refl _) (by decide +kernel))
set_option maxRecDepth 100000 in
theorem zlRJ7_339 : Cond.methodLink RJ7 339 yJ7_copyOfRangeByte_39247 ∈ z_tb ∨ ∃ host : String, Cond.methodLinkNest RJ7 339 yJ7_copyOfRangeByte_39247 host ∈ z_tn := Or.inl (z_w1 925 (Eq.refl _) (by decide +kernel))
set_option maxRecDepth 100000 in
theorem zlRJ7_343 : Cond.methodLink RJ7 343 yJ7_checkLength_df160 ∈ z_tb ∨ ∃ host : String, Cond.methodLinkNest RJ7 343 yJ7_checkLength_df160 host ∈ z_tn := Or.inl (z_w1 928 (Eq.refl _) (by decide +kernel))
set_option maxRecDepth 100000 in
theorem zlRJ8_194 : Cond.methodLink RJ8 194 yJ9_max_7cf53 ∈ z_tb ∨ ∃ host : String, Cond.methodLinkNest RJ8 194 yJ9_max_7cf53 host ∈ z_tn := Or.inl (z_w1 759 (Eq.refl _) (by decide +kernel))
set_option maxRecDepth 100000 in
theorem zlRJ8_201 : Cond.methodLink RJ8 201 yJ8_hugeLength_7cf53 ∈ z_tb ∨ ∃ host : String, Cond.methodLinkNest RJ8 201 yJ8_hugeLength_7cf53 host ∈ z_tn := Or.inl (z_w1 763 (Eq.refl _) (by decide +kernel))
set_option maxRecDepth 100000 in
theorem zoRX8_12 : z_fo RX8 12 8 0 (.object "TimeGaps$Plan") true := ⟨RX8, TX8, 9, tyX8, z_k8, by decide, rfl, rfl, rfl, z_w1 454 (Eq.refl _) (by decide +kernel)⟩
theorem zfRX8_12 : z_fl RX8 12 8 0 (.object "TimeGaps$Plan") true := zoRX8_12.fl
set_option maxRecDepth 100000 in
theorem zoRX8_19 : z_fo RX8 19 8 1 (.object "TimeGaps$Net") true := ⟨RX8, TX8, 9, tyX8, z_k8, by decide, rfl, rfl, rfl, z_w1 455 (Eq.refl _) (by decide +kernel)⟩
theorem zfRX8_19 : z_fl RX8 19 8 1 (.object "TimeGaps$Net") true := zoRX8_19.fl
set_option maxRecDepth 100000 in
theorem zoRX8_23 : z_fo RX8 23 8 2 (.object "TimeGaps$Net") true := ⟨RX8, TX8, 9, tyX8, z_k8, by decide, rfl, rfl, rfl, z_w1 456 (Eq.refl _) (by decide +kernel)⟩
theorem zfRX8_23 : z_fl RX8 23 8 2 (.object "TimeGaps$Net") true := zoRX8_23.fl
set_option maxRecDepth 100000 in
theorem zoRX8_29 : z_fo RX8 29 8 3 (.object "TimeGaps$History") true := ⟨RX8, TX8, 9, tyX8, z_k8, by decide, rfl, rfl, rfl, z_w1 457 (Eq.refl _) (by decide +kernel)⟩
theorem zfRX8_29 : z_fl RX8 29 8 3 (.object "TimeGaps$History") true := zoRX8_29.fl
set_option maxRecDepth 100000 in
theorem zoRX8_36 : z_fo RX8 36 8 4 (.object "TimeGaps$Slots") true := ⟨RX8, TX8, 9, tyX8, z_k8, by decide, rfl, rfl, rfl, z_w1 458 (Eq.refl _) (by decide +kernel)⟩
theorem zfRX8_36 : z_fl RX8 36 8 4 (.object "TimeGaps$Slots") true := zoRX8_36.fl
set_option maxRecDepth 100000 in
theorem zoRX8_43 : z_fo RX8 43 8 5 (.object "TimeGaps$SetupReader") true := ⟨RX8, TX8, 9, tyX8, z_k8, by decide, rfl, rfl, rfl, z_w1 459 (Eq.refl _) (by decide +kernel)⟩
theorem zfRX8_43 : z_fl RX8 43 8 5 (.object "TimeGaps$SetupReader") true := zoRX8_43.fl
theorem zfRX8_47 : z_fl RX8 47 4 0 (.object "TimeGaps$Tape") true := ⟨RX4, TX4, 6, tyX4, z_k4, by decide, rfl, rfl, Or.inr ⟨"TimeGaps", z_w2 319 (by decide +kernel) (by decide +kernel)⟩⟩
set_option maxRecDepth 100000 in
theorem zoRX8_51 : z_fo RX8 51 8 6 (.object "TimeGaps$Tape") true := ⟨RX8, TX8, 9, tyX8, z_k8, by decide, rfl, rfl, rfl, z_w1 460 (Eq.refl _) (by decide +kernel)⟩
theorem zfRX8_51 : z_fl RX8 51 8 6 (.object "TimeGaps$Tape") true := zoRX8_51.fl
set_option maxRecDepth 100000 in
theorem zoRX8_55 : z_fo RX8 55 8 7 (.object "TimeGaps$Text") true := ⟨RX8, TX8, 9, tyX8, z_k8, by decide, rfl, rfl, rfl, z_w1 461 (Eq.refl _) (by decide +kernel)⟩
theorem zfRX8_55 : z_fl RX8 55 8 7 (.object "TimeGaps$Text") true := zoRX8_55.fl
set_option maxRecDepth 100000 in
theorem zoRX8_59 : z_fo RX8 59 8 8 .int false := ⟨RX8, TX8, 9, tyX8, z_k8, by decide, rfl, rfl, rfl, z_w1 462 (Eq.refl _) (by decide +kernel)⟩
theorem zfRX8_59 : z_fl RX8 59 8 8 .int false := zoRX8_59.fl
theorem zfRX8_70 : z_fl RX8 70 6 1 .int false := ⟨RX6, TX6, 2, tyX6, z_k6, by decide, rfl, rfl, Or.inr ⟨"TimeGaps", z_w2 307 (by decide +kernel) (by decide +kernel)⟩⟩
theorem zfRX8_87 : z_fl RX8 87 4 1 (.object "TimeGaps$Plan") true := ⟨RX4, TX4, 6, tyX4, z_k4, by decide, rfl, rfl, Or.inr ⟨"TimeGaps", z_w2 321 (by decide +kernel) (by decide +kernel)⟩⟩
theorem zfRX8_96 : z_fl RX8 96 3 11 .int false := ⟨RX3, TX3, 12, tyX3, z_k3, by decide, rfl, rfl, Or.inr ⟨"TimeGaps", z_w2 201 (by decide +kernel) (by decide +kernel)⟩⟩
theorem zfRX8_102 : z_fl RX8 102 3 10 .int false := ⟨RX3, TX3, 12, tyX3, z_k3, by decide, rfl, rfl, Or.inr ⟨"TimeGaps", z_w2 196 (by decide +kernel) (by decide +kernel)⟩⟩
theorem zfRX8_124 : z_fl RX8 124 3 8 (.object "TimeGaps$Log") true := ⟨RX3, TX3, 12, tyX3, z_k3, by decide, rfl, rfl, Or.inr ⟨"TimeGaps", z_w2 187 (by decide +kernel) (by decide +kernel)⟩⟩
theorem zfRX8_141 : z_fl RX8 141 3 6 (.array .int) true := ⟨RX3, TX3, 12, tyX3, z_k3, by decide, rfl, rfl, Or.inr ⟨"TimeGaps", z_w2 181 (by decide +kernel) (by decide +kernel)⟩⟩
theorem zfRX8_151 : z_fl RX8 151 3 7 (.array .boolean) true := ⟨RX3, TX3, 12, tyX3, z_k3, by decide, rfl, rfl, Or.inr ⟨"TimeGaps", z_w2 185 (by decide +kernel) (by decide +kernel)⟩⟩
theorem zfRX8_176 : z_fl RX8 176 3 2 (.array .int) true := ⟨RX3, TX3, 12, tyX3, z_k3, by decide, rfl, rfl, Or.inr ⟨"TimeGaps", z_w2 164 (by decide +kernel) (by decide +kernel)⟩⟩
theorem zfRX8_185 : z_fl RX8 185 3 9 .int false := ⟨RX3, TX3, 12, tyX3, z_k3, by decide, rfl, rfl, Or.inr ⟨"TimeGaps", z_w2 192 (by decide +kernel) (by decide +kernel)⟩⟩
theorem zfRX8_195 : z_fl RX8 195 3 3 (.array .int) true := ⟨RX3, TX3, 12, tyX3, z_k3, by decide, rfl, rfl, Or.inr ⟨"TimeGaps", z_w2 169 (by decide +kernel) (by decide +kernel)⟩⟩
theorem zfRX8_198 : z_fl RX8 198 3 4 (.array .int) true := ⟨RX3, TX3, 12, tyX3, z_k3, by decide, rfl, rfl, Or.inr ⟨"TimeGaps", z_w2 173 (by decide +kernel) (by decide +kernel)⟩⟩
theorem zfRX8_204 : z_fl RX8 204 3 5 (.array .int) true := ⟨RX3, TX3, 12, tyX3, z_k3, by decide, rfl, rfl, Or.inr ⟨"TimeGaps", z_w2 177 (by decide +kernel) (by decide +kernel)⟩⟩
theorem zfRX8_226 : z_fl RX8 226 5 0 (.array (.object "TimeGaps$Plan")) true := ⟨RX5, TX5, 2, tyX5, z_k5, by decide, rfl, rfl, Or.inr ⟨"TimeGaps", z_w2 286 (by decide +kernel) (by decide +kernel)⟩⟩
theorem zfRX8_230 : z_fl RX8 230 5 1 (.array .boolean) true := ⟨RX5, TX5, 2, tyX5, z_k5, by decide, rfl, rfl, Or.inr ⟨"TimeGaps", z_w2 288 (by decide +kernel) (by decide +kernel)⟩⟩
theorem zfRX8_233 : z_fl RX8 233 0 2 .int false := ⟨RX0, TX0, 3, tyX0, z_k0, by decide, rfl, rfl, Or.inr ⟨"TimeGaps", z_w2 269 (by decide +kernel) (by decide +kernel)⟩⟩
theorem zfRX8_242 : z_fl RX8 242 2 5 .int false := ⟨RX2, TX2, 7, tyX2, z_k2, by decide, rfl, rfl, Or.inr ⟨"TimeGaps", z_w2 240 (by decide +kernel) (by decide +kernel)⟩⟩
theorem zfRX8_254 : z_fl RX8 254 1 2 .int false := ⟨RX1, TX1, 3, tyX1, z_k1, by decide, rfl, rfl, Or.inr ⟨"TimeGaps", z_w2 147 (by decide +kernel) (by decide +kernel)⟩⟩
theorem zfRX8_255 : z_fl RX8 255 3 1 (.array .int) true := ⟨RX3, TX3, 12, tyX3, z_k3, by decide, rfl, rfl, Or.inr ⟨"TimeGaps", z_w2 160 (by decide +kernel) (by decide +kernel)⟩⟩
theorem zfRX8_363 : z_fl RX8 363 7 1 .int false := ⟨RX7, TX7, 2, tyX7, z_k7, by decide, rfl, rfl, Or.inr ⟨"TimeGaps", z_w2 347 (by decide +kernel) (by decide +kernel)⟩⟩
set_option maxRecDepth 100000 in
theorem zoRX0_11 : z_fo RX0 11 0 0 (.array (.object "TimeGaps$Plan")) true := ⟨RX0, TX0, 3, tyX0, z_k0, by decide, rfl, rfl, rfl, z_w1 266 (Eq.refl _) (by decide +kernel)⟩
theorem zfRX0_11 : z_fl RX0 11 0 0 (.array (.object "TimeGaps$Plan")) true := zoRX0_11.fl
set_option maxRecDepth 100000 in
theorem zoRX0_18 : z_fo RX0 18 0 1 .int false := ⟨RX0, TX0, 3, tyX0, z_k0, by decide, rfl, rfl, rfl, z_w1 267 (Eq.refl _) (by decide +kernel)⟩
theorem zfRX0_18 : z_fl RX0 18 0 1 .int false := zoRX0_18.fl
set_option maxRecDepth 100000 in
theorem zoRX0_22 : z_fo RX0 22 0 2 .int false := ⟨RX0, TX0, 3, tyX0, z_k0, by decide, rfl, rfl, rfl, z_w1 268 (Eq.refl _) (by decide +kernel)⟩
theorem zfRX0_22 : z_fl RX0 22 0 2 .int false := zoRX0_22.fl
set_option maxRecDepth 100000 in
theorem zoRX1_11 : z_fo RX1 11 1 0 (.array .int) true := ⟨RX1, TX1, 3, tyX1, z_k1, by decide, rfl, rfl, rfl, z_w1 144 (Eq.refl _) (by decide +kernel)⟩
theorem zfRX1_11 : z_fl RX1 11 1 0 (.array .int) true := zoRX1_11.fl
set_option maxRecDepth 100000 in
theorem zoRX1_15 : z_fo RX1 15 1 1 .int false := ⟨RX1, TX1, 3, tyX1, z_k1, by decide, rfl, rfl, rfl, z_w1 145 (Eq.refl _) (by decide +kernel)⟩
theorem zfRX1_15 : z_fl RX1 15 1 1 .int false := zoRX1_15.fl
set_option maxRecDepth 100000 in
theorem zoRX1_19 : z_fo RX1 19 1 2 .int false := ⟨RX1, TX1, 3, tyX1, z_k1, by decide, rfl, rfl, rfl, z_w1 146 (Eq.refl _) (by decide +kernel)⟩
theorem zfRX1_19 : z_fl RX1 19 1 2 .int false := zoRX1_19.fl
set_option maxRecDepth 100000 in
theorem zoRX2_9 : z_fo RX2 9 2 0 (.array .int) true := ⟨RX2, TX2, 7, tyX2, z_k2, by decide, rfl, rfl, rfl, z_w1 234 (Eq.refl _) (by decide +kernel)⟩
theorem zfRX2_9 : z_fl RX2 9 2 0 (.array .int) true := zoRX2_9.fl
set_option maxRecDepth 100000 in
theorem zoRX2_15 : z_fo RX2 15 2 1 (.array .int) true := ⟨RX2, TX2, 7, tyX2, z_k2, by decide, rfl, rfl, rfl, z_w1 235 (Eq.refl _) (by decide +kernel)⟩
theorem zfRX2_15 : z_fl RX2 15 2 1 (.array .int) true := zoRX2_15.fl
set_option maxRecDepth 100000 in
theorem zoRX2_18 : z_fo RX2 18 2 2 (.array .int) true := ⟨RX2, TX2, 7, tyX2, z_k2, by decide, rfl, rfl, rfl, z_w1 236 (Eq.refl _) (by decide +kernel)⟩
theorem zfRX2_18 : z_fl RX2 18 2 2 (.array .int) true := zoRX2_18.fl
set_option maxRecDepth 100000 in
theorem zoRX2_21 : z_fo RX2 21 2 3 (.array .int) true := ⟨RX2, TX2, 7, tyX2, z_k2, by decide, rfl, rfl, rfl, z_w1 237 (Eq.refl _) (by decide +kernel)⟩
theorem zfRX2_21 : z_fl RX2 21 2 3 (.array .int) true := zoRX2_21.fl
set_option maxRecDepth 100000 in
theorem zoRX2_24 : z_fo RX2 24 2 4 (.array .int) true := ⟨RX2, TX2, 7, tyX2, z_k2, by decide, rfl, rfl, rfl, z_w1 238 (Eq.refl _) (by decide +kernel)⟩
theorem zfRX2_24 : z_fl RX2 24 2 4 (.array .int) true := zoRX2_24.fl
theorem zfRX2_27 : z_fl RX2 27 3 10 .int false := ⟨RX3, TX3, 12, tyX3, z_k3, by decide, rfl, rfl, Or.inr ⟨"TimeGaps", z_w2 193 (by decide +kernel) (by decide +kernel)⟩⟩
set_option maxRecDepth 100000 in
theorem zoRX2_33 : z_fo RX2 33 2 6 .int false := ⟨RX2, TX2, 7, tyX2, z_k2, by decide, rfl, rfl, rfl, z_w1 241 (Eq.refl _) (by decide +kernel)⟩
theorem zfRX2_33 : z_fl RX2 33 2 6 .int false := zoRX2_33.fl
set_option maxRecDepth 100000 in
theorem zoRX2_44 : z_fo RX2 44 2 5 .int false := ⟨RX2, TX2, 7, tyX2, z_k2, by decide, rfl, rfl, rfl, z_w1 239 (Eq.refl _) (by decide +kernel)⟩
theorem zfRX2_44 : z_fl RX2 44 2 5 .int false := zoRX2_44.fl
theorem zfRX2_47 : z_fl RX2 47 3 11 .int false := ⟨RX3, TX3, 12, tyX3, z_k3, by decide, rfl, rfl, Or.inr ⟨"TimeGaps", z_w2 199 (by decide +kernel) (by decide +kernel)⟩⟩
theorem zfRX2_50 : z_fl RX2 50 3 7 (.array .boolean) true := ⟨RX3, TX3, 12, tyX3, z_k3, by decide, rfl, rfl, Or.inr ⟨"TimeGaps", z_w2 183 (by decide +kernel) (by decide +kernel)⟩⟩
theorem zfRX2_54 : z_fl RX2 54 3 3 (.array .int) true := ⟨RX3, TX3, 12, tyX3, z_k3, by decide, rfl, rfl, Or.inr ⟨"TimeGaps", z_w2 167 (by decide +kernel) (by decide +kernel)⟩⟩
theorem zfRX2_57 : z_fl RX2 57 3 4 (.array .int) true := ⟨RX3, TX3, 12, tyX3, z_k3, by decide, rfl, rfl, Or.inr ⟨"TimeGaps", z_w2 171 (by decide +kernel) (by decide +kernel)⟩⟩
theorem zfRX2_60 : z_fl RX2 60 3 5 (.array .int) true := ⟨RX3, TX3, 12, tyX3, z_k3, by decide, rfl, rfl, Or.inr ⟨"TimeGaps", z_w2 175 (by decide +kernel) (by decide +kernel)⟩⟩
theorem zfRX2_70 : z_fl RX2 70 3 6 (.array .int) true := ⟨RX3, TX3, 12, tyX3, z_k3, by decide, rfl, rfl, Or.inr ⟨"TimeGaps", z_w2 179 (by decide +kernel) (by decide +kernel)⟩⟩
theorem zfRX2_81 : z_fl RX2 81 3 9 .int false := ⟨RX3, TX3, 12, tyX3, z_k3, by decide, rfl, rfl, Or.inr ⟨"TimeGaps", z_w2 189 (by decide +kernel) (by decide +kernel)⟩⟩
theorem zfRX2_88 : z_fl RX2 88 3 2 (.array .int) true := ⟨RX3, TX3, 12, tyX3, z_k3, by decide, rfl, rfl, Or.inr ⟨"TimeGaps", z_w2 162 (by decide +kernel) (by decide +kernel)⟩⟩
set_option maxRecDepth 100000 in
theorem zoRX3_9 : z_fo RX3 9 3 0 (.array .int) true := ⟨RX3, TX3, 12, tyX3, z_k3, by decide, rfl, rfl, rfl, z_w1 157 (Eq.refl _) (by decide +kernel)⟩
theorem zfRX3_9 : z_fl RX3 9 3 0 (.array .int) true := zoRX3_9.fl
set_option maxRecDepth 100000 in
theorem zoRX3_15 : z_fo RX3 15 3 1 (.array .int) true := ⟨RX3, TX3, 12, tyX3, z_k3, by decide, rfl, rfl, rfl, z_w1 158 (Eq.refl _) (by decide +kernel)⟩
theorem zfRX3_15 : z_fl RX3 15 3 1 (.array .int) true := zoRX3_15.fl
set_option maxRecDepth 100000 in
theorem zoRX3_18 : z_fo RX3 18 3 2 (.array .int) true := ⟨RX3, TX3, 12, tyX3, z_k3, by decide, rfl, rfl, rfl, z_w1 161 (Eq.refl _) (by decide +kernel)⟩
theorem zfRX3_18 : z_fl RX3 18 3 2 (.array .int) true := zoRX3_18.fl
set_option maxRecDepth 100000 in
theorem zoRX3_21 : z_fo RX3 21 3 3 (.array .int) true := ⟨RX3, TX3, 12, tyX3, z_k3, by decide, rfl, rfl, rfl, z_w1 166 (Eq.refl _) (by decide +kernel)⟩
theorem zfRX3_21 : z_fl RX3 21 3 3 (.array .int) true := zoRX3_21.fl
set_option maxRecDepth 100000 in
theorem zoRX3_24 : z_fo RX3 24 3 4 (.array .int) true := ⟨RX3, TX3, 12, tyX3, z_k3, by decide, rfl, rfl, rfl, z_w1 170 (Eq.refl _) (by decide +kernel)⟩
theorem zfRX3_24 : z_fl RX3 24 3 4 (.array .int) true := zoRX3_24.fl
set_option maxRecDepth 100000 in
theorem zoRX3_27 : z_fo RX3 27 3 5 (.array .int) true := ⟨RX3, TX3, 12, tyX3, z_k3, by decide, rfl, rfl, rfl, z_w1 174 (Eq.refl _) (by decide +kernel)⟩
theorem zfRX3_27 : z_fl RX3 27 3 5 (.array .int) true := zoRX3_27.fl
set_option maxRecDepth 100000 in
theorem zoRX3_30 : z_fo RX3 30 3 6 (.array .int) true := ⟨RX3, TX3, 12, tyX3, z_k3, by decide, rfl, rfl, rfl, z_w1 178 (Eq.refl _) (by decide +kernel)⟩
theorem zfRX3_30 : z_fl RX3 30 3 6 (.array .int) true := zoRX3_30.fl
set_option maxRecDepth 100000 in
theorem zoRX3_33 : z_fo RX3 33 3 7 (.array .boolean) true := ⟨RX3, TX3, 12, tyX3, z_k3, by decide, rfl, rfl, rfl, z_w1 182 (Eq.refl _) (by decide +kernel)⟩
theorem zfRX3_33 : z_fl RX3 33 3 7 (.array .boolean) true := zoRX3_33.fl
set_option maxRecDepth 100000 in
theorem zoRX3_40 : z_fo RX3 40 3 8 (.object "TimeGaps$Log") true := ⟨RX3, TX3, 12, tyX3, z_k3, by decide, rfl, rfl, rfl, z_w1 186 (Eq.refl _) (by decide +kernel)⟩
theorem zfRX3_40 : z_fl RX3 40 3 8 (.object "TimeGaps$Log") true := zoRX3_40.fl
set_option maxRecDepth 100000 in
theorem zoRX3_44 : z_fo RX3 44 3 9 .int false := ⟨RX3, TX3, 12, tyX3, z_k3, by decide, rfl, rfl, rfl, z_w1 188 (Eq.refl _) (by decide +kernel)⟩
theorem zfRX3_44 : z_fl RX3 44 3 9 .int false := zoRX3_44.fl
set_option maxRecDepth 100000 in
theorem zoRX3_48 : z_fo RX3 48 3 10 .int false := ⟨RX3, TX3, 12, tyX3, z_k3, by decide, rfl, rfl, rfl, z_w1 194 (Eq.refl _) (by decide +kernel)⟩
theorem zfRX3_48 : z_fl RX3 48 3 10 .int false := zoRX3_48.fl
set_option maxRecDepth 100000 in
theorem zoRX3_51 : z_fo RX3 51 3 11 .int false := ⟨RX3, TX3, 12, tyX3, z_k3, by decide, rfl, rfl, rfl, z_w1 198 (Eq.refl _) (by decide +kernel)⟩
theorem zfRX3_51 : z_fl RX3 51 3 11 .int false := zoRX3_51.fl
set_option maxRecDepth 100000 in
theorem zoRX4_12 : z_fo RX4 12 4 0 (.object "TimeGaps$Tape") true := ⟨RX4, TX4, 6, tyX4, z_k4, by decide, rfl, rfl, rfl, z_w1 318 (Eq.refl _) (by decide +kernel)⟩
theorem zfRX4_12 : z_fl RX4 12 4 0 (.object "TimeGaps$Tape") true := zoRX4_12.fl
set_option maxRecDepth 100000 in
theorem zoRX4_21 : z_fo RX4 21 4 1 (.object "TimeGaps$Plan") true := ⟨RX4, TX4, 6, tyX4, z_k4, by decide, rfl, rfl, rfl, z_w1 320 (Eq.refl _) (by decide +kernel)⟩
theorem zfRX4_21 : z_fl RX4 21 4 1 (.object "TimeGaps$Plan") true := zoRX4_21.fl
set_option maxRecDepth 100000 in
theorem zoRX4_28 : z_fo RX4 28 4 2 (.object "TimeGaps$Net") true := ⟨RX4, TX4, 6, tyX4, z_k4, by decide, rfl, rfl, rfl, z_w1 322 (Eq.refl _) (by decide +kernel)⟩
theorem zfRX4_28 : z_fl RX4 28 4 2 (.object "TimeGaps$Net") true := zoRX4_28.fl
set_option maxRecDepth 100000 in
theorem zoRX4_35 : z_fo RX4 35 4 4 .int false := ⟨RX4, TX4, 6, tyX4, z_k4, by decide, rfl, rfl, rfl, z_w1 324 (Eq.refl _) (by decide +kernel)⟩
theorem zfRX4_35 : z_fl RX4 35 4 4 .int false := zoRX4_35.fl
set_option maxRecDepth 100000 in
theorem zoRX4_39 : z_fo RX4 39 4 5 .int false := ⟨RX4, TX4, 6, tyX4, z_k4, by decide, rfl, rfl, rfl, z_w1 325 (Eq.refl _) (by decide +kernel)⟩
theorem zfRX4_39 : z_fl RX4 39 4 5 .int false := zoRX4_39.fl
set_option maxRecDepth 100000 in
theorem zoRX4_72 : z_fo RX4 72 4 3 .int false := ⟨RX4, TX4, 6, tyX4, z_k4, by decide, rfl, rfl, rfl, z_w1 323 (Eq.refl _) (by decide +kernel)⟩
theorem zfRX4_72 : z_fl RX4 72 4 3 .int false := zoRX4_72.fl
theorem zfRX4_116 : z_fl RX4 116 3 9 .int false := ⟨RX3, TX3, 12, tyX3, z_k3, by decide, rfl, rfl, Or.inr ⟨"TimeGaps", z_w2 191 (by decide +kernel) (by decide +kernel)⟩⟩
theorem zfRX4_122 : z_fl RX4 122 3 10 .int false := ⟨RX3, TX3, 12, tyX3, z_k3, by decide, rfl, rfl, Or.inr ⟨"TimeGaps", z_w2 197 (by decide +kernel) (by decide +kernel)⟩⟩
theorem zfRX4_135 : z_fl RX4 135 3 11 .int false := ⟨RX3, TX3, 12, tyX3, z_k3, by decide, rfl, rfl, Or.inr ⟨"TimeGaps", z_w2 202 (by decide +kernel) (by decide +kernel)⟩⟩
theorem zfRX4_161 : z_fl RX4 161 3 2 (.array .int) true := ⟨RX3, TX3, 12, tyX3, z_k3, by decide, rfl, rfl, Or.inr ⟨"TimeGaps", z_w2 165 (by decide +kernel) (by decide +kernel)⟩⟩
set_option maxRecDepth 100000 in
theorem zoRX5_11 : z_fo RX5 11 5 0 (.array (.object "TimeGaps$Plan")) true := ⟨RX5, TX5, 2, tyX5, z_k5, by decide, rfl, rfl, rfl, z_w1 285 (Eq.refl _) (by decide +kernel)⟩
theorem zfRX5_11 : z_fl RX5 11 5 0 (.array (.object "TimeGaps$Plan")) true := zoRX5_11.fl
set_option maxRecDepth 100000 in
theorem zoRX5_17 : z_fo RX5 17 5 1 (.array .boolean) true := ⟨RX5, TX5, 2, tyX5, z_k5, by decide, rfl, rfl, rfl, z_w1 287 (Eq.refl _) (by decide +kernel)⟩
theorem zfRX5_17 : z_fl RX5 17 5 1 (.array .boolean) true := zoRX5_17.fl
set_option maxRecDepth 100000 in
theorem zoRX6_9 : z_fo RX6 9 6 0 (.array .int) true := ⟨RX6, TX6, 2, tyX6, z_k6, by decide, rfl, rfl, rfl, z_w1 306 (Eq.refl _) (by decide +kernel)⟩
theorem zfRX6_9 : z_fl RX6 9 6 0 (.array .int) true := zoRX6_9.fl
set_option maxRecDepth 100000 in
theorem zoRX6_15 : z_fo RX6 15 6 1 .int false := ⟨RX6, TX6, 2, tyX6, z_k6, by decide, rfl, rfl, rfl, z_w1 308 (Eq.refl _) (by decide +kernel)⟩
theorem zfRX6_15 : z_fl RX6 15 6 1 .int false := zoRX6_15.fl
set_option maxRecDepth 100000 in
theorem zoRX7_9 : z_fo RX7 9 7 0 (.array .int) true := ⟨RX7, TX7, 2, tyX7, z_k7, by decide, rfl, rfl, rfl, z_w1 345 (Eq.refl _) (by decide +kernel)⟩
theorem zfRX7_9 : z_fl RX7 9 7 0 (.array .int) true := zoRX7_9.fl
set_option maxRecDepth 100000 in
theorem zoRX7_15 : z_fo RX7 15 7 1 .int false := ⟨RX7, TX7, 2, tyX7, z_k7, by decide, rfl, rfl, rfl, z_w1 346 (Eq.refl _) (by decide +kernel)⟩
theorem zfRX7_15 : z_fl RX7 15 7 1 .int false := zoRX7_15.fl
theorem zfRX7_19 : z_fl RX7 19 3 10 .int false := ⟨RX3, TX3, 12, tyX3, z_k3, by decide, rfl, rfl, Or.inr ⟨"TimeGaps", z_w2 195 (by decide +kernel) (by decide +kernel)⟩⟩
theorem zfRX7_54 : z_fl RX7 54 3 9 .int false := ⟨RX3, TX3, 12, tyX3, z_k3, by decide, rfl, rfl, Or.inr ⟨"TimeGaps", z_w2 190 (by decide +kernel) (by decide +kernel)⟩⟩
theorem zfRX7_59 : z_fl RX7 59 3 11 .int false := ⟨RX3, TX3, 12, tyX3, z_k3, by decide, rfl, rfl, Or.inr ⟨"TimeGaps", z_w2 200 (by decide +kernel) (by decide +kernel)⟩⟩
theorem zfRX7_67 : z_fl RX7 67 3 2 (.array .int) true := ⟨RX3, TX3, 12, tyX3, z_k3, by decide, rfl, rfl, Or.inr ⟨"TimeGaps", z_w2 163 (by decide +kernel) (by decide +kernel)⟩⟩
theorem zfRX7_72 : z_fl RX7 72 3 3 (.array .int) true := ⟨RX3, TX3, 12, tyX3, z_k3, by decide, rfl, rfl, Or.inr ⟨"TimeGaps", z_w2 168 (by decide +kernel) (by decide +kernel)⟩⟩
theorem zfRX7_75 : z_fl RX7 75 3 4 (.array .int) true := ⟨RX3, TX3, 12, tyX3, z_k3, by decide, rfl, rfl, Or.inr ⟨"TimeGaps", z_w2 172 (by decide +kernel) (by decide +kernel)⟩⟩
theorem zfRX7_78 : z_fl RX7 78 3 5 (.array .int) true := ⟨RX3, TX3, 12, tyX3, z_k3, by decide, rfl, rfl, Or.inr ⟨"TimeGaps", z_w2 176 (by decide +kernel) (by decide +kernel)⟩⟩
theorem zfRX7_85 : z_fl RX7 85 3 6 (.array .int) true := ⟨RX3, TX3, 12, tyX3, z_k3, by decide, rfl, rfl, Or.inr ⟨"TimeGaps", z_w2 180 (by decide +kernel) (by decide +kernel)⟩⟩
theorem zfRX7_88 : z_fl RX7 88 3 7 (.array .boolean) true := ⟨RX3, TX3, 12, tyX3, z_k3, by decide, rfl, rfl, Or.inr ⟨"TimeGaps", z_w2 184 (by decide +kernel) (by decide +kernel)⟩⟩
theorem zfRX7_94 : z_fl RX7 94 3 1 (.array .int) true := ⟨RX3, TX3, 12, tyX3, z_k3, by decide, rfl, rfl, Or.inr ⟨"TimeGaps", z_w2 159 (by decide +kernel) (by decide +kernel)⟩⟩
set_option maxRecDepth 100000 in
theorem zoRJ5_15 : z_fo RJ5 15 10 0 (.array .byte) false := ⟨RJ4, TJ4, 4, tyJ4, z_k10, by decide, rfl, rfl, rfl, z_w1 832 (Eq.refl _) (by decide +kernel)⟩
theorem zfRJ5_15 : z_fl RJ5 15 10 0 (.array .byte) false := zoRJ5_15.fl
set_option maxRecDepth 100000 in
theorem zoRJ5_22 : z_fo RJ5 22 10 1 .byte false := ⟨RJ4, TJ4, 4, tyJ4, z_k10, by decide, rfl, rfl, rfl, z_w1 833 (Eq.refl _) (by decide +kernel)⟩
theorem zfRJ5_22 : z_fl RJ5 22 10 1 .byte false := zoRJ5_22.fl
set_option maxRecDepth 100000 in
theorem zoRJ5_79 : z_fo RJ5 79 10 3 .int false := ⟨RJ4, TJ4, 4, tyJ4, z_k10, by decide, rfl, rfl, rfl, z_w1 835 (Eq.refl _) (by decide +kernel)⟩
theorem zfRJ5_79 : z_fl RJ5 79 10 3 .int false := zoRJ5_79.fl
set_option maxRecDepth 100000 in
theorem zoRJ0_9 : z_fo RJ0 9 9 0 (.array .byte) true := ⟨RJ0, TJ0, 4, tyJ0, z_k9, by decide, rfl, rfl, rfl, z_w1 941 (Eq.refl _) (by decide +kernel)⟩
theorem zfRJ0_9 : z_fl RJ0 9 9 0 (.array .byte) true := zoRJ0_9.fl
set_option maxRecDepth 100000 in
theorem zoRJ0_15 : z_fo RJ0 15 9 1 .byte true := ⟨RJ0, TJ0, 4, tyJ0, z_k9, by decide, rfl, rfl, rfl, z_w1 942 (Eq.refl _) (by decide +kernel)⟩
theorem zfRJ0_15 : z_fl RJ0 15 9 1 .byte true := zoRJ0_15.fl
set_option maxRecDepth 100000 in
theorem zfRJ0_1048 : z_fl RJ0 1048 10 2 .boolean false := ⟨RJ4, TJ4, 4, tyJ4, z_k10, by decide, rfl, rfl, Or.inl (z_w1 834 (Eq.refl _) (by decide +kernel))⟩
set_option maxRecDepth 100000 in
theorem zkRX8_285 : Cond.constant RX8 285 (-100000) ∈ z_tb := z_w1 1209 (Eq.refl _) (by decide +kernel)
set_option maxRecDepth 100000 in
theorem zkRX2_91 : Cond.constant RX2 91 (268435456) ∈ z_tb := z_w1 443 (Eq.refl _) (by decide +kernel)
set_option maxRecDepth 100000 in
theorem zkRL_7 : Cond.constant RL 7 (1103515245) ∈ z_tb := z_w1 709 (Eq.refl _) (by decide +kernel)
set_option maxRecDepth 100000 in
theorem zkRL_268 : Cond.constant RL 268 (-100000) ∈ z_tb := z_w1 1401 (Eq.refl _) (by decide +kernel)
set_option maxRecDepth 100000 in
theorem zkRJ5_38 : Cond.constant RJ5 38 (2147483631) ∈ z_tb := z_w1 721 (Eq.refl _) (by decide +kernel)
set_option maxRecDepth 100000 in
theorem zkRJ5_39 : Cond.constant RJ5 39 (2147483647) ∈ z_tb := z_w1 722 (Eq.refl _) (by decide +kernel)
set_option maxRecDepth 100000 in
theorem zkRJ2_20 : Cond.constant RJ2 20 (1073741823) ∈ z_tb := z_w1 730 (Eq.refl _) (by decide +kernel)
set_option maxRecDepth 100000 in
theorem zkRJ8_200 : Cond.constant RJ8 200 (2147483639) ∈ z_tb := z_w1 762 (Eq.refl _) (by decide +kernel)
set_option maxRecDepth 100000 in
theorem zcRX8_9 : Cond.classLink RX8 9 RX3 ∈ z_tb := z_w1 132 (Eq.refl _) (by decide +kernel)
set_option maxRecDepth 100000 in
theorem zcRX8_16 : Cond.classLink RX8 16 RX2 ∈ z_tb := z_w1 228 (Eq.refl _) (by decide +kernel)
set_option maxRecDepth 100000 in
theorem zcRX8_26 : Cond.classLink RX8 26 RX0 ∈ z_tb := z_w1 257 (Eq.refl _) (by decide +kernel)
set_option maxRecDepth 100000 in
theorem zcRX8_33 : Cond.classLink RX8 33 RX5 ∈ z_tb := z_w1 277 (Eq.refl _) (by decide +kernel)
set_option maxRecDepth 100000 in
theorem zcRX8_40 : Cond.classLink RX8 40 RX4 ∈ z_tb := z_w1 294 (Eq.refl _) (by decide +kernel)
set_option maxRecDepth 100000 in
theorem zcRX8_52 : Cond.classLink RX8 52 RX7 ∈ z_tb := z_w1 339 (Eq.refl _) (by decide +kernel)
set_option maxRecDepth 100000 in
theorem zcRX0_9 : Cond.classLink RX0 9 RX3 ∈ z_tb := z_w1 263 (Eq.refl _) (by decide +kernel)
set_option maxRecDepth 100000 in
theorem zcRX3_37 : Cond.classLink RX3 37 RX1 ∈ z_tb := z_w1 138 (Eq.refl _) (by decide +kernel)
set_option maxRecDepth 100000 in
theorem zcRX4_9 : Cond.classLink RX4 9 RX6 ∈ z_tb := z_w1 300 (Eq.refl _) (by decide +kernel)
set_option maxRecDepth 100000 in
theorem zcRX4_18 : Cond.classLink RX4 18 RX3 ∈ z_tb := z_w1 314 (Eq.refl _) (by decide +kernel)
set_option maxRecDepth 100000 in
theorem zcRX4_25 : Cond.classLink RX4 25 RX2 ∈ z_tb := z_w1 316 (Eq.refl _) (by decide +kernel)
set_option maxRecDepth 100000 in
theorem zcRX5_9 : Cond.classLink RX5 9 RX3 ∈ z_tb := z_w1 283 (Eq.refl _) (by decide +kernel)
set_option maxRecDepth 100000 in
theorem zcRL_9 : Cond.classLink RL 9 RX8 ∈ z_tb := z_w1 124 (Eq.refl _) (by decide +kernel)
set_option maxRecDepth 100000 in
theorem zcRL_40 : Cond.classLink RL 40 RJ4 ∈ z_tb := z_w1 710 (Eq.refl _) (by decide +kernel)
set_option maxRecDepth 100000 in
theorem zcRJ4_18 : Cond.classLink RJ4 18 RJ0 ∈ z_tb := z_w1 899 (Eq.refl _) (by decide +kernel)
set_option maxRecDepth 100000 in
theorem ziRX8 : Cond.instantiable RX8 9 ∈ z_tb := z_w1 125 (Eq.refl _) (by decide +kernel)
set_option maxRecDepth 100000 in
theorem ziRX0 : Cond.instantiable RX0 3 ∈ z_tb := z_w1 258 (Eq.refl _) (by decide +kernel)
set_option maxRecDepth 100000 in
theorem ziRX1 : Cond.instantiable RX1 3 ∈ z_tb := z_w1 139 (Eq.refl _) (by decide +kernel)
set_option maxRecDepth 100000 in
theorem ziRX2 : Cond.instantiable RX2 7 ∈ z_tb := z_w1 229 (Eq.refl _) (by decide +kernel)
set_option maxRecDepth 100000 in
theorem ziRX3 : Cond.instantiable RX3 12 ∈ z_tb := z_w1 133 (Eq.refl _) (by decide +kernel)
set_option maxRecDepth 100000 in
theorem ziRX4 : Cond.instantiable RX4 6 ∈ z_tb := z_w1 295 (Eq.refl _) (by decide +kernel)
set_option maxRecDepth 100000 in
theorem ziRX5 : Cond.instantiable RX5 2 ∈ z_tb := z_w1 278 (Eq.refl _) (by decide +kernel)
set_option maxRecDepth 100000 in
theorem ziRX6 : Cond.instantiable RX6 2 ∈ z_tb := z_w1 301 (Eq.refl _) (by decide +kernel)
set_option maxRecDepth 100000 in
theorem ziRX7 : Cond.instantiable RX7 2 ∈ z_tb := z_w1 340 (Eq.refl _) (by decide +kernel)
set_option maxRecDepth 100000 in
theorem ziRJ0 : Cond.instantiable RJ0 4 ∈ z_tb := z_w1 900 (Eq.refl _) (by decide +kernel)
set_option maxRecDepth 100000 in
theorem ziRJ4 : Cond.instantiable RJ4 4 ∈ z_tb := z_w1 711 (Eq.refl _) (by decide +kernel)
set_option maxRecDepth 100000 in
theorem zIRX8 : Cond.initialized RX8 ∈ z_tb := z_w1 104 (Eq.refl _) (by decide +kernel)
set_option maxRecDepth 100000 in
theorem zIRX0 : Cond.initialized RX0 ∈ z_tb := z_w1 108 (Eq.refl _) (by decide +kernel)
set_option maxRecDepth 100000 in
theorem zIRX1 : Cond.initialized RX1 ∈ z_tb := z_w1 106 (Eq.refl _) (by decide +kernel)
set_option maxRecDepth 100000 in
theorem zIRX2 : Cond.initialized RX2 ∈ z_tb := z_w1 107 (Eq.refl _) (by decide +kernel)
set_option maxRecDepth 100000 in
theorem zIRX3 : Cond.initialized RX3 ∈ z_tb := z_w1 105 (Eq.refl _) (by decide +kernel)
set_option maxRecDepth 100000 in
theorem zIRX4 : Cond.initialized RX4 ∈ z_tb := z_w1 110 (Eq.refl _) (by decide +kernel)
set_option maxRecDepth 100000 in
theorem zIRX5 : Cond.initialized RX5 ∈ z_tb := z_w1 109 (Eq.refl _) (by decide +kernel)
set_option maxRecDepth 100000 in
theorem zIRX6 : Cond.initialized RX6 ∈ z_tb := z_w1 111 (Eq.refl _) (by decide +kernel)
set_option maxRecDepth 100000 in
theorem zIRX7 : Cond.initialized RX7 ∈ z_tb := z_w1 112 (Eq.refl _) (by decide +kernel)
set_option maxRecDepth 100000 in
theorem zIRL : Cond.initialized RL ∈ z_tb := z_w1 103 (Eq.refl _) (by decide +kernel)
set_option maxRecDepth 100000 in
theorem zIRJ5 : Cond.initialized RJ5 ∈ z_tb := z_w1 118 (Eq.refl _) (by decide +kernel)
set_option maxRecDepth 100000 in
theorem zIRJ6 : Cond.initialized RJ6 ∈ z_tb := z_w1 123 (Eq.refl _) (by decide +kernel)
set_option maxRecDepth 100000 in
theorem zIRJ9 : Cond.initialized RJ9 ∈ z_tb := z_w1 117 (Eq.refl _) (by decide +kernel)
set_option maxRecDepth 100000 in
theorem zIRJ0 : Cond.initialized RJ0 ∈ z_tb := z_w1 113 (Eq.refl _) (by decide +kernel)
set_option maxRecDepth 100000 in
theorem zIRJ4 : Cond.initialized RJ4 ∈ z_tb := z_w1 119 (Eq.refl _) (by decide +kernel)
set_option maxRecDepth 100000 in
theorem zIRJ1 : Cond.initialized RJ1 ∈ z_tb := z_w1 114 (Eq.refl _) (by decide +kernel)
set_option maxRecDepth 100000 in
theorem zIRJ2 : Cond.initialized RJ2 ∈ z_tb := z_w1 116 (Eq.refl _) (by decide +kernel)
set_option maxRecDepth 100000 in
theorem zIRJ10 : Cond.initialized RJ10 ∈ z_tb := z_w1 122 (Eq.refl _) (by decide +kernel)
set_option maxRecDepth 100000 in
theorem zIRJ7 : Cond.initialized RJ7 ∈ z_tb := z_w1 121 (Eq.refl _) (by decide +kernel)
set_option maxRecDepth 100000 in
theorem zIRJ8 : Cond.initialized RJ8 ∈ z_tb := z_w1 120 (Eq.refl _) (by decide +kernel)
set_option maxRecDepth 100000 in
theorem zIRJ3 : Cond.initialized RJ3 ∈ z_tb := z_w1 115 (Eq.refl _) (by decide +kernel)
set_option maxRecDepth 100000 in
theorem z_awi : Cond.arrayClass (newarray.typeOf .int) ∈ z_tb := z_w1 155 (Eq.refl _) (by decide +kernel)
set_option maxRecDepth 100000 in
theorem z_awz : Cond.arrayClass (newarray.typeOf .boolean) ∈ z_tb := z_w1 156 (Eq.refl _) (by decide +kernel)
set_option maxRecDepth 100000 in
theorem z_awb : Cond.arrayClass (newarray.typeOf .byte) ∈ z_tb := z_w1 482 (Eq.refl _) (by decide +kernel)
set_option maxRecDepth 100000 in
theorem z_oin : Cond.instanceMethod Lib.objectInit ∈ z_tb := z_w1 130 (Eq.refl _) (by decide +kernel)
set_option maxRecDepth 100000 in
theorem z_oco : Cond.code Lib.objectInit ⟨#[0xb1]⟩ 1 none ∈ z_tb := z_w1 131 (Eq.refl _) (by decide +kernel)
set_option maxRecDepth 100000 in
theorem zORX8_3 : Cond.methodLink RX8 3 Lib.objectInit ∈ z_tb := z_w1 129 (Eq.refl _) (by decide +kernel)
set_option maxRecDepth 100000 in
theorem zORX0_3 : Cond.methodLink RX0 3 Lib.objectInit ∈ z_tb := z_w1 262 (Eq.refl _) (by decide +kernel)
set_option maxRecDepth 100000 in
theorem zORX1_3 : Cond.methodLink RX1 3 Lib.objectInit ∈ z_tb := z_w1 143 (Eq.refl _) (by decide +kernel)
set_option maxRecDepth 100000 in
theorem zARX1_22 : Cond.methodLink RX1 22 arraycopyName ∈ z_tb := z_w1 690 (Eq.refl _) (by decide +kernel)
set_option maxRecDepth 100000 in
theorem zORX2_3 : Cond.methodLink RX2 3 Lib.objectInit ∈ z_tb := z_w1 233 (Eq.refl _) (by decide +kernel)
set_option maxRecDepth 100000 in
theorem zARX2_101 : Cond.methodLink RX2 101 arraycopyName ∈ z_tb := z_w1 1126 (Eq.refl _) (by decide +kernel)
set_option maxRecDepth 100000 in
theorem zORX3_3 : Cond.methodLink RX3 3 Lib.objectInit ∈ z_tb := z_w1 137 (Eq.refl _) (by decide +kernel)
set_option maxRecDepth 100000 in
theorem zARX3_72 : Cond.methodLink RX3 72 arraycopyName ∈ z_tb := z_w1 683 (Eq.refl _) (by decide +kernel)
set_option maxRecDepth 100000 in
theorem zORX4_3 : Cond.methodLink RX4 3 Lib.objectInit ∈ z_tb := z_w1 299 (Eq.refl _) (by decide +kernel)
set_option maxRecDepth 100000 in
theorem zORX5_3 : Cond.methodLink RX5 3 Lib.objectInit ∈ z_tb := z_w1 282 (Eq.refl _) (by decide +kernel)
set_option maxRecDepth 100000 in
theorem zORX6_3 : Cond.methodLink RX6 3 Lib.objectInit ∈ z_tb := z_w1 305 (Eq.refl _) (by decide +kernel)
set_option maxRecDepth 100000 in
theorem zORX7_3 : Cond.methodLink RX7 3 Lib.objectInit ∈ z_tb := z_w1 344 (Eq.refl _) (by decide +kernel)
set_option maxRecDepth 100000 in
theorem zORJ5_3 : Cond.methodLink RJ5 3 Lib.objectInit ∈ z_tb := z_w1 719 (Eq.refl _) (by decide +kernel)
set_option maxRecDepth 100000 in
theorem zORJ0_1 : Cond.methodLink RJ0 1 Lib.objectInit ∈ z_tb := z_w1 907 (Eq.refl _) (by decide +kernel)
set_option maxRecDepth 100000 in
theorem zARJ0_212 : Cond.methodLink RJ0 212 arraycopyName ∈ z_tb := z_w1 830 (Eq.refl _) (by decide +kernel)
set_option maxRecDepth 100000 in
theorem zARJ7_150 : Cond.methodLink RJ7 150 arraycopyName ∈ z_tb := z_w1 777 (Eq.refl _) (by decide +kernel)
set_option maxRecDepth 100000 in
theorem zl_cpn : Cond.native arraycopyName ∈ z_tb := z_w1 685 (Eq.refl _) (by decide +kernel)
set_option maxRecDepth 100000 in
theorem zl_cps : Cond.static arraycopyName ∈ z_tb := z_w1 684 (Eq.refl _) (by decide +kernel)
set_option maxRecDepth 100000 in
theorem zl_cpi : Cond.initialized "java/lang/System" ∈ z_tb := z_w1 122 (Eq.refl _) (by decide +kernel)
set_option maxRecDepth 100000 in
theorem zgRJ5_18 : Cond.fieldLink RJ5 18 "java/lang/String" "COMPACT_STRINGS" "Z" ∈ z_tb := z_w1 783 (Eq.refl _) (by decide +kernel)
set_option maxRecDepth 100000 in
theorem zgRJ6_83 : Cond.fieldLink RJ6 83 "java/lang/Integer" "DigitOnes" "[B" ∈ z_tb := z_w1 857 (Eq.refl _) (by decide +kernel)
set_option maxRecDepth 100000 in
theorem zgRJ6_87 : Cond.fieldLink RJ6 87 "java/lang/Integer" "DigitTens" "[B" ∈ z_tb := z_w1 859 (Eq.refl _) (by decide +kernel)
set_option maxRecDepth 100000 in
theorem zgRJ0_38 : Cond.fieldLink RJ0 38 "java/lang/String" "COMPACT_STRINGS" "Z" ∈ z_tb := z_w1 374 (Eq.refl _) (by decide +kernel)
set_option maxRecDepth 100000 in
theorem zgRJ0_1053 : Cond.fieldLink RJ0 1053 "jdk/internal/util/Preconditions" "SIOOBE_FORMATTER" "Ljava/util/function/BiFunction;" ∈ z_tb := z_w1 390 (Eq.refl _) (by decide +kernel)
set_option maxRecDepth 100000 in
theorem zgRJ2_403 : Cond.fieldLink RJ2 403 "java/lang/Integer" "DigitOnes" "[B" ∈ z_tb := z_w1 867 (Eq.refl _) (by decide +kernel)
set_option maxRecDepth 100000 in
theorem zgRJ2_407 : Cond.fieldLink RJ2 407 "java/lang/Integer" "DigitTens" "[B" ∈ z_tb := z_w1 868 (Eq.refl _) (by decide +kernel)
set_option maxRecDepth 100000 in
theorem zqJ5_append_3fe6f : Cond.sameMethod (yJ5_append_3fe6f).cls (yJ5_append_3fe6f).cls (yJ5_append_3fe6f).name (yJ5_append_3fe6f).desc ∈ z_tb := z_w1 1482 (Eq.refl _) (by decide +kernel)
set_option maxRecDepth 100000 in
theorem zqJ5_append_c97b9 : Cond.sameMethod (yJ5_append_c97b9).cls (yJ5_append_c97b9).cls (yJ5_append_c97b9).name (yJ5_append_c97b9).desc ∈ z_tb := z_w1 1481 (Eq.refl _) (by decide +kernel)
set_option maxRecDepth 100000 in
theorem zqJ5_append_cf1ce : Cond.sameMethod (yJ5_append_cf1ce).cls (yJ5_append_cf1ce).cls (yJ5_append_cf1ce).name (yJ5_append_cf1ce).desc ∈ z_tb := z_w1 733 (Eq.refl _) (by decide +kernel)
set_option maxRecDepth 100000 in
theorem zqJ5_appendNull_278bc : Cond.sameMethod (yJ5_appendNull_278bc).cls (yJ5_appendNull_278bc).cls (yJ5_appendNull_278bc).name (yJ5_appendNull_278bc).desc ∈ z_tb := z_w1 1475 (Eq.refl _) (by decide +kernel)
set_option maxRecDepth 100000 in
theorem zqJ5_ensureCapacityInternal_d00df : Cond.sameMethod (yJ5_ensureCapacityInternal_d00df).cls (yJ5_ensureCapacityInternal_d00df).cls (yJ5_ensureCapacityInternal_d00df).name (yJ5_ensureCapacityInternal_d00df).desc ∈ z_tb := z_w1 1476 (Eq.refl _) (by decide +kernel)
set_option maxRecDepth 100000 in
theorem zqJ5_getValue_6d5f1 : Cond.sameMethod (yJ5_getValue_6d5f1).cls (yJ5_getValue_6d5f1).cls (yJ5_getValue_6d5f1).name (yJ5_getValue_6d5f1).desc ∈ z_tb := z_w1 910 (Eq.refl _) (by decide +kernel)
set_option maxRecDepth 100000 in
theorem zqJ5_inflate_da8c8 : Cond.sameMethod (yJ5_inflate_da8c8).cls (yJ5_inflate_da8c8).cls (yJ5_inflate_da8c8).name (yJ5_inflate_da8c8).desc ∈ z_tb := z_w1 1480 (Eq.refl _) (by decide +kernel)
set_option maxRecDepth 100000 in
theorem zqJ5_inflateIfNeededFor_a7421 : Cond.sameMethod (yJ5_inflateIfNeededFor_a7421).cls (yJ5_inflateIfNeededFor_a7421).cls (yJ5_inflateIfNeededFor_a7421).name (yJ5_inflateIfNeededFor_a7421).desc ∈ z_tb := z_w1 1479 (Eq.refl _) (by decide +kernel)
set_option maxRecDepth 100000 in
theorem zqJ5_isLatin1_aae02 : Cond.sameMethod (yJ5_isLatin1_aae02).cls (yJ5_isLatin1_aae02).cls (yJ5_isLatin1_aae02).name (yJ5_isLatin1_aae02).desc ∈ z_tb := z_w1 780 (Eq.refl _) (by decide +kernel)
set_option maxRecDepth 100000 in
theorem zqJ5_length_8abf5 : Cond.sameMethod (yJ5_length_8abf5).cls (yJ5_length_8abf5).cls (yJ5_length_8abf5).name (yJ5_length_8abf5).desc ∈ z_tb := z_w1 915 (Eq.refl _) (by decide +kernel)
set_option maxRecDepth 100000 in
theorem zqJ5_newCapacity_0f7a4 : Cond.sameMethod (yJ5_newCapacity_0f7a4).cls (yJ5_newCapacity_0f7a4).cls (yJ5_newCapacity_0f7a4).name (yJ5_newCapacity_0f7a4).desc ∈ z_tb := z_w1 1477 (Eq.refl _) (by decide +kernel)
set_option maxRecDepth 100000 in
theorem zqJ5_putStringAt_47b60 : Cond.sameMethod (yJ5_putStringAt_47b60).cls (yJ5_putStringAt_47b60).cls (yJ5_putStringAt_47b60).name (yJ5_putStringAt_47b60).desc ∈ z_tb := z_w1 1478 (Eq.refl _) (by decide +kernel)
set_option maxRecDepth 100000 in
theorem zuRJ4 : Cond.superclass RJ4 RJ5 ∈ z_tb := z_w1 742 (Eq.refl _) (by decide +kernel)
set_option maxRecDepth 100000 in
theorem zxJ4_append_cf1ce : Cond.selects RJ4 yJ5_append_cf1ce yJ4_append_cf1ce ∈ z_tb := z_w1 734 (Eq.refl _) (by decide +kernel)
set_option maxRecDepth 100000 in
theorem zxJ4_length_8abf5 : Cond.selects RJ4 yJ5_length_8abf5 yJ4_length_8abf5 ∈ z_tb := z_w1 916 (Eq.refl _) (by decide +kernel)
