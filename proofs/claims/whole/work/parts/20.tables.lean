theorem z_k0 : z_cls 0 RX0 TX0 3 tyX0 := by
  refine ⟨rfl, ?_, tyX0_ok, nmX0⟩
  intro w hw
  obtain ⟨k, hk, rfl⟩ := List.mem_map.mp hw
  have hk : k < 3 := List.mem_range.mp hk
  rcases (show k = 0 ∨ k = 1 ∨ k = 2 by omega) with rfl | rfl | rfl
  · exact z_w1 339 (by decide +kernel) (by decide +kernel)
  · exact z_w1 341 (by decide +kernel) (by decide +kernel)
  · exact z_w1 343 (by decide +kernel) (by decide +kernel)
theorem z_k1 : z_cls 1 RX1 TX1 3 tyX1 := by
  refine ⟨rfl, ?_, tyX1_ok, nmX1⟩
  intro w hw
  obtain ⟨k, hk, rfl⟩ := List.mem_map.mp hw
  have hk : k < 3 := List.mem_range.mp hk
  rcases (show k = 0 ∨ k = 1 ∨ k = 2 by omega) with rfl | rfl | rfl
  · exact z_w1 217 (by decide +kernel) (by decide +kernel)
  · exact z_w1 219 (by decide +kernel) (by decide +kernel)
  · exact z_w1 221 (by decide +kernel) (by decide +kernel)
theorem z_k2 : z_cls 2 RX2 TX2 7 tyX2 := by
  refine ⟨rfl, ?_, tyX2_ok, nmX2⟩
  intro w hw
  obtain ⟨k, hk, rfl⟩ := List.mem_map.mp hw
  have hk : k < 7 := List.mem_range.mp hk
  rcases (show k = 0 ∨ k = 1 ∨ k = 2 ∨ k = 3 ∨ k = 4 ∨ k = 5 ∨ k = 6 by omega) with rfl | rfl | rfl | rfl | rfl | rfl | rfl
  · exact z_w1 311 (by decide +kernel) (by decide +kernel)
  · exact z_w1 313 (by decide +kernel) (by decide +kernel)
  · exact z_w1 315 (by decide +kernel) (by decide +kernel)
  · exact z_w1 317 (by decide +kernel) (by decide +kernel)
  · exact z_w1 319 (by decide +kernel) (by decide +kernel)
  · exact z_w1 321 (by decide +kernel) (by decide +kernel)
  · exact z_w1 323 (by decide +kernel) (by decide +kernel)
theorem z_k3 : z_cls 3 RX3 TX3 12 tyX3 := by
  refine ⟨rfl, ?_, tyX3_ok, nmX3⟩
  intro w hw
  obtain ⟨k, hk, rfl⟩ := List.mem_map.mp hw
  have hk : k < 12 := List.mem_range.mp hk
  rcases (show k = 0 ∨ k = 1 ∨ k = 2 ∨ k = 3 ∨ k = 4 ∨ k = 5 ∨ k = 6 ∨ k = 7 ∨ k = 8 ∨ k = 9 ∨ k = 10 ∨ k = 11 by omega) with rfl | rfl | rfl | rfl | rfl | rfl | rfl | rfl | rfl | rfl | rfl | rfl
  · exact z_w1 272 (by decide +kernel) (by decide +kernel)
  · exact z_w1 274 (by decide +kernel) (by decide +kernel)
  · exact z_w1 276 (by decide +kernel) (by decide +kernel)
  · exact z_w1 278 (by decide +kernel) (by decide +kernel)
  · exact z_w1 280 (by decide +kernel) (by decide +kernel)
  · exact z_w1 282 (by decide +kernel) (by decide +kernel)
  · exact z_w1 284 (by decide +kernel) (by decide +kernel)
  · exact z_w1 286 (by decide +kernel) (by decide +kernel)
  · exact z_w1 288 (by decide +kernel) (by decide +kernel)
  · exact z_w1 290 (by decide +kernel) (by decide +kernel)
  · exact z_w1 292 (by decide +kernel) (by decide +kernel)
  · exact z_w1 294 (by decide +kernel) (by decide +kernel)
theorem z_k4 : z_cls 4 RX4 TX4 6 tyX4 := by
  refine ⟨rfl, ?_, tyX4_ok, nmX4⟩
  intro w hw
  obtain ⟨k, hk, rfl⟩ := List.mem_map.mp hw
  have hk : k < 6 := List.mem_range.mp hk
  rcases (show k = 0 ∨ k = 1 ∨ k = 2 ∨ k = 3 ∨ k = 4 ∨ k = 5 by omega) with rfl | rfl | rfl | rfl | rfl | rfl
  · exact z_w1 395 (by decide +kernel) (by decide +kernel)
  · exact z_w1 397 (by decide +kernel) (by decide +kernel)
  · exact z_w1 399 (by decide +kernel) (by decide +kernel)
  · exact z_w1 401 (by decide +kernel) (by decide +kernel)
  · exact z_w1 403 (by decide +kernel) (by decide +kernel)
  · exact z_w1 405 (by decide +kernel) (by decide +kernel)
theorem z_k5 : z_cls 5 RX5 TX5 2 tyX5 := by
  refine ⟨rfl, ?_, tyX5_ok, nmX5⟩
  intro w hw
  obtain ⟨k, hk, rfl⟩ := List.mem_map.mp hw
  have hk : k < 2 := List.mem_range.mp hk
  rcases (show k = 0 ∨ k = 1 by omega) with rfl | rfl
  · exact z_w1 358 (by decide +kernel) (by decide +kernel)
  · exact z_w1 360 (by decide +kernel) (by decide +kernel)
theorem z_k6 : z_cls 6 RX6 TX6 2 tyX6 := by
  refine ⟨rfl, ?_, tyX6_ok, nmX6⟩
  intro w hw
  obtain ⟨k, hk, rfl⟩ := List.mem_map.mp hw
  have hk : k < 2 := List.mem_range.mp hk
  rcases (show k = 0 ∨ k = 1 by omega) with rfl | rfl
  · exact z_w1 378 (by decide +kernel) (by decide +kernel)
  · exact z_w1 380 (by decide +kernel) (by decide +kernel)
theorem z_k7 : z_cls 7 RX7 TX7 2 tyX7 := by
  refine ⟨rfl, ?_, tyX7_ok, nmX7⟩
  intro w hw
  obtain ⟨k, hk, rfl⟩ := List.mem_map.mp hw
  have hk : k < 2 := List.mem_range.mp hk
  rcases (show k = 0 ∨ k = 1 by omega) with rfl | rfl
  · exact z_w1 417 (by decide +kernel) (by decide +kernel)
  · exact z_w1 419 (by decide +kernel) (by decide +kernel)
theorem z_k8 : z_cls 8 RX8 TX8 9 tyX8 := by
  refine ⟨rfl, ?_, tyX8_ok, nmX8⟩
  intro w hw
  obtain ⟨k, hk, rfl⟩ := List.mem_map.mp hw
  have hk : k < 9 := List.mem_range.mp hk
  rcases (show k = 0 ∨ k = 1 ∨ k = 2 ∨ k = 3 ∨ k = 4 ∨ k = 5 ∨ k = 6 ∨ k = 7 ∨ k = 8 by omega) with rfl | rfl | rfl | rfl | rfl | rfl | rfl | rfl | rfl
  · exact z_w1 532 (by decide +kernel) (by decide +kernel)
  · exact z_w1 534 (by decide +kernel) (by decide +kernel)
  · exact z_w1 536 (by decide +kernel) (by decide +kernel)
  · exact z_w1 538 (by decide +kernel) (by decide +kernel)
  · exact z_w1 540 (by decide +kernel) (by decide +kernel)
  · exact z_w1 542 (by decide +kernel) (by decide +kernel)
  · exact z_w1 544 (by decide +kernel) (by decide +kernel)
  · exact z_w1 546 (by decide +kernel) (by decide +kernel)
  · exact z_w1 548 (by decide +kernel) (by decide +kernel)
theorem z_k9 : z_cls 9 RX9 TX9 29 tyX9 := by
  refine ⟨rfl, ?_, tyX9_ok, nmX9⟩
  intro w hw
  obtain ⟨k, hk, rfl⟩ := List.mem_map.mp hw
  have hk : k < 29 := List.mem_range.mp hk
  rcases (show k = 0 ∨ k = 1 ∨ k = 2 ∨ k = 3 ∨ k = 4 ∨ k = 5 ∨ k = 6 ∨ k = 7 ∨ k = 8 ∨ k = 9 ∨ k = 10 ∨ k = 11 ∨ k = 12 ∨ k = 13 ∨ k = 14 ∨ k = 15 ∨ k = 16 ∨ k = 17 ∨ k = 18 ∨ k = 19 ∨ k = 20 ∨ k = 21 ∨ k = 22 ∨ k = 23 ∨ k = 24 ∨ k = 25 ∨ k = 26 ∨ k = 27 ∨ k = 28 by omega) with rfl | rfl | rfl | rfl | rfl | rfl | rfl | rfl | rfl | rfl | rfl | rfl | rfl | rfl | rfl | rfl | rfl | rfl | rfl | rfl | rfl | rfl | rfl | rfl | rfl | rfl | rfl | rfl | rfl
  · exact z_w1 1297 (by decide +kernel) (by decide +kernel)
  · exact z_w1 1299 (by decide +kernel) (by decide +kernel)
  · exact z_w1 1301 (by decide +kernel) (by decide +kernel)
  · exact z_w1 1303 (by decide +kernel) (by decide +kernel)
  · exact z_w1 1305 (by decide +kernel) (by decide +kernel)
  · exact z_w1 1307 (by decide +kernel) (by decide +kernel)
  · exact z_w1 1309 (by decide +kernel) (by decide +kernel)
  · exact z_w1 1311 (by decide +kernel) (by decide +kernel)
  · exact z_w1 1313 (by decide +kernel) (by decide +kernel)
  · exact z_w1 1315 (by decide +kernel) (by decide +kernel)
  · exact z_w1 1317 (by decide +kernel) (by decide +kernel)
  · exact z_w1 1319 (by decide +kernel) (by decide +kernel)
  · exact z_w1 1321 (by decide +kernel) (by decide +kernel)
  · exact z_w1 1323 (by decide +kernel) (by decide +kernel)
  · exact z_w1 1325 (by decide +kernel) (by decide +kernel)
  · exact z_w1 1327 (by decide +kernel) (by decide +kernel)
  · exact z_w1 1329 (by decide +kernel) (by decide +kernel)
  · exact z_w1 1331 (by decide +kernel) (by decide +kernel)
  · exact z_w1 1333 (by decide +kernel) (by decide +kernel)
  · exact z_w1 1335 (by decide +kernel) (by decide +kernel)
  · exact z_w1 1337 (by decide +kernel) (by decide +kernel)
  · exact z_w1 1339 (by decide +kernel) (by decide +kernel)
  · exact z_w1 1341 (by decide +kernel) (by decide +kernel)
  · exact z_w1 1343 (by decide +kernel) (by decide +kernel)
  · exact z_w1 1345 (by decide +kernel) (by decide +kernel)
  · exact z_w1 1347 (by decide +kernel) (by decide +kernel)
  · exact z_w1 1349 (by decide +kernel) (by decide +kernel)
  · exact z_w1 1351 (by decide +kernel) (by decide +kernel)
  · exact z_w1 1353 (by decide +kernel) (by decide +kernel)
abbrev mX0_init : z_M := (yX0_init, cX0_init, 2, none, { frames := 3, cells := 89, slots := 2608, locals := 60 })
abbrev mX0_clear : z_M := (yX0_clear, cX0_clear, 1, none, { frames := 0, cells := 0, slots := 0, locals := 0 })
abbrev mX0_remember : z_M := (yX0_remember, cX0_remember, 2, none, { frames := 3, cells := 0, slots := 0, locals := 83 })
abbrev mX0_bringBack : z_M := (yX0_bringBack, cX0_bringBack, 2, none, { frames := 3, cells := 0, slots := 0, locals := 83 })
abbrev mX1_init : z_M := (yX1_init, cX1_init, 1, none, { frames := 1, cells := 1, slots := 120, locals := 20 })
abbrev mX1_clear : z_M := (yX1_clear, cX1_clear, 1, none, { frames := 0, cells := 0, slots := 0, locals := 0 })
abbrev mX1_copyFrom : z_M := (yX1_copyFrom, cX1_copyFrom, 2, none, { frames := 1, cells := 0, slots := 0, locals := 40 })
abbrev mX1_note : z_M := (yX1_note, cX1_note, 5, none, { frames := 0, cells := 0, slots := 0, locals := 0 })
abbrev mX1_part : z_M := (yX1_part, cX1_part, 3, (some .int), { frames := 0, cells := 0, slots := 0, locals := 0 })
abbrev mX2_init : z_M := (yX2_init, cX2_init, 1, none, { frames := 1, cells := 5, slots := 340, locals := 20 })
abbrev mX2_build : z_M := (yX2_build, cX2_build, 3, none, { frames := 2, cells := 0, slots := 0, locals := 50 })
abbrev mX2_collectSteps : z_M := (yX2_collectSteps, cX2_collectSteps, 7, none, { frames := 1, cells := 0, slots := 0, locals := 24 })
abbrev mX2_collect : z_M := (yX2_collect, cX2_collect, 5, none, { frames := 0, cells := 0, slots := 0, locals := 0 })
abbrev mX2_startWeights : z_M := (yX2_startWeights, cX2_startWeights, 3, none, { frames := 1, cells := 0, slots := 0, locals := 21 })
abbrev mX2_closeWeights : z_M := (yX2_closeWeights, cX2_closeWeights, 7, none, { frames := 1, cells := 0, slots := 0, locals := 21 })
abbrev mX2_copyBounds : z_M := (yX2_copyBounds, cX2_copyBounds, 2, none, { frames := 1, cells := 0, slots := 0, locals := 40 })
abbrev mX2_addStep : z_M := (yX2_addStep, cX2_addStep, 9, none, { frames := 1, cells := 0, slots := 0, locals := 21 })
abbrev mX2_addGapStep : z_M := (yX2_addGapStep, cX2_addGapStep, 5, none, { frames := 2, cells := 0, slots := 0, locals := 49 })
abbrev mX2_addPin : z_M := (yX2_addPin, cX2_addPin, 3, none, { frames := 2, cells := 0, slots := 0, locals := 49 })
abbrev mX2_weightOf : z_M := (yX2_weightOf, cX2_weightOf, 1, (some .int), { frames := 0, cells := 0, slots := 0, locals := 0 })
abbrev mX2_between : z_M := (yX2_between, cX2_between, 3, (some .int), { frames := 1, cells := 0, slots := 0, locals := 22 })
abbrev mX2_stepsBetween : z_M := (yX2_stepsBetween, cX2_stepsBetween, 3, (some .int), { frames := 1, cells := 0, slots := 0, locals := 22 })
abbrev mX2_earliest : z_M := (yX2_earliest, cX2_earliest, 2, (some .int), { frames := 2, cells := 0, slots := 0, locals := 44 })
abbrev mX2_latest : z_M := (yX2_latest, cX2_latest, 2, (some .int), { frames := 2, cells := 0, slots := 0, locals := 44 })
abbrev mX2_possibleTimes : z_M := (yX2_possibleTimes, cX2_possibleTimes, 2, (some .int), { frames := 3, cells := 0, slots := 0, locals := 65 })
abbrev mX2_allows : z_M := (yX2_allows, cX2_allows, 3, (some .boolean), { frames := 3, cells := 0, slots := 0, locals := 65 })
abbrev mX2_leastRing : z_M := (yX2_leastRing, cX2_leastRing, 6, (some .int), { frames := 2, cells := 0, slots := 0, locals := 44 })
abbrev mX2_oneStepDenies : z_M := (yX2_oneStepDenies, cX2_oneStepDenies, 8, (some .boolean), { frames := 1, cells := 0, slots := 0, locals := 22 })
abbrev mX2_stepOfWay : z_M := (yX2_stepOfWay, cX2_stepOfWay, 7, (some .int), { frames := 2, cells := 0, slots := 0, locals := 45 })
abbrev mX2_firstStep : z_M := (yX2_firstStep, cX2_firstStep, 6, (some .int), { frames := 1, cells := 0, slots := 0, locals := 20 })
abbrev mX2_countSettled : z_M := (yX2_countSettled, cX2_countSettled, 3, (some .int), { frames := 4, cells := 0, slots := 0, locals := 86 })
abbrev mX2_greatestEarliest : z_M := (yX2_greatestEarliest, cX2_greatestEarliest, 3, (some .int), { frames := 3, cells := 0, slots := 0, locals := 65 })
abbrev mX2_room : z_M := (yX2_room, cX2_room, 3, (some .int), { frames := 3, cells := 0, slots := 0, locals := 65 })
abbrev mX2_placeByEarliest : z_M := (yX2_placeByEarliest, cX2_placeByEarliest, 5, (some .int), { frames := 3, cells := 0, slots := 0, locals := 65 })
abbrev mX2_placeByLatest : z_M := (yX2_placeByLatest, cX2_placeByLatest, 5, (some .int), { frames := 3, cells := 0, slots := 0, locals := 65 })
abbrev mX2_countOtherBounds : z_M := (yX2_countOtherBounds, cX2_countOtherBounds, 5, (some .int), { frames := 2, cells := 0, slots := 0, locals := 44 })
abbrev mX2_countOtherTimes : z_M := (yX2_countOtherTimes, cX2_countOtherTimes, 4, (some .int), { frames := 3, cells := 0, slots := 0, locals := 65 })
abbrev mX3_init : z_M := (yX3_init, cX3_init, 1, none, { frames := 2, cells := 10, slots := 313, locals := 40 })
abbrev mX3_clear : z_M := (yX3_clear, cX3_clear, 1, none, { frames := 5, cells := 0, slots := 0, locals := 107 })
abbrev mX3_addStart : z_M := (yX3_addStart, cX3_addStart, 3, none, { frames := 4, cells := 0, slots := 0, locals := 85 })
abbrev mX3_copyFrom : z_M := (yX3_copyFrom, cX3_copyFrom, 3, none, { frames := 2, cells := 0, slots := 0, locals := 61 })
abbrev mX3_addEvent : z_M := (yX3_addEvent, cX3_addEvent, 5, (some .int), { frames := 2, cells := 0, slots := 0, locals := 46 })
abbrev mX3_nameEvent : z_M := (yX3_nameEvent, cX3_nameEvent, 6, none, { frames := 1, cells := 0, slots := 0, locals := 21 })
abbrev mX3_letterOf : z_M := (yX3_letterOf, cX3_letterOf, 3, (some .int), { frames := 0, cells := 0, slots := 0, locals := 0 })
abbrev mX3_findEvent : z_M := (yX3_findEvent, cX3_findEvent, 5, (some .int), { frames := 2, cells := 0, slots := 0, locals := 47 })
abbrev mX3_isNamed : z_M := (yX3_isNamed, cX3_isNamed, 6, (some .boolean), { frames := 1, cells := 0, slots := 0, locals := 22 })
abbrev mX3_addGap : z_M := (yX3_addGap, cX3_addGap, 7, (some .int), { frames := 0, cells := 0, slots := 0, locals := 0 })
abbrev mX3_removeGap : z_M := (yX3_removeGap, cX3_removeGap, 3, none, { frames := 0, cells := 0, slots := 0, locals := 0 })
abbrev mX3_isPinned : z_M := (yX3_isPinned, cX3_isPinned, 2, (some .boolean), { frames := 0, cells := 0, slots := 0, locals := 0 })
abbrev mX3_hasEvent : z_M := (yX3_hasEvent, cX3_hasEvent, 3, (some .boolean), { frames := 0, cells := 0, slots := 0, locals := 0 })
abbrev mX3_countPinned : z_M := (yX3_countPinned, cX3_countPinned, 3, (some .int), { frames := 1, cells := 0, slots := 0, locals := 21 })
abbrev mX3_countOn : z_M := (yX3_countOn, cX3_countOn, 3, (some .int), { frames := 1, cells := 0, slots := 0, locals := 20 })
abbrev mX3_countOnOf : z_M := (yX3_countOnOf, cX3_countOnOf, 4, (some .int), { frames := 1, cells := 0, slots := 0, locals := 22 })
abbrev mX4_init : z_M := (yX4_init, cX4_init, 1, none, { frames := 3, cells := 19, slots := 1574, locals := 60 })
abbrev mX4_read : z_M := (yX4_read, cX4_read, 2, (some .boolean), { frames := 8, cells := 0, slots := 0, locals := 177 })
abbrev mX4_position : z_M := (yX4_position, cX4_position, 1, (some .int), { frames := 0, cells := 0, slots := 0, locals := 0 })
abbrev mX4_next : z_M := (yX4_next, cX4_next, 2, none, { frames := 2, cells := 0, slots := 0, locals := 43 })
abbrev mX4_isHere : z_M := (yX4_isHere, cX4_isHere, 2, (some .boolean), { frames := 5, cells := 0, slots := 0, locals := 109 })
abbrev mX4_takeWord : z_M := (yX4_takeWord, cX4_takeWord, 3, (some .boolean), { frames := 6, cells := 0, slots := 0, locals := 130 })
abbrev mX4_takeSemicolon : z_M := (yX4_takeSemicolon, cX4_takeSemicolon, 2, (some .boolean), { frames := 3, cells := 0, slots := 0, locals := 64 })
abbrev mX4_numberHere : z_M := (yX4_numberHere, cX4_numberHere, 3, (some .int), { frames := 1, cells := 0, slots := 0, locals := 21 })
abbrev mX4_eventHere : z_M := (yX4_eventHere, cX4_eventHere, 1, (some .int), { frames := 3, cells := 0, slots := 0, locals := 71 })
abbrev mX4_kindHere : z_M := (yX4_kindHere, cX4_kindHere, 1, (some .int), { frames := 6, cells := 0, slots := 0, locals := 130 })
abbrev mX4_readEnd : z_M := (yX4_readEnd, cX4_readEnd, 2, (some .boolean), { frames := 7, cells := 0, slots := 0, locals := 152 })
abbrev mX4_readEvent : z_M := (yX4_readEvent, cX4_readEvent, 1, (some .boolean), { frames := 7, cells := 0, slots := 0, locals := 153 })
abbrev mX4_readGap : z_M := (yX4_readGap, cX4_readGap, 6, (some .boolean), { frames := 7, cells := 0, slots := 0, locals := 152 })
abbrev mX4_readPin : z_M := (yX4_readPin, cX4_readPin, 3, (some .boolean), { frames := 4, cells := 0, slots := 0, locals := 91 })
abbrev mX5_init : z_M := (yX5_init, cX5_init, 2, none, { frames := 3, cells := 24, slots := 654, locals := 60 })
abbrev mX5_clear : z_M := (yX5_clear, cX5_clear, 2, none, { frames := 0, cells := 0, slots := 0, locals := 0 })
abbrev mX6_init : z_M := (yX6_init, cX6_init, 1, none, { frames := 1, cells := 1, slots := 900, locals := 20 })
abbrev mX6_putFourBytes : z_M := (yX6_putFourBytes, cX6_putFourBytes, 3, none, { frames := 0, cells := 0, slots := 0, locals := 0 })
abbrev mX6_byteAt : z_M := (yX6_byteAt, cX6_byteAt, 2, (some .int), { frames := 0, cells := 0, slots := 0, locals := 0 })
abbrev mX6_isName : z_M := (yX6_isName, cX6_isName, 3, (some .boolean), { frames := 6, cells := 0, slots := 0, locals := 131 })
abbrev mX6_isKeyword : z_M := (yX6_isKeyword, cX6_isKeyword, 3, (some .boolean), { frames := 5, cells := 0, slots := 0, locals := 109 })
abbrev mX6_spells : z_M := (yX6_spells, cX6_spells, 5, (some .boolean), { frames := 4, cells := 0, slots := 0, locals := 85 })
abbrev mX6_countLetters : z_M := (yX6_countLetters, cX6_countLetters, 3, (some .int), { frames := 1, cells := 0, slots := 0, locals := 21 })
abbrev mX6_countDigits : z_M := (yX6_countDigits, cX6_countDigits, 3, (some .int), { frames := 1, cells := 0, slots := 0, locals := 21 })
abbrev mX6_countSpaces : z_M := (yX6_countSpaces, cX6_countSpaces, 3, (some .int), { frames := 1, cells := 0, slots := 0, locals := 21 })
abbrev mX6_isLetter : z_M := (yX6_isLetter, cX6_isLetter, 1, (some .boolean), { frames := 0, cells := 0, slots := 0, locals := 0 })
abbrev mX6_isDigit : z_M := (yX6_isDigit, cX6_isDigit, 1, (some .boolean), { frames := 0, cells := 0, slots := 0, locals := 0 })
abbrev mX7_init : z_M := (yX7_init, cX7_init, 1, none, { frames := 1, cells := 1, slots := 1024, locals := 20 })
abbrev mX7_byteAt : z_M := (yX7_byteAt, cX7_byteAt, 2, (some .int), { frames := 0, cells := 0, slots := 0, locals := 0 })
abbrev mX7_writeList : z_M := (yX7_writeList, cX7_writeList, 4, none, { frames := 3, cells := 0, slots := 0, locals := 65 })
abbrev mX7_writeSetup : z_M := (yX7_writeSetup, cX7_writeSetup, 3, none, { frames := 6, cells := 0, slots := 0, locals := 129 })
abbrev mX7_putGap : z_M := (yX7_putGap, cX7_putGap, 3, none, { frames := 5, cells := 0, slots := 0, locals := 107 })
abbrev mX7_putName : z_M := (yX7_putName, cX7_putName, 4, none, { frames := 1, cells := 0, slots := 0, locals := 22 })
abbrev mX7_putWord : z_M := (yX7_putWord, cX7_putWord, 3, none, { frames := 4, cells := 0, slots := 0, locals := 85 })
abbrev mX7_putNumber : z_M := (yX7_putNumber, cX7_putNumber, 2, none, { frames := 1, cells := 0, slots := 0, locals := 21 })
abbrev mX7_put : z_M := (yX7_put, cX7_put, 2, none, { frames := 0, cells := 0, slots := 0, locals := 0 })
abbrev mX8_init : z_M := (yX8_init, cX8_init, 1, none, { frames := 6, cells := 160, slots := 6892, locals := 127 })
abbrev mX8_append : z_M := (yX8_append, cX8_append, 6, (some .int), { frames := 1, cells := 0, slots := 0, locals := 22 })
abbrev mX8_truncate : z_M := (yX8_truncate, cX8_truncate, 2, (some .int), { frames := 0, cells := 0, slots := 0, locals := 0 })
abbrev mX8_load : z_M := (yX8_load, cX8_load, 2, (some .int), { frames := 9, cells := 0, slots := 0, locals := 198 })
abbrev mX8_errorPosition : z_M := (yX8_errorPosition, cX8_errorPosition, 1, (some .int), { frames := 0, cells := 0, slots := 0, locals := 0 })
abbrev mX8_open : z_M := (yX8_open, cX8_open, 2, (some .int), { frames := 8, cells := 0, slots := 0, locals := 173 })
abbrev mX8_tell : z_M := (yX8_tell, cX8_tell, 6, (some .int), { frames := 4, cells := 0, slots := 0, locals := 104 })
abbrev mX8_drop : z_M := (yX8_drop, cX8_drop, 3, (some .int), { frames := 4, cells := 0, slots := 0, locals := 104 })
abbrev mX8_set : z_M := (yX8_set, cX8_set, 4, (some .int), { frames := 4, cells := 0, slots := 0, locals := 104 })
abbrev mX8_turn : z_M := (yX8_turn, cX8_turn, 3, (some .int), { frames := 4, cells := 0, slots := 0, locals := 104 })
abbrev mX8_pin : z_M := (yX8_pin, cX8_pin, 3, (some .int), { frames := 4, cells := 0, slots := 0, locals := 104 })
abbrev mX8_unpin : z_M := (yX8_unpin, cX8_unpin, 3, (some .int), { frames := 4, cells := 0, slots := 0, locals := 104 })
abbrev mX8_end : z_M := (yX8_end, cX8_end, 3, (some .int), { frames := 4, cells := 0, slots := 0, locals := 104 })
abbrev mX8_rename : z_M := (yX8_rename, cX8_rename, 3, (some .int), { frames := 8, cells := 0, slots := 0, locals := 173 })
abbrev mX8_reverse : z_M := (yX8_reverse, cX8_reverse, 5, (some .int), { frames := 5, cells := 0, slots := 0, locals := 107 })
abbrev mX8_tighten : z_M := (yX8_tighten, cX8_tighten, 3, (some .int), { frames := 5, cells := 0, slots := 0, locals := 107 })
abbrev mX8_thin : z_M := (yX8_thin, cX8_thin, 4, (some .int), { frames := 6, cells := 0, slots := 0, locals := 129 })
abbrev mX8_pinAll : z_M := (yX8_pinAll, cX8_pinAll, 3, (some .int), { frames := 4, cells := 0, slots := 0, locals := 104 })
abbrev mX8_keep : z_M := (yX8_keep, cX8_keep, 2, (some .int), { frames := 3, cells := 0, slots := 0, locals := 83 })
abbrev mX8_restore : z_M := (yX8_restore, cX8_restore, 2, (some .int), { frames := 4, cells := 0, slots := 0, locals := 104 })
abbrev mX8_undo : z_M := (yX8_undo, cX8_undo, 1, (some .int), { frames := 4, cells := 0, slots := 0, locals := 104 })
abbrev mX8_value : z_M := (yX8_value, cX8_value, 2, (some .int), { frames := 6, cells := 0, slots := 0, locals := 129 })
abbrev mX8_letter : z_M := (yX8_letter, cX8_letter, 3, (some .int), { frames := 1, cells := 0, slots := 0, locals := 22 })
abbrev mX8_gap : z_M := (yX8_gap, cX8_gap, 3, (some .int), { frames := 5, cells := 0, slots := 0, locals := 107 })
abbrev mX8_event : z_M := (yX8_event, cX8_event, 3, (some .int), { frames := 4, cells := 0, slots := 0, locals := 86 })
abbrev mX8_bound : z_M := (yX8_bound, cX8_bound, 3, (some .int), { frames := 2, cells := 0, slots := 0, locals := 44 })
abbrev mX8_way : z_M := (yX8_way, cX8_way, 4, (some .int), { frames := 3, cells := 0, slots := 0, locals := 71 })
abbrev mX8_wayLength : z_M := (yX8_wayLength, cX8_wayLength, 3, (some .int), { frames := 2, cells := 0, slots := 0, locals := 44 })
abbrev mX8_relation : z_M := (yX8_relation, cX8_relation, 3, (some .int), { frames := 3, cells := 0, slots := 0, locals := 68 })
abbrev mX8_play : z_M := (yX8_play, cX8_play, 3, (some .int), { frames := 2, cells := 0, slots := 0, locals := 44 })
abbrev mX8_pairs : z_M := (yX8_pairs, cX8_pairs, 5, (some .int), { frames := 3, cells := 0, slots := 0, locals := 68 })
abbrev mX8_direct : z_M := (yX8_direct, cX8_direct, 4, (some .int), { frames := 4, cells := 0, slots := 0, locals := 86 })
abbrev mX8_ordered : z_M := (yX8_ordered, cX8_ordered, 3, (some .int), { frames := 4, cells := 0, slots := 0, locals := 89 })
abbrev mX8_middle : z_M := (yX8_middle, cX8_middle, 3, (some .int), { frames := 3, cells := 0, slots := 0, locals := 71 })
abbrev mX8_lastly : z_M := (yX8_lastly, cX8_lastly, 3, (some .int), { frames := 4, cells := 0, slots := 0, locals := 89 })
abbrev mX8_can : z_M := (yX8_can, cX8_can, 3, (some .int), { frames := 4, cells := 0, slots := 0, locals := 87 })
abbrev mX8_widest : z_M := (yX8_widest, cX8_widest, 6, (some .int), { frames := 2, cells := 0, slots := 0, locals := 44 })
abbrev mX8_freest : z_M := (yX8_freest, cX8_freest, 3, (some .int), { frames := 4, cells := 0, slots := 0, locals := 86 })
abbrev mX8_why : z_M := (yX8_why, cX8_why, 7, (some .int), { frames := 4, cells := 0, slots := 0, locals := 95 })
abbrev mX8_ring : z_M := (yX8_ring, cX8_ring, 6, (some .int), { frames := 4, cells := 0, slots := 0, locals := 95 })
abbrev mX8_culprit : z_M := (yX8_culprit, cX8_culprit, 6, (some .int), { frames := 5, cells := 0, slots := 0, locals := 107 })
abbrev mX8_tightest : z_M := (yX8_tightest, cX8_tightest, 4, (some .int), { frames := 3, cells := 0, slots := 0, locals := 68 })
abbrev mX8_spare : z_M := (yX8_spare, cX8_spare, 3, (some .int), { frames := 3, cells := 0, slots := 0, locals := 68 })
abbrev mX8_needless : z_M := (yX8_needless, cX8_needless, 1, (some .int), { frames := 6, cells := 0, slots := 0, locals := 129 })
abbrev mX8_needs : z_M := (yX8_needs, cX8_needs, 4, (some .int), { frames := 5, cells := 0, slots := 0, locals := 107 })
abbrev mX8_ifTold : z_M := (yX8_ifTold, cX8_ifTold, 6, (some .int), { frames := 5, cells := 0, slots := 0, locals := 109 })
abbrev mX8_ifDropped : z_M := (yX8_ifDropped, cX8_ifDropped, 3, (some .int), { frames := 5, cells := 0, slots := 0, locals := 109 })
abbrev mX8_ifTurned : z_M := (yX8_ifTurned, cX8_ifTurned, 3, (some .int), { frames := 6, cells := 0, slots := 0, locals := 134 })
abbrev mX8_ifPinned : z_M := (yX8_ifPinned, cX8_ifPinned, 4, (some .int), { frames := 5, cells := 0, slots := 0, locals := 109 })
abbrev mX8_leastEnd : z_M := (yX8_leastEnd, cX8_leastEnd, 1, (some .int), { frames := 4, cells := 0, slots := 0, locals := 87 })
abbrev mX8_slowest : z_M := (yX8_slowest, cX8_slowest, 5, (some .int), { frames := 5, cells := 0, slots := 0, locals := 107 })
abbrev mX8_log : z_M := (yX8_log, cX8_log, 3, (some .int), { frames := 1, cells := 0, slots := 0, locals := 22 })
abbrev mX8_tightShare : z_M := (yX8_tightShare, cX8_tightShare, 2, (some .float), { frames := 5, cells := 0, slots := 0, locals := 108 })
abbrev mX8_meanRoom : z_M := (yX8_meanRoom, cX8_meanRoom, 1, (some .double), { frames := 4, cells := 0, slots := 0, locals := 87 })
abbrev mX8_listLength : z_M := (yX8_listLength, cX8_listLength, 1, (some .int), { frames := 4, cells := 0, slots := 0, locals := 88 })
abbrev mX8_listByte : z_M := (yX8_listByte, cX8_listByte, 2, (some .int), { frames := 4, cells := 0, slots := 0, locals := 88 })
abbrev mX8_setupLength : z_M := (yX8_setupLength, cX8_setupLength, 1, (some .int), { frames := 7, cells := 0, slots := 0, locals := 151 })
abbrev mX8_setupByte : z_M := (yX8_setupByte, cX8_setupByte, 2, (some .int), { frames := 7, cells := 0, slots := 0, locals := 151 })
abbrev mX8_isEvent : z_M := (yX8_isEvent, cX8_isEvent, 2, (some .boolean), { frames := 0, cells := 0, slots := 0, locals := 0 })
abbrev mX8_areTwoEvents : z_M := (yX8_areTwoEvents, cX8_areTwoEvents, 3, (some .boolean), { frames := 1, cells := 0, slots := 0, locals := 21 })
abbrev mX8_isGap : z_M := (yX8_isGap, cX8_isGap, 2, (some .boolean), { frames := 0, cells := 0, slots := 0, locals := 0 })
abbrev mX8_isTellable : z_M := (yX8_isTellable, cX8_isTellable, 5, (some .boolean), { frames := 2, cells := 0, slots := 0, locals := 43 })
abbrev mX8_isTime : z_M := (yX8_isTime, cX8_isTime, 2, (some .boolean), { frames := 0, cells := 0, slots := 0, locals := 0 })
abbrev mX8_isPinnable : z_M := (yX8_isPinnable, cX8_isPinnable, 2, (some .boolean), { frames := 1, cells := 0, slots := 0, locals := 21 })
abbrev mX8_isNewNameOnTape : z_M := (yX8_isNewNameOnTape, cX8_isNewNameOnTape, 1, (some .boolean), { frames := 7, cells := 0, slots := 0, locals := 153 })
abbrev mX8_isKind : z_M := (yX8_isKind, cX8_isKind, 1, (some .boolean), { frames := 0, cells := 0, slots := 0, locals := 0 })
abbrev mX8_isNumber : z_M := (yX8_isNumber, cX8_isNumber, 1, (some .boolean), { frames := 0, cells := 0, slots := 0, locals := 0 })
abbrev mX8_isSlot : z_M := (yX8_isSlot, cX8_isSlot, 1, (some .boolean), { frames := 0, cells := 0, slots := 0, locals := 0 })
abbrev mX8_isChange : z_M := (yX8_isChange, cX8_isChange, 1, (some .boolean), { frames := 0, cells := 0, slots := 0, locals := 0 })
abbrev mX8_asNumber : z_M := (yX8_asNumber, cX8_asNumber, 1, (some .int), { frames := 0, cells := 0, slots := 0, locals := 0 })
abbrev mX8_finish : z_M := (yX8_finish, cX8_finish, 4, none, { frames := 3, cells := 0, slots := 0, locals := 72 })
abbrev mX8_beginOf : z_M := (yX8_beginOf, cX8_beginOf, 2, (some .int), { frames := 1, cells := 0, slots := 0, locals := 22 })
abbrev mX8_finishOf : z_M := (yX8_finishOf, cX8_finishOf, 2, (some .int), { frames := 1, cells := 0, slots := 0, locals := 22 })
abbrev mX8_lengthOf : z_M := (yX8_lengthOf, cX8_lengthOf, 2, (some .int), { frames := 1, cells := 0, slots := 0, locals := 21 })
abbrev mX8_boundOf : z_M := (yX8_boundOf, cX8_boundOf, 2, (some .int), { frames := 2, cells := 0, slots := 0, locals := 44 })
abbrev mX8_ringOfGap : z_M := (yX8_ringOfGap, cX8_ringOfGap, 3, (some .int), { frames := 3, cells := 0, slots := 0, locals := 69 })
abbrev mX8_isTight : z_M := (yX8_isTight, cX8_isTight, 2, (some .boolean), { frames := 3, cells := 0, slots := 0, locals := 65 })
abbrev mX8_isNeeded : z_M := (yX8_isNeeded, cX8_isNeeded, 2, (some .boolean), { frames := 4, cells := 0, slots := 0, locals := 86 })
abbrev mX8_isLoose : z_M := (yX8_isLoose, cX8_isLoose, 2, (some .boolean), { frames := 4, cells := 0, slots := 0, locals := 86 })
abbrev mX8_tightNumber : z_M := (yX8_tightNumber, cX8_tightNumber, 2, (some .int), { frames := 3, cells := 0, slots := 0, locals := 65 })
abbrev mX8_tightestNumber : z_M := (yX8_tightestNumber, cX8_tightestNumber, 5, (some .int), { frames := 2, cells := 0, slots := 0, locals := 44 })
abbrev mX8_countTight : z_M := (yX8_countTight, cX8_countTight, 3, (some .int), { frames := 4, cells := 0, slots := 0, locals := 86 })
abbrev mX8_countNeeded : z_M := (yX8_countNeeded, cX8_countNeeded, 3, (some .int), { frames := 5, cells := 0, slots := 0, locals := 107 })
abbrev mX8_firstNeedless : z_M := (yX8_firstNeedless, cX8_firstNeedless, 3, (some .int), { frames := 5, cells := 0, slots := 0, locals := 107 })
abbrev mX8_relationOf : z_M := (yX8_relationOf, cX8_relationOf, 5, (some .int), { frames := 2, cells := 0, slots := 0, locals := 44 })
abbrev mX8_stepOfRing : z_M := (yX8_stepOfRing, cX8_stepOfRing, 5, (some .int), { frames := 3, cells := 0, slots := 0, locals := 71 })
abbrev mX8_tryWithout : z_M := (yX8_tryWithout, cX8_tryWithout, 2, none, { frames := 4, cells := 0, slots := 0, locals := 86 })
abbrev mX8_changeOnTrial : z_M := (yX8_changeOnTrial, cX8_changeOnTrial, 2, (some .int), { frames := 4, cells := 0, slots := 0, locals := 88 })
abbrev mX8_stepBegin : z_M := (yX8_stepBegin, cX8_stepBegin, 3, (some .int), { frames := 0, cells := 0, slots := 0, locals := 0 })
abbrev mX8_stepFinish : z_M := (yX8_stepFinish, cX8_stepFinish, 3, (some .int), { frames := 0, cells := 0, slots := 0, locals := 0 })
abbrev mX8_stepLength : z_M := (yX8_stepLength, cX8_stepLength, 2, (some .int), { frames := 0, cells := 0, slots := 0, locals := 0 })
abbrev mX9_init : z_M := (yX9_init, cX9_init, 1, none, { frames := 1, cells := 15, slots := 5842, locals := 20 })
abbrev mX9_in : z_M := (yX9_in, cX9_in, 3, (some .boolean), { frames := 0, cells := 0, slots := 0, locals := 0 })
abbrev mX9_begins : z_M := (yX9_begins, cX9_begins, 2, none, { frames := 0, cells := 0, slots := 0, locals := 0 })
abbrev mX9_fails : z_M := (yX9_fails, cX9_fails, 3, (some .int), { frames := 0, cells := 0, slots := 0, locals := 0 })
abbrev mX9_done : z_M := (yX9_done, cX9_done, 3, (some .int), { frames := 0, cells := 0, slots := 0, locals := 0 })
abbrev mX9_undo : z_M := (yX9_undo, cX9_undo, 2, (some .int), { frames := 0, cells := 0, slots := 0, locals := 0 })
abbrev mX9_keep : z_M := (yX9_keep, cX9_keep, 3, (some .int), { frames := 1, cells := 0, slots := 0, locals := 22 })
abbrev mX9_restore : z_M := (yX9_restore, cX9_restore, 3, (some .int), { frames := 1, cells := 0, slots := 0, locals := 22 })
abbrev mX9_logs : z_M := (yX9_logs, cX9_logs, 5, none, { frames := 0, cells := 0, slots := 0, locals := 0 })
abbrev mX9_log : z_M := (yX9_log, cX9_log, 3, (some .int), { frames := 1, cells := 0, slots := 0, locals := 22 })
abbrev mX9_of : z_M := (yX9_of, cX9_of, 3, (some .int), { frames := 0, cells := 0, slots := 0, locals := 0 })
abbrev mX9_puts : z_M := (yX9_puts, cX9_puts, 4, none, { frames := 0, cells := 0, slots := 0, locals := 0 })
abbrev mX9_isOn : z_M := (yX9_isOn, cX9_isOn, 2, (some .boolean), { frames := 1, cells := 0, slots := 0, locals := 22 })
abbrev mX9_isEvent : z_M := (yX9_isEvent, cX9_isEvent, 2, (some .boolean), { frames := 1, cells := 0, slots := 0, locals := 22 })
abbrev mX9_isGap : z_M := (yX9_isGap, cX9_isGap, 2, (some .boolean), { frames := 1, cells := 0, slots := 0, locals := 22 })
abbrev mX9_isPinned : z_M := (yX9_isPinned, cX9_isPinned, 2, (some .boolean), { frames := 0, cells := 0, slots := 0, locals := 0 })
abbrev mX9_isN : z_M := (yX9_isN, cX9_isN, 2, (some .boolean), { frames := 1, cells := 0, slots := 0, locals := 22 })
abbrev mX9_areTwo : z_M := (yX9_areTwo, cX9_areTwo, 3, (some .boolean), { frames := 2, cells := 0, slots := 0, locals := 43 })
abbrev mX9_fromOf : z_M := (yX9_fromOf, cX9_fromOf, 2, (some .int), { frames := 1, cells := 0, slots := 0, locals := 22 })
abbrev mX9_toOf : z_M := (yX9_toOf, cX9_toOf, 2, (some .int), { frames := 1, cells := 0, slots := 0, locals := 22 })
abbrev mX9_lengthOf : z_M := (yX9_lengthOf, cX9_lengthOf, 2, (some .int), { frames := 1, cells := 0, slots := 0, locals := 22 })
abbrev mX9_laysStep : z_M := (yX9_laysStep, cX9_laysStep, 5, none, { frames := 0, cells := 0, slots := 0, locals := 0 })
abbrev mX9_laysSteps : z_M := (yX9_laysSteps, cX9_laysSteps, 2, none, { frames := 2, cells := 0, slots := 0, locals := 43 })
abbrev mX9_pair : z_M := (yX9_pair, cX9_pair, 2, (some .int), { frames := 0, cells := 0, slots := 0, locals := 0 })
abbrev mX9_boundOf : z_M := (yX9_boundOf, cX9_boundOf, 3, (some .int), { frames := 1, cells := 0, slots := 0, locals := 21 })
abbrev mX9_lays : z_M := (yX9_lays, cX9_lays, 6, (some .boolean), { frames := 3, cells := 0, slots := 0, locals := 64 })
abbrev mX9_earliest : z_M := (yX9_earliest, cX9_earliest, 2, (some .int), { frames := 2, cells := 0, slots := 0, locals := 43 })
abbrev mX9_latest : z_M := (yX9_latest, cX9_latest, 2, (some .int), { frames := 2, cells := 0, slots := 0, locals := 43 })
abbrev mX9_roomOf : z_M := (yX9_roomOf, cX9_roomOf, 2, (some .int), { frames := 3, cells := 0, slots := 0, locals := 64 })
abbrev mX9_allRoom : z_M := (yX9_allRoom, cX9_allRoom, 3, (some .int), { frames := 4, cells := 0, slots := 0, locals := 85 })
abbrev mX9_isTight : z_M := (yX9_isTight, cX9_isTight, 2, (some .boolean), { frames := 2, cells := 0, slots := 0, locals := 43 })
abbrev mX9_isNeeded : z_M := (yX9_isNeeded, cX9_isNeeded, 4, (some .boolean), { frames := 4, cells := 0, slots := 0, locals := 89 })
abbrev mX9_comes : z_M := (yX9_comes, cX9_comes, 7, (some .int), { frames := 1, cells := 0, slots := 0, locals := 23 })
abbrev mX9_doneIf : z_M := (yX9_doneIf, cX9_doneIf, 5, (some .int), { frames := 4, cells := 0, slots := 0, locals := 89 })
abbrev mX9_tell : z_M := (yX9_tell, cX9_tell, 7, (some .int), { frames := 4, cells := 0, slots := 0, locals := 89 })
abbrev mX9_drops : z_M := (yX9_drops, cX9_drops, 4, none, { frames := 1, cells := 0, slots := 0, locals := 23 })
abbrev mX9_drop : z_M := (yX9_drop, cX9_drop, 2, (some .int), { frames := 2, cells := 0, slots := 0, locals := 46 })
abbrev mX9_set : z_M := (yX9_set, cX9_set, 4, (some .int), { frames := 5, cells := 0, slots := 0, locals := 113 })
abbrev mX9_turn : z_M := (yX9_turn, cX9_turn, 3, (some .int), { frames := 5, cells := 0, slots := 0, locals := 113 })
abbrev mX9_pinned : z_M := (yX9_pinned, cX9_pinned, 3, (some .int), { frames := 1, cells := 0, slots := 0, locals := 21 })
abbrev mX9_pin : z_M := (yX9_pin, cX9_pin, 3, (some .int), { frames := 5, cells := 0, slots := 0, locals := 113 })
abbrev mX9_unpin : z_M := (yX9_unpin, cX9_unpin, 3, (some .int), { frames := 2, cells := 0, slots := 0, locals := 43 })
abbrev mX9_end : z_M := (yX9_end, cX9_end, 3, (some .int), { frames := 5, cells := 0, slots := 0, locals := 113 })
abbrev mX9_reverse : z_M := (yX9_reverse, cX9_reverse, 3, (some .int), { frames := 5, cells := 0, slots := 0, locals := 113 })
abbrev mX9_tighten : z_M := (yX9_tighten, cX9_tighten, 5, (some .int), { frames := 5, cells := 0, slots := 0, locals := 107 })
abbrev mX9_firstNeedless : z_M := (yX9_firstNeedless, cX9_firstNeedless, 2, (some .int), { frames := 5, cells := 0, slots := 0, locals := 112 })
abbrev mX9_thin : z_M := (yX9_thin, cX9_thin, 3, (some .int), { frames := 6, cells := 0, slots := 0, locals := 133 })
abbrev mX9_pinAll : z_M := (yX9_pinAll, cX9_pinAll, 4, (some .int), { frames := 4, cells := 0, slots := 0, locals := 89 })
abbrev mX9_isByte : z_M := (yX9_isByte, cX9_isByte, 3, (some .boolean), { frames := 0, cells := 0, slots := 0, locals := 0 })
abbrev mX9_takesLetters : z_M := (yX9_takesLetters, cX9_takesLetters, 1, none, { frames := 1, cells := 0, slots := 0, locals := 22 })
abbrev mX9_takesDigits : z_M := (yX9_takesDigits, cX9_takesDigits, 1, none, { frames := 1, cells := 0, slots := 0, locals := 22 })
abbrev mX9_nextToken : z_M := (yX9_nextToken, cX9_nextToken, 1, none, { frames := 2, cells := 0, slots := 0, locals := 42 })
abbrev mX9_takes : z_M := (yX9_takes, cX9_takes, 2, none, { frames := 3, cells := 0, slots := 0, locals := 62 })
abbrev mX9_isKey : z_M := (yX9_isKey, cX9_isKey, 2, (some .boolean), { frames := 0, cells := 0, slots := 0, locals := 0 })
abbrev mX9_isKeyword : z_M := (yX9_isKeyword, cX9_isKeyword, 1, (some .boolean), { frames := 0, cells := 0, slots := 0, locals := 0 })
abbrev mX9_isName : z_M := (yX9_isName, cX9_isName, 1, (some .boolean), { frames := 1, cells := 0, slots := 0, locals := 20 })
abbrev mX9_named : z_M := (yX9_named, cX9_named, 3, (some .int), { frames := 0, cells := 0, slots := 0, locals := 0 })
abbrev mX9_numberIn : z_M := (yX9_numberIn, cX9_numberIn, 4, (some .int), { frames := 4, cells := 0, slots := 0, locals := 83 })
abbrev mX9_opens : z_M := (yX9_opens, cX9_opens, 2, none, { frames := 0, cells := 0, slots := 0, locals := 0 })
abbrev mX9_readEvent : z_M := (yX9_readEvent, cX9_readEvent, 2, none, { frames := 4, cells := 0, slots := 0, locals := 83 })
abbrev mX9_readEventName : z_M := (yX9_readEventName, cX9_readEventName, 3, (some .int), { frames := 4, cells := 0, slots := 0, locals := 83 })
abbrev mX9_readGap : z_M := (yX9_readGap, cX9_readGap, 7, none, { frames := 5, cells := 0, slots := 0, locals := 106 })
abbrev mX9_readPin : z_M := (yX9_readPin, cX9_readPin, 3, none, { frames := 5, cells := 0, slots := 0, locals := 106 })
abbrev mX9_load : z_M := (yX9_load, cX9_load, 2, (some .int), { frames := 6, cells := 0, slots := 0, locals := 132 })
abbrev mX9_errorPosition : z_M := (yX9_errorPosition, cX9_errorPosition, 1, (some .int), { frames := 0, cells := 0, slots := 0, locals := 0 })
abbrev mX9_tapes : z_M := (yX9_tapes, cX9_tapes, 3, none, { frames := 0, cells := 0, slots := 0, locals := 0 })
abbrev mX9_append : z_M := (yX9_append, cX9_append, 6, (some .int), { frames := 1, cells := 0, slots := 0, locals := 22 })
abbrev mX9_truncate : z_M := (yX9_truncate, cX9_truncate, 2, (some .int), { frames := 1, cells := 0, slots := 0, locals := 22 })
abbrev mX9_taped : z_M := (yX9_taped, cX9_taped, 4, (some .int), { frames := 2, cells := 0, slots := 0, locals := 40 })
abbrev mX9_open : z_M := (yX9_open, cX9_open, 2, (some .int), { frames := 3, cells := 0, slots := 0, locals := 63 })
abbrev mX9_rename : z_M := (yX9_rename, cX9_rename, 4, (some .int), { frames := 3, cells := 0, slots := 0, locals := 63 })
abbrev mX9_onGaps : z_M := (yX9_onGaps, cX9_onGaps, 3, (some .int), { frames := 2, cells := 0, slots := 0, locals := 43 })
abbrev mX9_tightGaps : z_M := (yX9_tightGaps, cX9_tightGaps, 4, (some .int), { frames := 4, cells := 0, slots := 0, locals := 89 })
abbrev mX9_neededGaps : z_M := (yX9_neededGaps, cX9_neededGaps, 5, (some .int), { frames := 5, cells := 0, slots := 0, locals := 112 })
abbrev mX9_fixedEvents : z_M := (yX9_fixedEvents, cX9_fixedEvents, 3, (some .int), { frames := 4, cells := 0, slots := 0, locals := 85 })
abbrev mX9_greatestEarliest : z_M := (yX9_greatestEarliest, cX9_greatestEarliest, 3, (some .int), { frames := 3, cells := 0, slots := 0, locals := 64 })
abbrev mX9_value : z_M := (yX9_value, cX9_value, 3, (some .int), { frames := 6, cells := 0, slots := 0, locals := 136 })
abbrev mX9_lettersOf : z_M := (yX9_lettersOf, cX9_lettersOf, 3, (some .int), { frames := 0, cells := 0, slots := 0, locals := 0 })
abbrev mX9_letterOf : z_M := (yX9_letterOf, cX9_letterOf, 2, (some .int), { frames := 1, cells := 0, slots := 0, locals := 22 })
abbrev mX9_letter : z_M := (yX9_letter, cX9_letter, 4, (some .int), { frames := 2, cells := 0, slots := 0, locals := 43 })
abbrev mX9_gap : z_M := (yX9_gap, cX9_gap, 4, (some .int), { frames := 5, cells := 0, slots := 0, locals := 112 })
abbrev mX9_gapsOf : z_M := (yX9_gapsOf, cX9_gapsOf, 4, (some .int), { frames := 2, cells := 0, slots := 0, locals := 43 })
abbrev mX9_event : z_M := (yX9_event, cX9_event, 4, (some .int), { frames := 4, cells := 0, slots := 0, locals := 89 })
abbrev mX9_bound : z_M := (yX9_bound, cX9_bound, 4, (some .int), { frames := 4, cells := 0, slots := 0, locals := 89 })
abbrev mX9_laysWay : z_M := (yX9_laysWay, cX9_laysWay, 8, (some .int), { frames := 2, cells := 0, slots := 0, locals := 43 })
abbrev mX9_laysSums : z_M := (yX9_laysSums, cX9_laysSums, 6, none, { frames := 0, cells := 0, slots := 0, locals := 0 })
abbrev mX9_firstStep : z_M := (yX9_firstStep, cX9_firstStep, 5, (some .int), { frames := 0, cells := 0, slots := 0, locals := 0 })
abbrev mX9_way : z_M := (yX9_way, cX9_way, 5, (some .int), { frames := 4, cells := 0, slots := 0, locals := 89 })
abbrev mX9_wayLength : z_M := (yX9_wayLength, cX9_wayLength, 4, (some .int), { frames := 4, cells := 0, slots := 0, locals := 89 })
abbrev mX9_relationOf : z_M := (yX9_relationOf, cX9_relationOf, 5, (some .int), { frames := 2, cells := 0, slots := 0, locals := 43 })
abbrev mX9_relation : z_M := (yX9_relation, cX9_relation, 4, (some .int), { frames := 4, cells := 0, slots := 0, locals := 89 })
abbrev mX9_play : z_M := (yX9_play, cX9_play, 4, (some .int), { frames := 4, cells := 0, slots := 0, locals := 89 })
abbrev mX9_pairs : z_M := (yX9_pairs, cX9_pairs, 6, (some .int), { frames := 4, cells := 0, slots := 0, locals := 89 })
abbrev mX9_direct : z_M := (yX9_direct, cX9_direct, 5, (some .int), { frames := 4, cells := 0, slots := 0, locals := 89 })
abbrev mX9_timeOf : z_M := (yX9_timeOf, cX9_timeOf, 3, (some .int), { frames := 3, cells := 0, slots := 0, locals := 64 })
abbrev mX9_placed : z_M := (yX9_placed, cX9_placed, 8, (some .int), { frames := 4, cells := 0, slots := 0, locals := 89 })
abbrev mX9_ordered : z_M := (yX9_ordered, cX9_ordered, 2, (some .int), { frames := 5, cells := 0, slots := 0, locals := 116 })
abbrev mX9_lastly : z_M := (yX9_lastly, cX9_lastly, 2, (some .int), { frames := 5, cells := 0, slots := 0, locals := 116 })
abbrev mX9_middle : z_M := (yX9_middle, cX9_middle, 4, (some .int), { frames := 4, cells := 0, slots := 0, locals := 89 })
abbrev mX9_can : z_M := (yX9_can, cX9_can, 4, (some .int), { frames := 4, cells := 0, slots := 0, locals := 89 })
abbrev mX9_widest : z_M := (yX9_widest, cX9_widest, 6, (some .int), { frames := 4, cells := 0, slots := 0, locals := 89 })
abbrev mX9_freest : z_M := (yX9_freest, cX9_freest, 4, (some .int), { frames := 4, cells := 0, slots := 0, locals := 89 })
abbrev mX9_laysAside : z_M := (yX9_laysAside, cX9_laysAside, 5, none, { frames := 0, cells := 0, slots := 0, locals := 0 })
abbrev mX9_leastRing : z_M := (yX9_leastRing, cX9_leastRing, 1, (some .int), { frames := 2, cells := 0, slots := 0, locals := 43 })
abbrev mX9_isShortRing : z_M := (yX9_isShortRing, cX9_isShortRing, 3, (some .boolean), { frames := 0, cells := 0, slots := 0, locals := 0 })
abbrev mX9_why : z_M := (yX9_why, cX9_why, 8, (some .int), { frames := 4, cells := 0, slots := 0, locals := 89 })
abbrev mX9_ring : z_M := (yX9_ring, cX9_ring, 7, (some .int), { frames := 4, cells := 0, slots := 0, locals := 89 })
abbrev mX9_culprit : z_M := (yX9_culprit, cX9_culprit, 9, (some .int), { frames := 4, cells := 0, slots := 0, locals := 89 })
abbrev mX9_tightestOf : z_M := (yX9_tightestOf, cX9_tightestOf, 5, (some .int), { frames := 2, cells := 0, slots := 0, locals := 43 })
abbrev mX9_tightest : z_M := (yX9_tightest, cX9_tightest, 5, (some .int), { frames := 4, cells := 0, slots := 0, locals := 89 })
abbrev mX9_spare : z_M := (yX9_spare, cX9_spare, 4, (some .int), { frames := 4, cells := 0, slots := 0, locals := 89 })
abbrev mX9_needless : z_M := (yX9_needless, cX9_needless, 1, (some .int), { frames := 6, cells := 0, slots := 0, locals := 133 })
abbrev mX9_needs : z_M := (yX9_needs, cX9_needs, 2, (some .int), { frames := 6, cells := 0, slots := 0, locals := 136 })
abbrev mX9_keepsBounds : z_M := (yX9_keepsBounds, cX9_keepsBounds, 3, none, { frames := 4, cells := 0, slots := 0, locals := 89 })
abbrev mX9_otherBounds : z_M := (yX9_otherBounds, cX9_otherBounds, 4, (some .int), { frames := 1, cells := 0, slots := 0, locals := 21 })
abbrev mX9_otherTimes : z_M := (yX9_otherTimes, cX9_otherTimes, 3, (some .int), { frames := 2, cells := 0, slots := 0, locals := 43 })
abbrev mX9_tellsThen : z_M := (yX9_tellsThen, cX9_tellsThen, 2, (some .int), { frames := 5, cells := 0, slots := 0, locals := 107 })
abbrev mX9_ifTold : z_M := (yX9_ifTold, cX9_ifTold, 10, (some .int), { frames := 5, cells := 0, slots := 0, locals := 111 })
abbrev mX9_ifDropped : z_M := (yX9_ifDropped, cX9_ifDropped, 3, (some .int), { frames := 6, cells := 0, slots := 0, locals := 128 })
abbrev mX9_ifTurned : z_M := (yX9_ifTurned, cX9_ifTurned, 3, (some .int), { frames := 6, cells := 0, slots := 0, locals := 128 })
abbrev mX9_ifPinned : z_M := (yX9_ifPinned, cX9_ifPinned, 4, (some .int), { frames := 6, cells := 0, slots := 0, locals := 128 })
abbrev mX9_leastEnd : z_M := (yX9_leastEnd, cX9_leastEnd, 2, (some .int), { frames := 4, cells := 0, slots := 0, locals := 89 })
abbrev mX9_slowest : z_M := (yX9_slowest, cX9_slowest, 5, (some .int), { frames := 4, cells := 0, slots := 0, locals := 89 })
abbrev mX9_tightShare : z_M := (yX9_tightShare, cX9_tightShare, 1, (some .float), { frames := 5, cells := 0, slots := 0, locals := 112 })
abbrev mX9_meanRoom : z_M := (yX9_meanRoom, cX9_meanRoom, 2, (some .double), { frames := 5, cells := 0, slots := 0, locals := 107 })
abbrev mX9_says : z_M := (yX9_says, cX9_says, 2, none, { frames := 0, cells := 0, slots := 0, locals := 0 })
abbrev mX9_saysWord : z_M := (yX9_saysWord, cX9_saysWord, 3, none, { frames := 2, cells := 0, slots := 0, locals := 43 })
abbrev mX9_saysNumber : z_M := (yX9_saysNumber, cX9_saysNumber, 3, none, { frames := 1, cells := 0, slots := 0, locals := 21 })
abbrev mX9_saysKey : z_M := (yX9_saysKey, cX9_saysKey, 3, none, { frames := 3, cells := 0, slots := 0, locals := 65 })
abbrev mX9_saysEvent : z_M := (yX9_saysEvent, cX9_saysEvent, 2, none, { frames := 3, cells := 0, slots := 0, locals := 65 })
abbrev mX9_toldByte : z_M := (yX9_toldByte, cX9_toldByte, 2, (some .int), { frames := 0, cells := 0, slots := 0, locals := 0 })
abbrev mX9_writesList : z_M := (yX9_writesList, cX9_writesList, 3, none, { frames := 4, cells := 0, slots := 0, locals := 89 })
abbrev mX9_listLength : z_M := (yX9_listLength, cX9_listLength, 1, (some .int), { frames := 5, cells := 0, slots := 0, locals := 111 })
abbrev mX9_listByte : z_M := (yX9_listByte, cX9_listByte, 2, (some .int), { frames := 5, cells := 0, slots := 0, locals := 111 })
abbrev mX9_writesGap : z_M := (yX9_writesGap, cX9_writesGap, 2, none, { frames := 4, cells := 0, slots := 0, locals := 87 })
abbrev mX9_writesSetup : z_M := (yX9_writesSetup, cX9_writesSetup, 2, none, { frames := 5, cells := 0, slots := 0, locals := 108 })
abbrev mX9_setupLength : z_M := (yX9_setupLength, cX9_setupLength, 1, (some .int), { frames := 6, cells := 0, slots := 0, locals := 129 })
abbrev mX9_setupByte : z_M := (yX9_setupByte, cX9_setupByte, 2, (some .int), { frames := 6, cells := 0, slots := 0, locals := 129 })
abbrev mJ9_floorDiv_7cf53 : z_M := (yJ9_floorDiv_7cf53, cJ9_floorDiv_7cf53, 3, (some .int), { frames := 0, cells := 0, slots := 0, locals := 0 })
abbrev mJ9_floorMod_7cf53 : z_M := (yJ9_floorMod_7cf53, cJ9_floorMod_7cf53, 3, (some .int), { frames := 0, cells := 0, slots := 0, locals := 0 })
abbrev mJ9_abs_0f7a4 : z_M := (yJ9_abs_0f7a4, cJ9_abs_0f7a4, 1, (some .int), { frames := 0, cells := 0, slots := 0, locals := 0 })
abbrev mJ9_max_7cf53 : z_M := (yJ9_max_7cf53, cJ9_max_7cf53, 2, (some .int), { frames := 0, cells := 0, slots := 0, locals := 0 })
abbrev mJ9_min_7cf53 : z_M := (yJ9_min_7cf53, cJ9_min_7cf53, 2, (some .int), { frames := 0, cells := 0, slots := 0, locals := 0 })
abbrev mJ0_length_8abf5 : z_M := (yJ0_length_8abf5, cJ0_length_8abf5, 1, (some .int), { frames := 1, cells := 0, slots := 0, locals := 20 })
abbrev mJ0_charAt_5068e : z_M := (yJ0_charAt_5068e, cJ0_charAt_5068e, 2, (some .char), { frames := 3, cells := 0, slots := 0, locals := 64 })
abbrev mJ0_coder_7d493 : z_M := (yJ0_coder_7d493, cJ0_coder_7d493, 1, (some .byte), { frames := 0, cells := 0, slots := 0, locals := 0 })
abbrev mJ0_isLatin1_aae02 : z_M := (yJ0_isLatin1_aae02, cJ0_isLatin1_aae02, 1, (some .boolean), { frames := 0, cells := 0, slots := 0, locals := 0 })
abbrev mJ0_checkIndex_df160 : z_M := (yJ0_checkIndex_df160, cJ0_checkIndex_df160, 2, none, { frames := 1, cells := 0, slots := 0, locals := 22 })
abbrev mJ1_charAt_3b067 : z_M := (yJ1_charAt_3b067, cJ1_charAt_3b067, 2, (some .char), { frames := 2, cells := 0, slots := 0, locals := 43 })
abbrev mJ3_checkIndex_8e157 : z_M := (yJ3_checkIndex_8e157, cJ3_checkIndex_8e157, 3, (some .int), { frames := 0, cells := 0, slots := 0, locals := 0 })
abbrev mL_law : z_M := (x, code, 8, (some .boolean), room_1)
theorem zmX0_init : z_me mX0_init 0 := ⟨z_w1 330 (by decide +kernel) (by decide +kernel), z_w1 181 (by decide +kernel) (by decide +kernel), by decide +kernel, by decide +kernel, by decide +kernel⟩
theorem znX0_init : Cond.instanceMethod yX0_init ∈ z_tb := z_w1 329 (by decide +kernel) (by decide +kernel)
theorem zmX0_clear : z_me mX0_clear 0 := ⟨z_w1 759 (by decide +kernel) (by decide +kernel), z_w1 181 (by decide +kernel) (by decide +kernel), by decide +kernel, by decide +kernel, by decide +kernel⟩
theorem znX0_clear : Cond.instanceMethod yX0_clear ∈ z_tb := z_w1 758 (by decide +kernel) (by decide +kernel)
theorem zsX0_clear : Cond.selects RX0 yX0_clear yX0_clear ∈ z_tb := z_w1 47 (by decide +kernel) (by decide +kernel)
theorem zmX0_remember : z_me mX0_remember 1 := ⟨z_w1 777 (by decide +kernel) (by decide +kernel), z_w1 181 (by decide +kernel) (by decide +kernel), by decide +kernel, by decide +kernel, by decide +kernel⟩
theorem znX0_remember : Cond.instanceMethod yX0_remember ∈ z_tb := z_w1 776 (by decide +kernel) (by decide +kernel)
theorem zsX0_remember : Cond.selects RX0 yX0_remember yX0_remember ∈ z_tb := z_w1 49 (by decide +kernel) (by decide +kernel)
theorem zmX0_bringBack : z_me mX0_bringBack 1 := ⟨z_w1 967 (by decide +kernel) (by decide +kernel), z_w1 181 (by decide +kernel) (by decide +kernel), by decide +kernel, by decide +kernel, by decide +kernel⟩
theorem znX0_bringBack : Cond.instanceMethod yX0_bringBack ∈ z_tb := z_w1 966 (by decide +kernel) (by decide +kernel)
theorem zsX0_bringBack : Cond.selects RX0 yX0_bringBack yX0_bringBack ∈ z_tb := z_w1 74 (by decide +kernel) (by decide +kernel)
theorem zmX1_init : z_me mX1_init 0 := ⟨z_w1 211 (by decide +kernel) (by decide +kernel), z_w1 179 (by decide +kernel) (by decide +kernel), by decide +kernel, by decide +kernel, by decide +kernel⟩
theorem znX1_init : Cond.instanceMethod yX1_init ∈ z_tb := z_w1 210 (by decide +kernel) (by decide +kernel)
theorem zmX1_clear : z_me mX1_clear 0 := ⟨z_w1 429 (by decide +kernel) (by decide +kernel), z_w1 179 (by decide +kernel) (by decide +kernel), by decide +kernel, by decide +kernel, by decide +kernel⟩
theorem znX1_clear : Cond.instanceMethod yX1_clear ∈ z_tb := z_w1 428 (by decide +kernel) (by decide +kernel)
theorem zsX1_clear : Cond.selects RX1 yX1_clear yX1_clear ∈ z_tb := z_w1 1 (by decide +kernel) (by decide +kernel)
theorem zmX1_copyFrom : z_me mX1_copyFrom 1 := ⟨z_w1 750 (by decide +kernel) (by decide +kernel), z_w1 179 (by decide +kernel) (by decide +kernel), by decide +kernel, by decide +kernel, by decide +kernel⟩
theorem znX1_copyFrom : Cond.instanceMethod yX1_copyFrom ∈ z_tb := z_w1 749 (by decide +kernel) (by decide +kernel)
theorem zsX1_copyFrom : Cond.selects RX1 yX1_copyFrom yX1_copyFrom ∈ z_tb := z_w1 45 (by decide +kernel) (by decide +kernel)
theorem zmX1_note : z_me mX1_note 3 := ⟨z_w1 787 (by decide +kernel) (by decide +kernel), z_w1 179 (by decide +kernel) (by decide +kernel), by decide +kernel, by decide +kernel, by decide +kernel⟩
theorem znX1_note : Cond.instanceMethod yX1_note ∈ z_tb := z_w1 786 (by decide +kernel) (by decide +kernel)
theorem zsX1_note : Cond.selects RX1 yX1_note yX1_note ∈ z_tb := z_w1 51 (by decide +kernel) (by decide +kernel)
theorem zmX1_part : z_me mX1_part 2 := ⟨z_w1 1191 (by decide +kernel) (by decide +kernel), z_w1 179 (by decide +kernel) (by decide +kernel), by decide +kernel, by decide +kernel, by decide +kernel⟩
theorem znX1_part : Cond.instanceMethod yX1_part ∈ z_tb := z_w1 1190 (by decide +kernel) (by decide +kernel)
theorem zsX1_part : Cond.selects RX1 yX1_part yX1_part ∈ z_tb := z_w1 94 (by decide +kernel) (by decide +kernel)
theorem zmX2_init : z_me mX2_init 0 := ⟨z_w1 301 (by decide +kernel) (by decide +kernel), z_w1 180 (by decide +kernel) (by decide +kernel), by decide +kernel, by decide +kernel, by decide +kernel⟩
theorem znX2_init : Cond.instanceMethod yX2_init ∈ z_tb := z_w1 300 (by decide +kernel) (by decide +kernel)
theorem zmX2_build : z_me mX2_build 2 := ⟨z_w1 486 (by decide +kernel) (by decide +kernel), z_w1 180 (by decide +kernel) (by decide +kernel), by decide +kernel, by decide +kernel, by decide +kernel⟩
theorem znX2_build : Cond.instanceMethod yX2_build ∈ z_tb := z_w1 485 (by decide +kernel) (by decide +kernel)
theorem zsX2_build : Cond.selects RX2 yX2_build yX2_build ∈ z_tb := z_w1 3 (by decide +kernel) (by decide +kernel)
theorem zmX2_collectSteps : z_me mX2_collectSteps 2 := ⟨z_w1 490 (by decide +kernel) (by decide +kernel), z_w1 180 (by decide +kernel) (by decide +kernel), by decide +kernel, by decide +kernel, by decide +kernel⟩
theorem znX2_collectSteps : Cond.instanceMethod yX2_collectSteps ∈ z_tb := z_w1 489 (by decide +kernel) (by decide +kernel)
theorem zsX2_collectSteps : Cond.selects RX2 yX2_collectSteps yX2_collectSteps ∈ z_tb := z_w1 4 (by decide +kernel) (by decide +kernel)
theorem zmX2_collect : z_me mX2_collect 4 := ⟨z_w1 503 (by decide +kernel) (by decide +kernel), z_w1 180 (by decide +kernel) (by decide +kernel), by decide +kernel, by decide +kernel, by decide +kernel⟩
theorem znX2_collect : Cond.instanceMethod yX2_collect ∈ z_tb := z_w1 502 (by decide +kernel) (by decide +kernel)
theorem zsX2_collect : Cond.selects RX2 yX2_collect yX2_collect ∈ z_tb := z_w1 5 (by decide +kernel) (by decide +kernel)
theorem zmX2_startWeights : z_me mX2_startWeights 0 := ⟨z_w1 511 (by decide +kernel) (by decide +kernel), z_w1 180 (by decide +kernel) (by decide +kernel), by decide +kernel, by decide +kernel, by decide +kernel⟩
theorem znX2_startWeights : Cond.instanceMethod yX2_startWeights ∈ z_tb := z_w1 510 (by decide +kernel) (by decide +kernel)
theorem zsX2_startWeights : Cond.selects RX2 yX2_startWeights yX2_startWeights ∈ z_tb := z_w1 7 (by decide +kernel) (by decide +kernel)
theorem zmX2_closeWeights : z_me mX2_closeWeights 0 := ⟨z_w1 522 (by decide +kernel) (by decide +kernel), z_w1 180 (by decide +kernel) (by decide +kernel), by decide +kernel, by decide +kernel, by decide +kernel⟩
theorem znX2_closeWeights : Cond.instanceMethod yX2_closeWeights ∈ z_tb := z_w1 521 (by decide +kernel) (by decide +kernel)
theorem zsX2_closeWeights : Cond.selects RX2 yX2_closeWeights yX2_closeWeights ∈ z_tb := z_w1 8 (by decide +kernel) (by decide +kernel)
theorem zmX2_copyBounds : z_me mX2_copyBounds 1 := ⟨z_w1 914 (by decide +kernel) (by decide +kernel), z_w1 180 (by decide +kernel) (by decide +kernel), by decide +kernel, by decide +kernel, by decide +kernel⟩
theorem znX2_copyBounds : Cond.instanceMethod yX2_copyBounds ∈ z_tb := z_w1 913 (by decide +kernel) (by decide +kernel)
theorem zsX2_copyBounds : Cond.selects RX2 yX2_copyBounds yX2_copyBounds ∈ z_tb := z_w1 68 (by decide +kernel) (by decide +kernel)
theorem zmX2_addStep : z_me mX2_addStep 3 := ⟨z_w1 713 (by decide +kernel) (by decide +kernel), z_w1 180 (by decide +kernel) (by decide +kernel), by decide +kernel, by decide +kernel, by decide +kernel⟩
theorem znX2_addStep : Cond.instanceMethod yX2_addStep ∈ z_tb := z_w1 712 (by decide +kernel) (by decide +kernel)
theorem zsX2_addStep : Cond.selects RX2 yX2_addStep yX2_addStep ∈ z_tb := z_w1 37 (by decide +kernel) (by decide +kernel)
theorem zmX2_addGapStep : z_me mX2_addGapStep 4 := ⟨z_w1 709 (by decide +kernel) (by decide +kernel), z_w1 180 (by decide +kernel) (by decide +kernel), by decide +kernel, by decide +kernel, by decide +kernel⟩
theorem znX2_addGapStep : Cond.instanceMethod yX2_addGapStep ∈ z_tb := z_w1 708 (by decide +kernel) (by decide +kernel)
theorem zsX2_addGapStep : Cond.selects RX2 yX2_addGapStep yX2_addGapStep ∈ z_tb := z_w1 36 (by decide +kernel) (by decide +kernel)
theorem zmX2_addPin : z_me mX2_addPin 2 := ⟨z_w1 735 (by decide +kernel) (by decide +kernel), z_w1 180 (by decide +kernel) (by decide +kernel), by decide +kernel, by decide +kernel, by decide +kernel⟩
theorem znX2_addPin : Cond.instanceMethod yX2_addPin ∈ z_tb := z_w1 734 (by decide +kernel) (by decide +kernel)
theorem zsX2_addPin : Cond.selects RX2 yX2_addPin yX2_addPin ∈ z_tb := z_w1 42 (by decide +kernel) (by decide +kernel)
theorem zmX2_weightOf : z_me mX2_weightOf 1 := ⟨z_w1 515 (by decide +kernel) (by decide +kernel), z_w1 180 (by decide +kernel) (by decide +kernel), by decide +kernel, by decide +kernel, by decide +kernel⟩
theorem ztX2_weightOf : Cond.static yX2_weightOf ∈ z_tb := z_w1 514 (by decide +kernel) (by decide +kernel)
theorem zmX2_between : z_me mX2_between 2 := ⟨z_w1 698 (by decide +kernel) (by decide +kernel), z_w1 180 (by decide +kernel) (by decide +kernel), by decide +kernel, by decide +kernel, by decide +kernel⟩
theorem znX2_between : Cond.instanceMethod yX2_between ∈ z_tb := z_w1 697 (by decide +kernel) (by decide +kernel)
theorem zsX2_between : Cond.selects RX2 yX2_between yX2_between ∈ z_tb := z_w1 34 (by decide +kernel) (by decide +kernel)
theorem zmX2_stepsBetween : z_me mX2_stepsBetween 2 := ⟨z_w1 1040 (by decide +kernel) (by decide +kernel), z_w1 180 (by decide +kernel) (by decide +kernel), by decide +kernel, by decide +kernel, by decide +kernel⟩
theorem znX2_stepsBetween : Cond.instanceMethod yX2_stepsBetween ∈ z_tb := z_w1 1039 (by decide +kernel) (by decide +kernel)
theorem zsX2_stepsBetween : Cond.selects RX2 yX2_stepsBetween yX2_stepsBetween ∈ z_tb := z_w1 84 (by decide +kernel) (by decide +kernel)
theorem zmX2_earliest : z_me mX2_earliest 1 := ⟨z_w1 727 (by decide +kernel) (by decide +kernel), z_w1 180 (by decide +kernel) (by decide +kernel), by decide +kernel, by decide +kernel, by decide +kernel⟩
theorem znX2_earliest : Cond.instanceMethod yX2_earliest ∈ z_tb := z_w1 726 (by decide +kernel) (by decide +kernel)
theorem zsX2_earliest : Cond.selects RX2 yX2_earliest yX2_earliest ∈ z_tb := z_w1 40 (by decide +kernel) (by decide +kernel)
theorem zmX2_latest : z_me mX2_latest 1 := ⟨z_w1 731 (by decide +kernel) (by decide +kernel), z_w1 180 (by decide +kernel) (by decide +kernel), by decide +kernel, by decide +kernel, by decide +kernel⟩
theorem znX2_latest : Cond.instanceMethod yX2_latest ∈ z_tb := z_w1 730 (by decide +kernel) (by decide +kernel)
theorem zsX2_latest : Cond.selects RX2 yX2_latest yX2_latest ∈ z_tb := z_w1 41 (by decide +kernel) (by decide +kernel)
theorem zmX2_possibleTimes : z_me mX2_possibleTimes 1 := ⟨z_w1 991 (by decide +kernel) (by decide +kernel), z_w1 180 (by decide +kernel) (by decide +kernel), by decide +kernel, by decide +kernel, by decide +kernel⟩
theorem znX2_possibleTimes : Cond.instanceMethod yX2_possibleTimes ∈ z_tb := z_w1 990 (by decide +kernel) (by decide +kernel)
theorem zsX2_possibleTimes : Cond.selects RX2 yX2_possibleTimes yX2_possibleTimes ∈ z_tb := z_w1 79 (by decide +kernel) (by decide +kernel)
theorem zmX2_allows : z_me mX2_allows 2 := ⟨z_w1 723 (by decide +kernel) (by decide +kernel), z_w1 180 (by decide +kernel) (by decide +kernel), by decide +kernel, by decide +kernel, by decide +kernel⟩
theorem znX2_allows : Cond.instanceMethod yX2_allows ∈ z_tb := z_w1 722 (by decide +kernel) (by decide +kernel)
theorem zsX2_allows : Cond.selects RX2 yX2_allows yX2_allows ∈ z_tb := z_w1 39 (by decide +kernel) (by decide +kernel)
theorem zmX2_leastRing : z_me mX2_leastRing 4 := ⟨z_w1 694 (by decide +kernel) (by decide +kernel), z_w1 180 (by decide +kernel) (by decide +kernel), by decide +kernel, by decide +kernel, by decide +kernel⟩
theorem znX2_leastRing : Cond.instanceMethod yX2_leastRing ∈ z_tb := z_w1 693 (by decide +kernel) (by decide +kernel)
theorem zsX2_leastRing : Cond.selects RX2 yX2_leastRing yX2_leastRing ∈ z_tb := z_w1 33 (by decide +kernel) (by decide +kernel)
theorem zmX2_oneStepDenies : z_me mX2_oneStepDenies 4 := ⟨z_w1 1104 (by decide +kernel) (by decide +kernel), z_w1 180 (by decide +kernel) (by decide +kernel), by decide +kernel, by decide +kernel, by decide +kernel⟩
theorem znX2_oneStepDenies : Cond.instanceMethod yX2_oneStepDenies ∈ z_tb := z_w1 1103 (by decide +kernel) (by decide +kernel)
theorem zsX2_oneStepDenies : Cond.selects RX2 yX2_oneStepDenies yX2_oneStepDenies ∈ z_tb := z_w1 88 (by decide +kernel) (by decide +kernel)
theorem zmX2_stepOfWay : z_me mX2_stepOfWay 3 := ⟨z_w1 1028 (by decide +kernel) (by decide +kernel), z_w1 180 (by decide +kernel) (by decide +kernel), by decide +kernel, by decide +kernel, by decide +kernel⟩
theorem znX2_stepOfWay : Cond.instanceMethod yX2_stepOfWay ∈ z_tb := z_w1 1027 (by decide +kernel) (by decide +kernel)
theorem zsX2_stepOfWay : Cond.selects RX2 yX2_stepOfWay yX2_stepOfWay ∈ z_tb := z_w1 82 (by decide +kernel) (by decide +kernel)
theorem zmX2_firstStep : z_me mX2_firstStep 2 := ⟨z_w1 1032 (by decide +kernel) (by decide +kernel), z_w1 180 (by decide +kernel) (by decide +kernel), by decide +kernel, by decide +kernel, by decide +kernel⟩
theorem znX2_firstStep : Cond.instanceMethod yX2_firstStep ∈ z_tb := z_w1 1031 (by decide +kernel) (by decide +kernel)
theorem zsX2_firstStep : Cond.selects RX2 yX2_firstStep yX2_firstStep ∈ z_tb := z_w1 83 (by decide +kernel) (by decide +kernel)
theorem zmX2_countSettled : z_me mX2_countSettled 0 := ⟨z_w1 987 (by decide +kernel) (by decide +kernel), z_w1 180 (by decide +kernel) (by decide +kernel), by decide +kernel, by decide +kernel, by decide +kernel⟩
theorem znX2_countSettled : Cond.instanceMethod yX2_countSettled ∈ z_tb := z_w1 986 (by decide +kernel) (by decide +kernel)
theorem zsX2_countSettled : Cond.selects RX2 yX2_countSettled yX2_countSettled ∈ z_tb := z_w1 78 (by decide +kernel) (by decide +kernel)
theorem zmX2_greatestEarliest : z_me mX2_greatestEarliest 0 := ⟨z_w1 870 (by decide +kernel) (by decide +kernel), z_w1 180 (by decide +kernel) (by decide +kernel), by decide +kernel, by decide +kernel, by decide +kernel⟩
theorem znX2_greatestEarliest : Cond.instanceMethod yX2_greatestEarliest ∈ z_tb := z_w1 869 (by decide +kernel) (by decide +kernel)
theorem zsX2_greatestEarliest : Cond.selects RX2 yX2_greatestEarliest yX2_greatestEarliest ∈ z_tb := z_w1 61 (by decide +kernel) (by decide +kernel)
theorem zmX2_room : z_me mX2_room 0 := ⟨z_w1 931 (by decide +kernel) (by decide +kernel), z_w1 180 (by decide +kernel) (by decide +kernel), by decide +kernel, by decide +kernel, by decide +kernel⟩
theorem znX2_room : Cond.instanceMethod yX2_room ∈ z_tb := z_w1 930 (by decide +kernel) (by decide +kernel)
theorem zsX2_room : Cond.selects RX2 yX2_room yX2_room ∈ z_tb := z_w1 71 (by decide +kernel) (by decide +kernel)
theorem zmX2_placeByEarliest : z_me mX2_placeByEarliest 1 := ⟨z_w1 1071 (by decide +kernel) (by decide +kernel), z_w1 180 (by decide +kernel) (by decide +kernel), by decide +kernel, by decide +kernel, by decide +kernel⟩
theorem znX2_placeByEarliest : Cond.instanceMethod yX2_placeByEarliest ∈ z_tb := z_w1 1070 (by decide +kernel) (by decide +kernel)
theorem zsX2_placeByEarliest : Cond.selects RX2 yX2_placeByEarliest yX2_placeByEarliest ∈ z_tb := z_w1 86 (by decide +kernel) (by decide +kernel)
theorem zmX2_placeByLatest : z_me mX2_placeByLatest 1 := ⟨z_w1 1084 (by decide +kernel) (by decide +kernel), z_w1 180 (by decide +kernel) (by decide +kernel), by decide +kernel, by decide +kernel, by decide +kernel⟩
theorem znX2_placeByLatest : Cond.instanceMethod yX2_placeByLatest ∈ z_tb := z_w1 1083 (by decide +kernel) (by decide +kernel)
theorem zsX2_placeByLatest : Cond.selects RX2 yX2_placeByLatest yX2_placeByLatest ∈ z_tb := z_w1 87 (by decide +kernel) (by decide +kernel)
theorem zmX2_countOtherBounds : z_me mX2_countOtherBounds 1 := ⟨z_w1 1158 (by decide +kernel) (by decide +kernel), z_w1 180 (by decide +kernel) (by decide +kernel), by decide +kernel, by decide +kernel, by decide +kernel⟩
theorem znX2_countOtherBounds : Cond.instanceMethod yX2_countOtherBounds ∈ z_tb := z_w1 1157 (by decide +kernel) (by decide +kernel)
theorem zsX2_countOtherBounds : Cond.selects RX2 yX2_countOtherBounds yX2_countOtherBounds ∈ z_tb := z_w1 92 (by decide +kernel) (by decide +kernel)
theorem zmX2_countOtherTimes : z_me mX2_countOtherTimes 1 := ⟨z_w1 1162 (by decide +kernel) (by decide +kernel), z_w1 180 (by decide +kernel) (by decide +kernel), by decide +kernel, by decide +kernel, by decide +kernel⟩
theorem znX2_countOtherTimes : Cond.instanceMethod yX2_countOtherTimes ∈ z_tb := z_w1 1161 (by decide +kernel) (by decide +kernel)
theorem zsX2_countOtherTimes : Cond.selects RX2 yX2_countOtherTimes yX2_countOtherTimes ∈ z_tb := z_w1 93 (by decide +kernel) (by decide +kernel)
theorem zmX3_init : z_me mX3_init 0 := ⟨z_w1 205 (by decide +kernel) (by decide +kernel), z_w1 178 (by decide +kernel) (by decide +kernel), by decide +kernel, by decide +kernel, by decide +kernel⟩
theorem znX3_init : Cond.instanceMethod yX3_init ∈ z_tb := z_w1 204 (by decide +kernel) (by decide +kernel)
theorem zmX3_clear : z_me mX3_clear 0 := ⟨z_w1 425 (by decide +kernel) (by decide +kernel), z_w1 178 (by decide +kernel) (by decide +kernel), by decide +kernel, by decide +kernel, by decide +kernel⟩
theorem znX3_clear : Cond.instanceMethod yX3_clear ∈ z_tb := z_w1 424 (by decide +kernel) (by decide +kernel)
theorem zsX3_clear : Cond.selects RX3 yX3_clear yX3_clear ∈ z_tb := z_w1 0 (by decide +kernel) (by decide +kernel)
theorem zmX3_addStart : z_me mX3_addStart 0 := ⟨z_w1 433 (by decide +kernel) (by decide +kernel), z_w1 178 (by decide +kernel) (by decide +kernel), by decide +kernel, by decide +kernel, by decide +kernel⟩
theorem znX3_addStart : Cond.instanceMethod yX3_addStart ∈ z_tb := z_w1 432 (by decide +kernel) (by decide +kernel)
theorem zsX3_addStart : Cond.selects RX3 yX3_addStart yX3_addStart ∈ z_tb := z_w1 2 (by decide +kernel) (by decide +kernel)
theorem zmX3_copyFrom : z_me mX3_copyFrom 1 := ⟨z_w1 743 (by decide +kernel) (by decide +kernel), z_w1 178 (by decide +kernel) (by decide +kernel), by decide +kernel, by decide +kernel, by decide +kernel⟩
theorem znX3_copyFrom : Cond.instanceMethod yX3_copyFrom ∈ z_tb := z_w1 742 (by decide +kernel) (by decide +kernel)
theorem zsX3_copyFrom : Cond.selects RX3 yX3_copyFrom yX3_copyFrom ∈ z_tb := z_w1 44 (by decide +kernel) (by decide +kernel)
theorem zmX3_addEvent : z_me mX3_addEvent 3 := ⟨z_w1 672 (by decide +kernel) (by decide +kernel), z_w1 178 (by decide +kernel) (by decide +kernel), by decide +kernel, by decide +kernel, by decide +kernel⟩
theorem znX3_addEvent : Cond.instanceMethod yX3_addEvent ∈ z_tb := z_w1 671 (by decide +kernel) (by decide +kernel)
theorem zsX3_addEvent : Cond.selects RX3 yX3_addEvent yX3_addEvent ∈ z_tb := z_w1 29 (by decide +kernel) (by decide +kernel)
theorem zmX3_nameEvent : z_me mX3_nameEvent 4 := ⟨z_w1 676 (by decide +kernel) (by decide +kernel), z_w1 178 (by decide +kernel) (by decide +kernel), by decide +kernel, by decide +kernel, by decide +kernel⟩
theorem znX3_nameEvent : Cond.instanceMethod yX3_nameEvent ∈ z_tb := z_w1 675 (by decide +kernel) (by decide +kernel)
theorem zsX3_nameEvent : Cond.selects RX3 yX3_nameEvent yX3_nameEvent ∈ z_tb := z_w1 30 (by decide +kernel) (by decide +kernel)
theorem zmX3_letterOf : z_me mX3_letterOf 2 := ⟨z_w1 667 (by decide +kernel) (by decide +kernel), z_w1 178 (by decide +kernel) (by decide +kernel), by decide +kernel, by decide +kernel, by decide +kernel⟩
theorem znX3_letterOf : Cond.instanceMethod yX3_letterOf ∈ z_tb := z_w1 666 (by decide +kernel) (by decide +kernel)
theorem zsX3_letterOf : Cond.selects RX3 yX3_letterOf yX3_letterOf ∈ z_tb := z_w1 28 (by decide +kernel) (by decide +kernel)
theorem zmX3_findEvent : z_me mX3_findEvent 3 := ⟨z_w1 659 (by decide +kernel) (by decide +kernel), z_w1 178 (by decide +kernel) (by decide +kernel), by decide +kernel, by decide +kernel, by decide +kernel⟩
theorem znX3_findEvent : Cond.instanceMethod yX3_findEvent ∈ z_tb := z_w1 658 (by decide +kernel) (by decide +kernel)
theorem zsX3_findEvent : Cond.selects RX3 yX3_findEvent yX3_findEvent ∈ z_tb := z_w1 26 (by decide +kernel) (by decide +kernel)
theorem zmX3_isNamed : z_me mX3_isNamed 4 := ⟨z_w1 663 (by decide +kernel) (by decide +kernel), z_w1 178 (by decide +kernel) (by decide +kernel), by decide +kernel, by decide +kernel, by decide +kernel⟩
theorem znX3_isNamed : Cond.instanceMethod yX3_isNamed ∈ z_tb := z_w1 662 (by decide +kernel) (by decide +kernel)
theorem zsX3_isNamed : Cond.selects RX3 yX3_isNamed yX3_isNamed ∈ z_tb := z_w1 27 (by decide +kernel) (by decide +kernel)
theorem zmX3_addGap : z_me mX3_addGap 5 := ⟨z_w1 705 (by decide +kernel) (by decide +kernel), z_w1 178 (by decide +kernel) (by decide +kernel), by decide +kernel, by decide +kernel, by decide +kernel⟩
theorem znX3_addGap : Cond.instanceMethod yX3_addGap ∈ z_tb := z_w1 704 (by decide +kernel) (by decide +kernel)
theorem zsX3_addGap : Cond.selects RX3 yX3_addGap yX3_addGap ∈ z_tb := z_w1 35 (by decide +kernel) (by decide +kernel)
theorem zmX3_removeGap : z_me mX3_removeGap 1 := ⟨z_w1 823 (by decide +kernel) (by decide +kernel), z_w1 178 (by decide +kernel) (by decide +kernel), by decide +kernel, by decide +kernel, by decide +kernel⟩
theorem znX3_removeGap : Cond.instanceMethod yX3_removeGap ∈ z_tb := z_w1 822 (by decide +kernel) (by decide +kernel)
theorem zsX3_removeGap : Cond.selects RX3 yX3_removeGap yX3_removeGap ∈ z_tb := z_w1 56 (by decide +kernel) (by decide +kernel)
theorem zmX3_isPinned : z_me mX3_isPinned 1 := ⟨z_w1 507 (by decide +kernel) (by decide +kernel), z_w1 178 (by decide +kernel) (by decide +kernel), by decide +kernel, by decide +kernel, by decide +kernel⟩
theorem znX3_isPinned : Cond.instanceMethod yX3_isPinned ∈ z_tb := z_w1 506 (by decide +kernel) (by decide +kernel)
theorem zsX3_isPinned : Cond.selects RX3 yX3_isPinned yX3_isPinned ∈ z_tb := z_w1 6 (by decide +kernel) (by decide +kernel)
theorem zmX3_hasEvent : z_me mX3_hasEvent 2 := ⟨z_w1 1015 (by decide +kernel) (by decide +kernel), z_w1 178 (by decide +kernel) (by decide +kernel), by decide +kernel, by decide +kernel, by decide +kernel⟩
theorem znX3_hasEvent : Cond.instanceMethod yX3_hasEvent ∈ z_tb := z_w1 1014 (by decide +kernel) (by decide +kernel)
theorem zsX3_hasEvent : Cond.selects RX3 yX3_hasEvent yX3_hasEvent ∈ z_tb := z_w1 81 (by decide +kernel) (by decide +kernel)
theorem zmX3_countPinned : z_me mX3_countPinned 0 := ⟨z_w1 856 (by decide +kernel) (by decide +kernel), z_w1 178 (by decide +kernel) (by decide +kernel), by decide +kernel, by decide +kernel, by decide +kernel⟩
theorem znX3_countPinned : Cond.instanceMethod yX3_countPinned ∈ z_tb := z_w1 855 (by decide +kernel) (by decide +kernel)
theorem zsX3_countPinned : Cond.selects RX3 yX3_countPinned yX3_countPinned ∈ z_tb := z_w1 60 (by decide +kernel) (by decide +kernel)
theorem zmX3_countOn : z_me mX3_countOn 0 := ⟨z_w1 975 (by decide +kernel) (by decide +kernel), z_w1 178 (by decide +kernel) (by decide +kernel), by decide +kernel, by decide +kernel, by decide +kernel⟩
theorem znX3_countOn : Cond.instanceMethod yX3_countOn ∈ z_tb := z_w1 974 (by decide +kernel) (by decide +kernel)
theorem zsX3_countOn : Cond.selects RX3 yX3_countOn yX3_countOn ∈ z_tb := z_w1 75 (by decide +kernel) (by decide +kernel)
theorem zmX3_countOnOf : z_me mX3_countOnOf 1 := ⟨z_w1 1011 (by decide +kernel) (by decide +kernel), z_w1 178 (by decide +kernel) (by decide +kernel), by decide +kernel, by decide +kernel, by decide +kernel⟩
theorem znX3_countOnOf : Cond.instanceMethod yX3_countOnOf ∈ z_tb := z_w1 1010 (by decide +kernel) (by decide +kernel)
theorem zsX3_countOnOf : Cond.selects RX3 yX3_countOnOf yX3_countOnOf ∈ z_tb := z_w1 80 (by decide +kernel) (by decide +kernel)
theorem zmX4_init : z_me mX4_init 0 := ⟨z_w1 367 (by decide +kernel) (by decide +kernel), z_w1 183 (by decide +kernel) (by decide +kernel), by decide +kernel, by decide +kernel, by decide +kernel⟩
theorem znX4_init : Cond.instanceMethod yX4_init ∈ z_tb := z_w1 366 (by decide +kernel) (by decide +kernel)
theorem zmX4_read : z_me mX4_read 0 := ⟨z_w1 571 (by decide +kernel) (by decide +kernel), z_w1 183 (by decide +kernel) (by decide +kernel), by decide +kernel, by decide +kernel, by decide +kernel⟩
theorem znX4_read : Cond.instanceMethod yX4_read ∈ z_tb := z_w1 570 (by decide +kernel) (by decide +kernel)
theorem zsX4_read : Cond.selects RX4 yX4_read yX4_read ∈ z_tb := z_w1 10 (by decide +kernel) (by decide +kernel)
theorem zmX4_position : z_me mX4_position 0 := ⟨z_w1 739 (by decide +kernel) (by decide +kernel), z_w1 183 (by decide +kernel) (by decide +kernel), by decide +kernel, by decide +kernel, by decide +kernel⟩
theorem znX4_position : Cond.instanceMethod yX4_position ∈ z_tb := z_w1 738 (by decide +kernel) (by decide +kernel)
theorem zsX4_position : Cond.selects RX4 yX4_position yX4_position ∈ z_tb := z_w1 43 (by decide +kernel) (by decide +kernel)
theorem zmX4_next : z_me mX4_next 0 := ⟨z_w1 576 (by decide +kernel) (by decide +kernel), z_w1 183 (by decide +kernel) (by decide +kernel), by decide +kernel, by decide +kernel, by decide +kernel⟩
theorem znX4_next : Cond.instanceMethod yX4_next ∈ z_tb := z_w1 575 (by decide +kernel) (by decide +kernel)
theorem zsX4_next : Cond.selects RX4 yX4_next yX4_next ∈ z_tb := z_w1 11 (by decide +kernel) (by decide +kernel)
theorem zmX4_isHere : z_me mX4_isHere 1 := ⟨z_w1 614 (by decide +kernel) (by decide +kernel), z_w1 183 (by decide +kernel) (by decide +kernel), by decide +kernel, by decide +kernel, by decide +kernel⟩
theorem znX4_isHere : Cond.instanceMethod yX4_isHere ∈ z_tb := z_w1 613 (by decide +kernel) (by decide +kernel)
theorem zsX4_isHere : Cond.selects RX4 yX4_isHere yX4_isHere ∈ z_tb := z_w1 18 (by decide +kernel) (by decide +kernel)
theorem zmX4_takeWord : z_me mX4_takeWord 1 := ⟨z_w1 610 (by decide +kernel) (by decide +kernel), z_w1 183 (by decide +kernel) (by decide +kernel), by decide +kernel, by decide +kernel, by decide +kernel⟩
theorem znX4_takeWord : Cond.instanceMethod yX4_takeWord ∈ z_tb := z_w1 609 (by decide +kernel) (by decide +kernel)
theorem zsX4_takeWord : Cond.selects RX4 yX4_takeWord yX4_takeWord ∈ z_tb := z_w1 17 (by decide +kernel) (by decide +kernel)
theorem zmX4_takeSemicolon : z_me mX4_takeSemicolon 0 := ⟨z_w1 628 (by decide +kernel) (by decide +kernel), z_w1 183 (by decide +kernel) (by decide +kernel), by decide +kernel, by decide +kernel, by decide +kernel⟩
theorem znX4_takeSemicolon : Cond.instanceMethod yX4_takeSemicolon ∈ z_tb := z_w1 627 (by decide +kernel) (by decide +kernel)
theorem zsX4_takeSemicolon : Cond.selects RX4 yX4_takeSemicolon yX4_takeSemicolon ∈ z_tb := z_w1 21 (by decide +kernel) (by decide +kernel)
theorem zmX4_numberHere : z_me mX4_numberHere 0 := ⟨z_w1 624 (by decide +kernel) (by decide +kernel), z_w1 183 (by decide +kernel) (by decide +kernel), by decide +kernel, by decide +kernel, by decide +kernel⟩
theorem znX4_numberHere : Cond.instanceMethod yX4_numberHere ∈ z_tb := z_w1 623 (by decide +kernel) (by decide +kernel)
theorem zsX4_numberHere : Cond.selects RX4 yX4_numberHere yX4_numberHere ∈ z_tb := z_w1 20 (by decide +kernel) (by decide +kernel)
theorem zmX4_eventHere : z_me mX4_eventHere 0 := ⟨z_w1 655 (by decide +kernel) (by decide +kernel), z_w1 183 (by decide +kernel) (by decide +kernel), by decide +kernel, by decide +kernel, by decide +kernel⟩
theorem znX4_eventHere : Cond.instanceMethod yX4_eventHere ∈ z_tb := z_w1 654 (by decide +kernel) (by decide +kernel)
theorem zsX4_eventHere : Cond.selects RX4 yX4_eventHere yX4_eventHere ∈ z_tb := z_w1 25 (by decide +kernel) (by decide +kernel)
theorem zmX4_kindHere : z_me mX4_kindHere 0 := ⟨z_w1 687 (by decide +kernel) (by decide +kernel), z_w1 183 (by decide +kernel) (by decide +kernel), by decide +kernel, by decide +kernel, by decide +kernel⟩
theorem znX4_kindHere : Cond.instanceMethod yX4_kindHere ∈ z_tb := z_w1 686 (by decide +kernel) (by decide +kernel)
theorem zsX4_kindHere : Cond.selects RX4 yX4_kindHere yX4_kindHere ∈ z_tb := z_w1 32 (by decide +kernel) (by decide +kernel)
theorem zmX4_readEnd : z_me mX4_readEnd 0 := ⟨z_w1 605 (by decide +kernel) (by decide +kernel), z_w1 183 (by decide +kernel) (by decide +kernel), by decide +kernel, by decide +kernel, by decide +kernel⟩
theorem znX4_readEnd : Cond.instanceMethod yX4_readEnd ∈ z_tb := z_w1 604 (by decide +kernel) (by decide +kernel)
theorem zsX4_readEnd : Cond.selects RX4 yX4_readEnd yX4_readEnd ∈ z_tb := z_w1 16 (by decide +kernel) (by decide +kernel)
theorem zmX4_readEvent : z_me mX4_readEvent 0 := ⟨z_w1 633 (by decide +kernel) (by decide +kernel), z_w1 183 (by decide +kernel) (by decide +kernel), by decide +kernel, by decide +kernel, by decide +kernel⟩
theorem znX4_readEvent : Cond.instanceMethod yX4_readEvent ∈ z_tb := z_w1 632 (by decide +kernel) (by decide +kernel)
theorem zsX4_readEvent : Cond.selects RX4 yX4_readEvent yX4_readEvent ∈ z_tb := z_w1 22 (by decide +kernel) (by decide +kernel)
theorem zmX4_readGap : z_me mX4_readGap 0 := ⟨z_w1 683 (by decide +kernel) (by decide +kernel), z_w1 183 (by decide +kernel) (by decide +kernel), by decide +kernel, by decide +kernel, by decide +kernel⟩
theorem znX4_readGap : Cond.instanceMethod yX4_readGap ∈ z_tb := z_w1 682 (by decide +kernel) (by decide +kernel)
theorem zsX4_readGap : Cond.selects RX4 yX4_readGap yX4_readGap ∈ z_tb := z_w1 31 (by decide +kernel) (by decide +kernel)
theorem zmX4_readPin : z_me mX4_readPin 0 := ⟨z_w1 718 (by decide +kernel) (by decide +kernel), z_w1 183 (by decide +kernel) (by decide +kernel), by decide +kernel, by decide +kernel, by decide +kernel⟩
theorem znX4_readPin : Cond.instanceMethod yX4_readPin ∈ z_tb := z_w1 717 (by decide +kernel) (by decide +kernel)
theorem zsX4_readPin : Cond.selects RX4 yX4_readPin yX4_readPin ∈ z_tb := z_w1 38 (by decide +kernel) (by decide +kernel)
theorem zmX5_init : z_me mX5_init 0 := ⟨z_w1 350 (by decide +kernel) (by decide +kernel), z_w1 182 (by decide +kernel) (by decide +kernel), by decide +kernel, by decide +kernel, by decide +kernel⟩
theorem znX5_init : Cond.instanceMethod yX5_init ∈ z_tb := z_w1 349 (by decide +kernel) (by decide +kernel)
theorem zmX5_clear : z_me mX5_clear 0 := ⟨z_w1 755 (by decide +kernel) (by decide +kernel), z_w1 182 (by decide +kernel) (by decide +kernel), by decide +kernel, by decide +kernel, by decide +kernel⟩
theorem znX5_clear : Cond.instanceMethod yX5_clear ∈ z_tb := z_w1 754 (by decide +kernel) (by decide +kernel)
theorem zsX5_clear : Cond.selects RX5 yX5_clear yX5_clear ∈ z_tb := z_w1 46 (by decide +kernel) (by decide +kernel)
theorem zmX6_init : z_me mX6_init 0 := ⟨z_w1 373 (by decide +kernel) (by decide +kernel), z_w1 184 (by decide +kernel) (by decide +kernel), by decide +kernel, by decide +kernel, by decide +kernel⟩
theorem znX6_init : Cond.instanceMethod yX6_init ∈ z_tb := z_w1 372 (by decide +kernel) (by decide +kernel)
theorem zmX6_putFourBytes : z_me mX6_putFourBytes 1 := ⟨z_w1 559 (by decide +kernel) (by decide +kernel), z_w1 184 (by decide +kernel) (by decide +kernel), by decide +kernel, by decide +kernel, by decide +kernel⟩
theorem znX6_putFourBytes : Cond.instanceMethod yX6_putFourBytes ∈ z_tb := z_w1 558 (by decide +kernel) (by decide +kernel)
theorem zsX6_putFourBytes : Cond.selects RX6 yX6_putFourBytes yX6_putFourBytes ∈ z_tb := z_w1 9 (by decide +kernel) (by decide +kernel)
theorem zmX6_byteAt : z_me mX6_byteAt 1 := ⟨z_w1 584 (by decide +kernel) (by decide +kernel), z_w1 184 (by decide +kernel) (by decide +kernel), by decide +kernel, by decide +kernel, by decide +kernel⟩
theorem znX6_byteAt : Cond.instanceMethod yX6_byteAt ∈ z_tb := z_w1 583 (by decide +kernel) (by decide +kernel)
theorem zsX6_byteAt : Cond.selects RX6 yX6_byteAt yX6_byteAt ∈ z_tb := z_w1 13 (by decide +kernel) (by decide +kernel)
theorem zmX6_isName : z_me mX6_isName 2 := ⟨z_w1 637 (by decide +kernel) (by decide +kernel), z_w1 184 (by decide +kernel) (by decide +kernel), by decide +kernel, by decide +kernel, by decide +kernel⟩
theorem znX6_isName : Cond.instanceMethod yX6_isName ∈ z_tb := z_w1 636 (by decide +kernel) (by decide +kernel)
theorem zsX6_isName : Cond.selects RX6 yX6_isName yX6_isName ∈ z_tb := z_w1 23 (by decide +kernel) (by decide +kernel)
theorem zmX6_isKeyword : z_me mX6_isKeyword 2 := ⟨z_w1 642 (by decide +kernel) (by decide +kernel), z_w1 184 (by decide +kernel) (by decide +kernel), by decide +kernel, by decide +kernel, by decide +kernel⟩
theorem znX6_isKeyword : Cond.instanceMethod yX6_isKeyword ∈ z_tb := z_w1 641 (by decide +kernel) (by decide +kernel)
theorem zsX6_isKeyword : Cond.selects RX6 yX6_isKeyword yX6_isKeyword ∈ z_tb := z_w1 24 (by decide +kernel) (by decide +kernel)
theorem zmX6_spells : z_me mX6_spells 3 := ⟨z_w1 618 (by decide +kernel) (by decide +kernel), z_w1 184 (by decide +kernel) (by decide +kernel), by decide +kernel, by decide +kernel, by decide +kernel⟩
theorem znX6_spells : Cond.instanceMethod yX6_spells ∈ z_tb := z_w1 617 (by decide +kernel) (by decide +kernel)
theorem zsX6_spells : Cond.selects RX6 yX6_spells yX6_spells ∈ z_tb := z_w1 19 (by decide +kernel) (by decide +kernel)
theorem zmX6_countLetters : z_me mX6_countLetters 1 := ⟨z_w1 592 (by decide +kernel) (by decide +kernel), z_w1 184 (by decide +kernel) (by decide +kernel), by decide +kernel, by decide +kernel, by decide +kernel⟩
theorem znX6_countLetters : Cond.instanceMethod yX6_countLetters ∈ z_tb := z_w1 591 (by decide +kernel) (by decide +kernel)
theorem zsX6_countLetters : Cond.selects RX6 yX6_countLetters yX6_countLetters ∈ z_tb := z_w1 14 (by decide +kernel) (by decide +kernel)
theorem zmX6_countDigits : z_me mX6_countDigits 1 := ⟨z_w1 600 (by decide +kernel) (by decide +kernel), z_w1 184 (by decide +kernel) (by decide +kernel), by decide +kernel, by decide +kernel, by decide +kernel⟩
theorem znX6_countDigits : Cond.instanceMethod yX6_countDigits ∈ z_tb := z_w1 599 (by decide +kernel) (by decide +kernel)
theorem zsX6_countDigits : Cond.selects RX6 yX6_countDigits yX6_countDigits ∈ z_tb := z_w1 15 (by decide +kernel) (by decide +kernel)
theorem zmX6_countSpaces : z_me mX6_countSpaces 1 := ⟨z_w1 580 (by decide +kernel) (by decide +kernel), z_w1 184 (by decide +kernel) (by decide +kernel), by decide +kernel, by decide +kernel, by decide +kernel⟩
theorem znX6_countSpaces : Cond.instanceMethod yX6_countSpaces ∈ z_tb := z_w1 579 (by decide +kernel) (by decide +kernel)
theorem zsX6_countSpaces : Cond.selects RX6 yX6_countSpaces yX6_countSpaces ∈ z_tb := z_w1 12 (by decide +kernel) (by decide +kernel)
theorem zmX6_isLetter : z_me mX6_isLetter 1 := ⟨z_w1 588 (by decide +kernel) (by decide +kernel), z_w1 184 (by decide +kernel) (by decide +kernel), by decide +kernel, by decide +kernel, by decide +kernel⟩
theorem ztX6_isLetter : Cond.static yX6_isLetter ∈ z_tb := z_w1 587 (by decide +kernel) (by decide +kernel)
theorem zmX6_isDigit : z_me mX6_isDigit 1 := ⟨z_w1 596 (by decide +kernel) (by decide +kernel), z_w1 184 (by decide +kernel) (by decide +kernel), by decide +kernel, by decide +kernel, by decide +kernel⟩
theorem ztX6_isDigit : Cond.static yX6_isDigit ∈ z_tb := z_w1 595 (by decide +kernel) (by decide +kernel)
theorem zmX7_init : z_me mX7_init 0 := ⟨z_w1 412 (by decide +kernel) (by decide +kernel), z_w1 185 (by decide +kernel) (by decide +kernel), by decide +kernel, by decide +kernel, by decide +kernel⟩
theorem znX7_init : Cond.instanceMethod yX7_init ∈ z_tb := z_w1 411 (by decide +kernel) (by decide +kernel)
theorem zmX7_byteAt : z_me mX7_byteAt 1 := ⟨z_w1 1231 (by decide +kernel) (by decide +kernel), z_w1 185 (by decide +kernel) (by decide +kernel), by decide +kernel, by decide +kernel, by decide +kernel⟩
theorem znX7_byteAt : Cond.instanceMethod yX7_byteAt ∈ z_tb := z_w1 1230 (by decide +kernel) (by decide +kernel)
theorem zsX7_byteAt : Cond.selects RX7 yX7_byteAt yX7_byteAt ∈ z_tb := z_w1 99 (by decide +kernel) (by decide +kernel)
theorem zmX7_writeList : z_me mX7_writeList 2 := ⟨z_w1 1207 (by decide +kernel) (by decide +kernel), z_w1 185 (by decide +kernel) (by decide +kernel), by decide +kernel, by decide +kernel, by decide +kernel⟩
theorem znX7_writeList : Cond.instanceMethod yX7_writeList ∈ z_tb := z_w1 1206 (by decide +kernel) (by decide +kernel)
theorem zsX7_writeList : Cond.selects RX7 yX7_writeList yX7_writeList ∈ z_tb := z_w1 95 (by decide +kernel) (by decide +kernel)
theorem zmX7_writeSetup : z_me mX7_writeSetup 1 := ⟨z_w1 1239 (by decide +kernel) (by decide +kernel), z_w1 185 (by decide +kernel) (by decide +kernel), by decide +kernel, by decide +kernel, by decide +kernel⟩
theorem znX7_writeSetup : Cond.instanceMethod yX7_writeSetup ∈ z_tb := z_w1 1238 (by decide +kernel) (by decide +kernel)
theorem zsX7_writeSetup : Cond.selects RX7 yX7_writeSetup yX7_writeSetup ∈ z_tb := z_w1 100 (by decide +kernel) (by decide +kernel)
theorem zmX7_putGap : z_me mX7_putGap 2 := ⟨z_w1 1251 (by decide +kernel) (by decide +kernel), z_w1 185 (by decide +kernel) (by decide +kernel), by decide +kernel, by decide +kernel, by decide +kernel⟩
theorem znX7_putGap : Cond.instanceMethod yX7_putGap ∈ z_tb := z_w1 1250 (by decide +kernel) (by decide +kernel)
theorem zsX7_putGap : Cond.selects RX7 yX7_putGap yX7_putGap ∈ z_tb := z_w1 102 (by decide +kernel) (by decide +kernel)
theorem zmX7_putName : z_me mX7_putName 2 := ⟨z_w1 1211 (by decide +kernel) (by decide +kernel), z_w1 185 (by decide +kernel) (by decide +kernel), by decide +kernel, by decide +kernel, by decide +kernel⟩
theorem znX7_putName : Cond.instanceMethod yX7_putName ∈ z_tb := z_w1 1210 (by decide +kernel) (by decide +kernel)
theorem zsX7_putName : Cond.selects RX7 yX7_putName yX7_putName ∈ z_tb := z_w1 96 (by decide +kernel) (by decide +kernel)
theorem zmX7_putWord : z_me mX7_putWord 1 := ⟨z_w1 1244 (by decide +kernel) (by decide +kernel), z_w1 185 (by decide +kernel) (by decide +kernel), by decide +kernel, by decide +kernel, by decide +kernel⟩
theorem znX7_putWord : Cond.instanceMethod yX7_putWord ∈ z_tb := z_w1 1243 (by decide +kernel) (by decide +kernel)
theorem zsX7_putWord : Cond.selects RX7 yX7_putWord yX7_putWord ∈ z_tb := z_w1 101 (by decide +kernel) (by decide +kernel)
theorem zmX7_putNumber : z_me mX7_putNumber 1 := ⟨z_w1 1221 (by decide +kernel) (by decide +kernel), z_w1 185 (by decide +kernel) (by decide +kernel), by decide +kernel, by decide +kernel, by decide +kernel⟩
theorem znX7_putNumber : Cond.instanceMethod yX7_putNumber ∈ z_tb := z_w1 1220 (by decide +kernel) (by decide +kernel)
theorem zsX7_putNumber : Cond.selects RX7 yX7_putNumber yX7_putNumber ∈ z_tb := z_w1 98 (by decide +kernel) (by decide +kernel)
theorem zmX7_put : z_me mX7_put 1 := ⟨z_w1 1216 (by decide +kernel) (by decide +kernel), z_w1 185 (by decide +kernel) (by decide +kernel), by decide +kernel, by decide +kernel, by decide +kernel⟩
theorem znX7_put : Cond.instanceMethod yX7_put ∈ z_tb := z_w1 1215 (by decide +kernel) (by decide +kernel)
theorem zsX7_put : Cond.selects RX7 yX7_put yX7_put ∈ z_tb := z_w1 97 (by decide +kernel) (by decide +kernel)
theorem zmX8_init : z_me mX8_init 0 := ⟨z_w1 197 (by decide +kernel) (by decide +kernel), z_w1 177 (by decide +kernel) (by decide +kernel), by decide +kernel, by decide +kernel, by decide +kernel⟩
theorem znX8_init : Cond.instanceMethod yX8_init ∈ z_tb := z_w1 196 (by decide +kernel) (by decide +kernel)
theorem zmX8_append : z_me mX8_append 5 := ⟨z_w1 555 (by decide +kernel) (by decide +kernel), z_w1 177 (by decide +kernel) (by decide +kernel), by decide +kernel, by decide +kernel, by decide +kernel⟩
theorem znX8_append : Cond.instanceMethod yX8_append ∈ z_tb := z_w1 553 (by decide +kernel) (by decide +kernel)
theorem zsX8_append : Cond.selects RX8 yX8_append yX8_append ∈ z_tb := z_w1 554 (by decide +kernel) (by decide +kernel)
theorem zmX8_truncate : z_me mX8_truncate 1 := ⟨z_w1 563 (by decide +kernel) (by decide +kernel), z_w1 177 (by decide +kernel) (by decide +kernel), by decide +kernel, by decide +kernel, by decide +kernel⟩
theorem znX8_truncate : Cond.instanceMethod yX8_truncate ∈ z_tb := z_w1 561 (by decide +kernel) (by decide +kernel)
theorem zsX8_truncate : Cond.selects RX8 yX8_truncate yX8_truncate ∈ z_tb := z_w1 562 (by decide +kernel) (by decide +kernel)
theorem zmX8_load : z_me mX8_load 0 := ⟨z_w1 567 (by decide +kernel) (by decide +kernel), z_w1 177 (by decide +kernel) (by decide +kernel), by decide +kernel, by decide +kernel, by decide +kernel⟩
theorem znX8_load : Cond.instanceMethod yX8_load ∈ z_tb := z_w1 565 (by decide +kernel) (by decide +kernel)
theorem zsX8_load : Cond.selects RX8 yX8_load yX8_load ∈ z_tb := z_w1 566 (by decide +kernel) (by decide +kernel)
theorem zmX8_errorPosition : z_me mX8_errorPosition 0 := ⟨z_w1 763 (by decide +kernel) (by decide +kernel), z_w1 177 (by decide +kernel) (by decide +kernel), by decide +kernel, by decide +kernel, by decide +kernel⟩
theorem znX8_errorPosition : Cond.instanceMethod yX8_errorPosition ∈ z_tb := z_w1 761 (by decide +kernel) (by decide +kernel)
theorem zsX8_errorPosition : Cond.selects RX8 yX8_errorPosition yX8_errorPosition ∈ z_tb := z_w1 762 (by decide +kernel) (by decide +kernel)
theorem zmX8_open : z_me mX8_open 0 := ⟨z_w1 767 (by decide +kernel) (by decide +kernel), z_w1 177 (by decide +kernel) (by decide +kernel), by decide +kernel, by decide +kernel, by decide +kernel⟩
theorem znX8_open : Cond.instanceMethod yX8_open ∈ z_tb := z_w1 765 (by decide +kernel) (by decide +kernel)
theorem zsX8_open : Cond.selects RX8 yX8_open yX8_open ∈ z_tb := z_w1 766 (by decide +kernel) (by decide +kernel)
theorem zmX8_tell : z_me mX8_tell 4 := ⟨z_w1 791 (by decide +kernel) (by decide +kernel), z_w1 177 (by decide +kernel) (by decide +kernel), by decide +kernel, by decide +kernel, by decide +kernel⟩
theorem znX8_tell : Cond.instanceMethod yX8_tell ∈ z_tb := z_w1 789 (by decide +kernel) (by decide +kernel)
theorem zsX8_tell : Cond.selects RX8 yX8_tell yX8_tell ∈ z_tb := z_w1 790 (by decide +kernel) (by decide +kernel)
theorem zmX8_drop : z_me mX8_drop 1 := ⟨z_w1 815 (by decide +kernel) (by decide +kernel), z_w1 177 (by decide +kernel) (by decide +kernel), by decide +kernel, by decide +kernel, by decide +kernel⟩
theorem znX8_drop : Cond.instanceMethod yX8_drop ∈ z_tb := z_w1 813 (by decide +kernel) (by decide +kernel)
theorem zsX8_drop : Cond.selects RX8 yX8_drop yX8_drop ∈ z_tb := z_w1 814 (by decide +kernel) (by decide +kernel)
theorem zmX8_set : z_me mX8_set 2 := ⟨z_w1 827 (by decide +kernel) (by decide +kernel), z_w1 177 (by decide +kernel) (by decide +kernel), by decide +kernel, by decide +kernel, by decide +kernel⟩
theorem znX8_set : Cond.instanceMethod yX8_set ∈ z_tb := z_w1 825 (by decide +kernel) (by decide +kernel)
theorem zsX8_set : Cond.selects RX8 yX8_set yX8_set ∈ z_tb := z_w1 826 (by decide +kernel) (by decide +kernel)
theorem zmX8_turn : z_me mX8_turn 1 := ⟨z_w1 835 (by decide +kernel) (by decide +kernel), z_w1 177 (by decide +kernel) (by decide +kernel), by decide +kernel, by decide +kernel, by decide +kernel⟩
theorem znX8_turn : Cond.instanceMethod yX8_turn ∈ z_tb := z_w1 833 (by decide +kernel) (by decide +kernel)
theorem zsX8_turn : Cond.selects RX8 yX8_turn yX8_turn ∈ z_tb := z_w1 834 (by decide +kernel) (by decide +kernel)
theorem zmX8_pin : z_me mX8_pin 2 := ⟨z_w1 842 (by decide +kernel) (by decide +kernel), z_w1 177 (by decide +kernel) (by decide +kernel), by decide +kernel, by decide +kernel, by decide +kernel⟩
theorem znX8_pin : Cond.instanceMethod yX8_pin ∈ z_tb := z_w1 840 (by decide +kernel) (by decide +kernel)
theorem zsX8_pin : Cond.selects RX8 yX8_pin yX8_pin ∈ z_tb := z_w1 841 (by decide +kernel) (by decide +kernel)
theorem zmX8_unpin : z_me mX8_unpin 1 := ⟨z_w1 862 (by decide +kernel) (by decide +kernel), z_w1 177 (by decide +kernel) (by decide +kernel), by decide +kernel, by decide +kernel, by decide +kernel⟩
theorem znX8_unpin : Cond.instanceMethod yX8_unpin ∈ z_tb := z_w1 860 (by decide +kernel) (by decide +kernel)
theorem zsX8_unpin : Cond.selects RX8 yX8_unpin yX8_unpin ∈ z_tb := z_w1 861 (by decide +kernel) (by decide +kernel)
theorem zmX8_end : z_me mX8_end 1 := ⟨z_w1 866 (by decide +kernel) (by decide +kernel), z_w1 177 (by decide +kernel) (by decide +kernel), by decide +kernel, by decide +kernel, by decide +kernel⟩
theorem znX8_end : Cond.instanceMethod yX8_end ∈ z_tb := z_w1 864 (by decide +kernel) (by decide +kernel)
theorem zsX8_end : Cond.selects RX8 yX8_end yX8_end ∈ z_tb := z_w1 865 (by decide +kernel) (by decide +kernel)
theorem zmX8_rename : z_me mX8_rename 1 := ⟨z_w1 877 (by decide +kernel) (by decide +kernel), z_w1 177 (by decide +kernel) (by decide +kernel), by decide +kernel, by decide +kernel, by decide +kernel⟩
theorem znX8_rename : Cond.instanceMethod yX8_rename ∈ z_tb := z_w1 875 (by decide +kernel) (by decide +kernel)
theorem zsX8_rename : Cond.selects RX8 yX8_rename yX8_rename ∈ z_tb := z_w1 876 (by decide +kernel) (by decide +kernel)
theorem zmX8_reverse : z_me mX8_reverse 1 := ⟨z_w1 882 (by decide +kernel) (by decide +kernel), z_w1 177 (by decide +kernel) (by decide +kernel), by decide +kernel, by decide +kernel, by decide +kernel⟩
theorem znX8_reverse : Cond.instanceMethod yX8_reverse ∈ z_tb := z_w1 880 (by decide +kernel) (by decide +kernel)
theorem zsX8_reverse : Cond.selects RX8 yX8_reverse yX8_reverse ∈ z_tb := z_w1 881 (by decide +kernel) (by decide +kernel)
theorem zmX8_tighten : z_me mX8_tighten 0 := ⟨z_w1 919 (by decide +kernel) (by decide +kernel), z_w1 177 (by decide +kernel) (by decide +kernel), by decide +kernel, by decide +kernel, by decide +kernel⟩
theorem znX8_tighten : Cond.instanceMethod yX8_tighten ∈ z_tb := z_w1 917 (by decide +kernel) (by decide +kernel)
theorem zsX8_tighten : Cond.selects RX8 yX8_tighten yX8_tighten ∈ z_tb := z_w1 918 (by decide +kernel) (by decide +kernel)
theorem zmX8_thin : z_me mX8_thin 0 := ⟨z_w1 935 (by decide +kernel) (by decide +kernel), z_w1 177 (by decide +kernel) (by decide +kernel), by decide +kernel, by decide +kernel, by decide +kernel⟩
theorem znX8_thin : Cond.instanceMethod yX8_thin ∈ z_tb := z_w1 933 (by decide +kernel) (by decide +kernel)
theorem zsX8_thin : Cond.selects RX8 yX8_thin yX8_thin ∈ z_tb := z_w1 934 (by decide +kernel) (by decide +kernel)
theorem zmX8_pinAll : z_me mX8_pinAll 0 := ⟨z_w1 947 (by decide +kernel) (by decide +kernel), z_w1 177 (by decide +kernel) (by decide +kernel), by decide +kernel, by decide +kernel, by decide +kernel⟩
theorem znX8_pinAll : Cond.instanceMethod yX8_pinAll ∈ z_tb := z_w1 945 (by decide +kernel) (by decide +kernel)
theorem zsX8_pinAll : Cond.selects RX8 yX8_pinAll yX8_pinAll ∈ z_tb := z_w1 946 (by decide +kernel) (by decide +kernel)
theorem zmX8_keep : z_me mX8_keep 1 := ⟨z_w1 952 (by decide +kernel) (by decide +kernel), z_w1 177 (by decide +kernel) (by decide +kernel), by decide +kernel, by decide +kernel, by decide +kernel⟩
theorem znX8_keep : Cond.instanceMethod yX8_keep ∈ z_tb := z_w1 950 (by decide +kernel) (by decide +kernel)
theorem zsX8_keep : Cond.selects RX8 yX8_keep yX8_keep ∈ z_tb := z_w1 951 (by decide +kernel) (by decide +kernel)
theorem zmX8_restore : z_me mX8_restore 1 := ⟨z_w1 959 (by decide +kernel) (by decide +kernel), z_w1 177 (by decide +kernel) (by decide +kernel), by decide +kernel, by decide +kernel, by decide +kernel⟩
theorem znX8_restore : Cond.instanceMethod yX8_restore ∈ z_tb := z_w1 957 (by decide +kernel) (by decide +kernel)
theorem zsX8_restore : Cond.selects RX8 yX8_restore yX8_restore ∈ z_tb := z_w1 958 (by decide +kernel) (by decide +kernel)
theorem zmX8_undo : z_me mX8_undo 0 := ⟨z_w1 963 (by decide +kernel) (by decide +kernel), z_w1 177 (by decide +kernel) (by decide +kernel), by decide +kernel, by decide +kernel, by decide +kernel⟩
theorem znX8_undo : Cond.instanceMethod yX8_undo ∈ z_tb := z_w1 961 (by decide +kernel) (by decide +kernel)
theorem zsX8_undo : Cond.selects RX8 yX8_undo yX8_undo ∈ z_tb := z_w1 962 (by decide +kernel) (by decide +kernel)
theorem zmX8_value : z_me mX8_value 1 := ⟨z_w1 971 (by decide +kernel) (by decide +kernel), z_w1 177 (by decide +kernel) (by decide +kernel), by decide +kernel, by decide +kernel, by decide +kernel⟩
theorem znX8_value : Cond.instanceMethod yX8_value ∈ z_tb := z_w1 969 (by decide +kernel) (by decide +kernel)
theorem zsX8_value : Cond.selects RX8 yX8_value yX8_value ∈ z_tb := z_w1 970 (by decide +kernel) (by decide +kernel)
theorem zmX8_letter : z_me mX8_letter 2 := ⟨z_w1 996 (by decide +kernel) (by decide +kernel), z_w1 177 (by decide +kernel) (by decide +kernel), by decide +kernel, by decide +kernel, by decide +kernel⟩
theorem znX8_letter : Cond.instanceMethod yX8_letter ∈ z_tb := z_w1 994 (by decide +kernel) (by decide +kernel)
theorem zsX8_letter : Cond.selects RX8 yX8_letter yX8_letter ∈ z_tb := z_w1 995 (by decide +kernel) (by decide +kernel)
theorem zmX8_gap : z_me mX8_gap 2 := ⟨z_w1 1001 (by decide +kernel) (by decide +kernel), z_w1 177 (by decide +kernel) (by decide +kernel), by decide +kernel, by decide +kernel, by decide +kernel⟩
theorem znX8_gap : Cond.instanceMethod yX8_gap ∈ z_tb := z_w1 999 (by decide +kernel) (by decide +kernel)
theorem zsX8_gap : Cond.selects RX8 yX8_gap yX8_gap ∈ z_tb := z_w1 1000 (by decide +kernel) (by decide +kernel)
theorem zmX8_event : z_me mX8_event 2 := ⟨z_w1 1005 (by decide +kernel) (by decide +kernel), z_w1 177 (by decide +kernel) (by decide +kernel), by decide +kernel, by decide +kernel, by decide +kernel⟩
theorem znX8_event : Cond.instanceMethod yX8_event ∈ z_tb := z_w1 1003 (by decide +kernel) (by decide +kernel)
theorem zsX8_event : Cond.selects RX8 yX8_event yX8_event ∈ z_tb := z_w1 1004 (by decide +kernel) (by decide +kernel)
theorem zmX8_bound : z_me mX8_bound 2 := ⟨z_w1 1019 (by decide +kernel) (by decide +kernel), z_w1 177 (by decide +kernel) (by decide +kernel), by decide +kernel, by decide +kernel, by decide +kernel⟩
theorem znX8_bound : Cond.instanceMethod yX8_bound ∈ z_tb := z_w1 1017 (by decide +kernel) (by decide +kernel)
theorem zsX8_bound : Cond.selects RX8 yX8_bound yX8_bound ∈ z_tb := z_w1 1018 (by decide +kernel) (by decide +kernel)
theorem zmX8_way : z_me mX8_way 3 := ⟨z_w1 1024 (by decide +kernel) (by decide +kernel), z_w1 177 (by decide +kernel) (by decide +kernel), by decide +kernel, by decide +kernel, by decide +kernel⟩
theorem znX8_way : Cond.instanceMethod yX8_way ∈ z_tb := z_w1 1022 (by decide +kernel) (by decide +kernel)
theorem zsX8_way : Cond.selects RX8 yX8_way yX8_way ∈ z_tb := z_w1 1023 (by decide +kernel) (by decide +kernel)
theorem zmX8_wayLength : z_me mX8_wayLength 2 := ⟨z_w1 1036 (by decide +kernel) (by decide +kernel), z_w1 177 (by decide +kernel) (by decide +kernel), by decide +kernel, by decide +kernel, by decide +kernel⟩
theorem znX8_wayLength : Cond.instanceMethod yX8_wayLength ∈ z_tb := z_w1 1034 (by decide +kernel) (by decide +kernel)
theorem zsX8_wayLength : Cond.selects RX8 yX8_wayLength yX8_wayLength ∈ z_tb := z_w1 1035 (by decide +kernel) (by decide +kernel)
theorem zmX8_relation : z_me mX8_relation 2 := ⟨z_w1 1047 (by decide +kernel) (by decide +kernel), z_w1 177 (by decide +kernel) (by decide +kernel), by decide +kernel, by decide +kernel, by decide +kernel⟩
theorem znX8_relation : Cond.instanceMethod yX8_relation ∈ z_tb := z_w1 1045 (by decide +kernel) (by decide +kernel)
theorem zsX8_relation : Cond.selects RX8 yX8_relation yX8_relation ∈ z_tb := z_w1 1046 (by decide +kernel) (by decide +kernel)
theorem zmX8_play : z_me mX8_play 2 := ⟨z_w1 1055 (by decide +kernel) (by decide +kernel), z_w1 177 (by decide +kernel) (by decide +kernel), by decide +kernel, by decide +kernel, by decide +kernel⟩
theorem znX8_play : Cond.instanceMethod yX8_play ∈ z_tb := z_w1 1053 (by decide +kernel) (by decide +kernel)
theorem zsX8_play : Cond.selects RX8 yX8_play yX8_play ∈ z_tb := z_w1 1054 (by decide +kernel) (by decide +kernel)
theorem zmX8_pairs : z_me mX8_pairs 1 := ⟨z_w1 1059 (by decide +kernel) (by decide +kernel), z_w1 177 (by decide +kernel) (by decide +kernel), by decide +kernel, by decide +kernel, by decide +kernel⟩
theorem znX8_pairs : Cond.instanceMethod yX8_pairs ∈ z_tb := z_w1 1057 (by decide +kernel) (by decide +kernel)
theorem zsX8_pairs : Cond.selects RX8 yX8_pairs yX8_pairs ∈ z_tb := z_w1 1058 (by decide +kernel) (by decide +kernel)
theorem zmX8_direct : z_me mX8_direct 2 := ⟨z_w1 1063 (by decide +kernel) (by decide +kernel), z_w1 177 (by decide +kernel) (by decide +kernel), by decide +kernel, by decide +kernel, by decide +kernel⟩
theorem znX8_direct : Cond.instanceMethod yX8_direct ∈ z_tb := z_w1 1061 (by decide +kernel) (by decide +kernel)
theorem zsX8_direct : Cond.selects RX8 yX8_direct yX8_direct ∈ z_tb := z_w1 1062 (by decide +kernel) (by decide +kernel)
theorem zmX8_ordered : z_me mX8_ordered 1 := ⟨z_w1 1067 (by decide +kernel) (by decide +kernel), z_w1 177 (by decide +kernel) (by decide +kernel), by decide +kernel, by decide +kernel, by decide +kernel⟩
theorem znX8_ordered : Cond.instanceMethod yX8_ordered ∈ z_tb := z_w1 1065 (by decide +kernel) (by decide +kernel)
theorem zsX8_ordered : Cond.selects RX8 yX8_ordered yX8_ordered ∈ z_tb := z_w1 1066 (by decide +kernel) (by decide +kernel)
theorem zmX8_middle : z_me mX8_middle 1 := ⟨z_w1 1075 (by decide +kernel) (by decide +kernel), z_w1 177 (by decide +kernel) (by decide +kernel), by decide +kernel, by decide +kernel, by decide +kernel⟩
theorem znX8_middle : Cond.instanceMethod yX8_middle ∈ z_tb := z_w1 1073 (by decide +kernel) (by decide +kernel)
theorem zsX8_middle : Cond.selects RX8 yX8_middle yX8_middle ∈ z_tb := z_w1 1074 (by decide +kernel) (by decide +kernel)
theorem zmX8_lastly : z_me mX8_lastly 1 := ⟨z_w1 1080 (by decide +kernel) (by decide +kernel), z_w1 177 (by decide +kernel) (by decide +kernel), by decide +kernel, by decide +kernel, by decide +kernel⟩
theorem znX8_lastly : Cond.instanceMethod yX8_lastly ∈ z_tb := z_w1 1078 (by decide +kernel) (by decide +kernel)
theorem zsX8_lastly : Cond.selects RX8 yX8_lastly yX8_lastly ∈ z_tb := z_w1 1079 (by decide +kernel) (by decide +kernel)
theorem zmX8_can : z_me mX8_can 2 := ⟨z_w1 1088 (by decide +kernel) (by decide +kernel), z_w1 177 (by decide +kernel) (by decide +kernel), by decide +kernel, by decide +kernel, by decide +kernel⟩
theorem znX8_can : Cond.instanceMethod yX8_can ∈ z_tb := z_w1 1086 (by decide +kernel) (by decide +kernel)
theorem zsX8_can : Cond.selects RX8 yX8_can yX8_can ∈ z_tb := z_w1 1087 (by decide +kernel) (by decide +kernel)
theorem zmX8_widest : z_me mX8_widest 0 := ⟨z_w1 1092 (by decide +kernel) (by decide +kernel), z_w1 177 (by decide +kernel) (by decide +kernel), by decide +kernel, by decide +kernel, by decide +kernel⟩
theorem znX8_widest : Cond.instanceMethod yX8_widest ∈ z_tb := z_w1 1090 (by decide +kernel) (by decide +kernel)
theorem zsX8_widest : Cond.selects RX8 yX8_widest yX8_widest ∈ z_tb := z_w1 1091 (by decide +kernel) (by decide +kernel)
theorem zmX8_freest : z_me mX8_freest 0 := ⟨z_w1 1096 (by decide +kernel) (by decide +kernel), z_w1 177 (by decide +kernel) (by decide +kernel), by decide +kernel, by decide +kernel, by decide +kernel⟩
theorem znX8_freest : Cond.instanceMethod yX8_freest ∈ z_tb := z_w1 1094 (by decide +kernel) (by decide +kernel)
theorem zsX8_freest : Cond.selects RX8 yX8_freest yX8_freest ∈ z_tb := z_w1 1095 (by decide +kernel) (by decide +kernel)
theorem zmX8_why : z_me mX8_why 5 := ⟨z_w1 1100 (by decide +kernel) (by decide +kernel), z_w1 177 (by decide +kernel) (by decide +kernel), by decide +kernel, by decide +kernel, by decide +kernel⟩
theorem znX8_why : Cond.instanceMethod yX8_why ∈ z_tb := z_w1 1098 (by decide +kernel) (by decide +kernel)
theorem zsX8_why : Cond.selects RX8 yX8_why yX8_why ∈ z_tb := z_w1 1099 (by decide +kernel) (by decide +kernel)
theorem zmX8_ring : z_me mX8_ring 5 := ⟨z_w1 1112 (by decide +kernel) (by decide +kernel), z_w1 177 (by decide +kernel) (by decide +kernel), by decide +kernel, by decide +kernel, by decide +kernel⟩
theorem znX8_ring : Cond.instanceMethod yX8_ring ∈ z_tb := z_w1 1110 (by decide +kernel) (by decide +kernel)
theorem zsX8_ring : Cond.selects RX8 yX8_ring yX8_ring ∈ z_tb := z_w1 1111 (by decide +kernel) (by decide +kernel)
theorem zmX8_culprit : z_me mX8_culprit 4 := ⟨z_w1 1116 (by decide +kernel) (by decide +kernel), z_w1 177 (by decide +kernel) (by decide +kernel), by decide +kernel, by decide +kernel, by decide +kernel⟩
theorem znX8_culprit : Cond.instanceMethod yX8_culprit ∈ z_tb := z_w1 1114 (by decide +kernel) (by decide +kernel)
theorem zsX8_culprit : Cond.selects RX8 yX8_culprit yX8_culprit ∈ z_tb := z_w1 1115 (by decide +kernel) (by decide +kernel)
theorem zmX8_tightest : z_me mX8_tightest 3 := ⟨z_w1 1120 (by decide +kernel) (by decide +kernel), z_w1 177 (by decide +kernel) (by decide +kernel), by decide +kernel, by decide +kernel, by decide +kernel⟩
theorem znX8_tightest : Cond.instanceMethod yX8_tightest ∈ z_tb := z_w1 1118 (by decide +kernel) (by decide +kernel)
theorem zsX8_tightest : Cond.selects RX8 yX8_tightest yX8_tightest ∈ z_tb := z_w1 1119 (by decide +kernel) (by decide +kernel)
theorem zmX8_spare : z_me mX8_spare 1 := ⟨z_w1 1130 (by decide +kernel) (by decide +kernel), z_w1 177 (by decide +kernel) (by decide +kernel), by decide +kernel, by decide +kernel, by decide +kernel⟩
theorem znX8_spare : Cond.instanceMethod yX8_spare ∈ z_tb := z_w1 1128 (by decide +kernel) (by decide +kernel)
theorem zsX8_spare : Cond.selects RX8 yX8_spare yX8_spare ∈ z_tb := z_w1 1129 (by decide +kernel) (by decide +kernel)
theorem zmX8_needless : z_me mX8_needless 0 := ⟨z_w1 1137 (by decide +kernel) (by decide +kernel), z_w1 177 (by decide +kernel) (by decide +kernel), by decide +kernel, by decide +kernel, by decide +kernel⟩
theorem znX8_needless : Cond.instanceMethod yX8_needless ∈ z_tb := z_w1 1135 (by decide +kernel) (by decide +kernel)
theorem zsX8_needless : Cond.selects RX8 yX8_needless yX8_needless ∈ z_tb := z_w1 1136 (by decide +kernel) (by decide +kernel)
theorem zmX8_needs : z_me mX8_needs 1 := ⟨z_w1 1141 (by decide +kernel) (by decide +kernel), z_w1 177 (by decide +kernel) (by decide +kernel), by decide +kernel, by decide +kernel, by decide +kernel⟩
theorem znX8_needs : Cond.instanceMethod yX8_needs ∈ z_tb := z_w1 1139 (by decide +kernel) (by decide +kernel)
theorem zsX8_needs : Cond.selects RX8 yX8_needs yX8_needs ∈ z_tb := z_w1 1140 (by decide +kernel) (by decide +kernel)
theorem zmX8_ifTold : z_me mX8_ifTold 5 := ⟨z_w1 1146 (by decide +kernel) (by decide +kernel), z_w1 177 (by decide +kernel) (by decide +kernel), by decide +kernel, by decide +kernel, by decide +kernel⟩
theorem znX8_ifTold : Cond.instanceMethod yX8_ifTold ∈ z_tb := z_w1 1144 (by decide +kernel) (by decide +kernel)
theorem zsX8_ifTold : Cond.selects RX8 yX8_ifTold yX8_ifTold ∈ z_tb := z_w1 1145 (by decide +kernel) (by decide +kernel)
theorem zmX8_ifDropped : z_me mX8_ifDropped 2 := ⟨z_w1 1166 (by decide +kernel) (by decide +kernel), z_w1 177 (by decide +kernel) (by decide +kernel), by decide +kernel, by decide +kernel, by decide +kernel⟩
theorem znX8_ifDropped : Cond.instanceMethod yX8_ifDropped ∈ z_tb := z_w1 1164 (by decide +kernel) (by decide +kernel)
theorem zsX8_ifDropped : Cond.selects RX8 yX8_ifDropped yX8_ifDropped ∈ z_tb := z_w1 1165 (by decide +kernel) (by decide +kernel)
theorem zmX8_ifTurned : z_me mX8_ifTurned 2 := ⟨z_w1 1170 (by decide +kernel) (by decide +kernel), z_w1 177 (by decide +kernel) (by decide +kernel), by decide +kernel, by decide +kernel, by decide +kernel⟩
theorem znX8_ifTurned : Cond.instanceMethod yX8_ifTurned ∈ z_tb := z_w1 1168 (by decide +kernel) (by decide +kernel)
theorem zsX8_ifTurned : Cond.selects RX8 yX8_ifTurned yX8_ifTurned ∈ z_tb := z_w1 1169 (by decide +kernel) (by decide +kernel)
theorem zmX8_ifPinned : z_me mX8_ifPinned 3 := ⟨z_w1 1175 (by decide +kernel) (by decide +kernel), z_w1 177 (by decide +kernel) (by decide +kernel), by decide +kernel, by decide +kernel, by decide +kernel⟩
theorem znX8_ifPinned : Cond.instanceMethod yX8_ifPinned ∈ z_tb := z_w1 1173 (by decide +kernel) (by decide +kernel)
theorem zsX8_ifPinned : Cond.selects RX8 yX8_ifPinned yX8_ifPinned ∈ z_tb := z_w1 1174 (by decide +kernel) (by decide +kernel)
theorem zmX8_leastEnd : z_me mX8_leastEnd 0 := ⟨z_w1 1179 (by decide +kernel) (by decide +kernel), z_w1 177 (by decide +kernel) (by decide +kernel), by decide +kernel, by decide +kernel, by decide +kernel⟩
theorem znX8_leastEnd : Cond.instanceMethod yX8_leastEnd ∈ z_tb := z_w1 1177 (by decide +kernel) (by decide +kernel)
theorem zsX8_leastEnd : Cond.selects RX8 yX8_leastEnd yX8_leastEnd ∈ z_tb := z_w1 1178 (by decide +kernel) (by decide +kernel)
theorem zmX8_slowest : z_me mX8_slowest 0 := ⟨z_w1 1183 (by decide +kernel) (by decide +kernel), z_w1 177 (by decide +kernel) (by decide +kernel), by decide +kernel, by decide +kernel, by decide +kernel⟩
theorem znX8_slowest : Cond.instanceMethod yX8_slowest ∈ z_tb := z_w1 1181 (by decide +kernel) (by decide +kernel)
theorem zsX8_slowest : Cond.selects RX8 yX8_slowest yX8_slowest ∈ z_tb := z_w1 1182 (by decide +kernel) (by decide +kernel)
theorem zmX8_log : z_me mX8_log 2 := ⟨z_w1 1187 (by decide +kernel) (by decide +kernel), z_w1 177 (by decide +kernel) (by decide +kernel), by decide +kernel, by decide +kernel, by decide +kernel⟩
theorem znX8_log : Cond.instanceMethod yX8_log ∈ z_tb := z_w1 1185 (by decide +kernel) (by decide +kernel)
theorem zsX8_log : Cond.selects RX8 yX8_log yX8_log ∈ z_tb := z_w1 1186 (by decide +kernel) (by decide +kernel)
theorem zmX8_tightShare : z_me mX8_tightShare 0 := ⟨z_w1 1195 (by decide +kernel) (by decide +kernel), z_w1 177 (by decide +kernel) (by decide +kernel), by decide +kernel, by decide +kernel, by decide +kernel⟩
theorem znX8_tightShare : Cond.instanceMethod yX8_tightShare ∈ z_tb := z_w1 1193 (by decide +kernel) (by decide +kernel)
theorem zsX8_tightShare : Cond.selects RX8 yX8_tightShare yX8_tightShare ∈ z_tb := z_w1 1194 (by decide +kernel) (by decide +kernel)
theorem zmX8_meanRoom : z_me mX8_meanRoom 0 := ⟨z_w1 1199 (by decide +kernel) (by decide +kernel), z_w1 177 (by decide +kernel) (by decide +kernel), by decide +kernel, by decide +kernel, by decide +kernel⟩
theorem znX8_meanRoom : Cond.instanceMethod yX8_meanRoom ∈ z_tb := z_w1 1197 (by decide +kernel) (by decide +kernel)
theorem zsX8_meanRoom : Cond.selects RX8 yX8_meanRoom yX8_meanRoom ∈ z_tb := z_w1 1198 (by decide +kernel) (by decide +kernel)
theorem zmX8_listLength : z_me mX8_listLength 0 := ⟨z_w1 1203 (by decide +kernel) (by decide +kernel), z_w1 177 (by decide +kernel) (by decide +kernel), by decide +kernel, by decide +kernel, by decide +kernel⟩
theorem znX8_listLength : Cond.instanceMethod yX8_listLength ∈ z_tb := z_w1 1201 (by decide +kernel) (by decide +kernel)
theorem zsX8_listLength : Cond.selects RX8 yX8_listLength yX8_listLength ∈ z_tb := z_w1 1202 (by decide +kernel) (by decide +kernel)
theorem zmX8_listByte : z_me mX8_listByte 1 := ⟨z_w1 1227 (by decide +kernel) (by decide +kernel), z_w1 177 (by decide +kernel) (by decide +kernel), by decide +kernel, by decide +kernel, by decide +kernel⟩
theorem znX8_listByte : Cond.instanceMethod yX8_listByte ∈ z_tb := z_w1 1225 (by decide +kernel) (by decide +kernel)
theorem zsX8_listByte : Cond.selects RX8 yX8_listByte yX8_listByte ∈ z_tb := z_w1 1226 (by decide +kernel) (by decide +kernel)
theorem zmX8_setupLength : z_me mX8_setupLength 0 := ⟨z_w1 1235 (by decide +kernel) (by decide +kernel), z_w1 177 (by decide +kernel) (by decide +kernel), by decide +kernel, by decide +kernel, by decide +kernel⟩
theorem znX8_setupLength : Cond.instanceMethod yX8_setupLength ∈ z_tb := z_w1 1233 (by decide +kernel) (by decide +kernel)
theorem zsX8_setupLength : Cond.selects RX8 yX8_setupLength yX8_setupLength ∈ z_tb := z_w1 1234 (by decide +kernel) (by decide +kernel)
theorem zmX8_setupByte : z_me mX8_setupByte 1 := ⟨z_w1 1260 (by decide +kernel) (by decide +kernel), z_w1 177 (by decide +kernel) (by decide +kernel), by decide +kernel, by decide +kernel, by decide +kernel⟩
theorem znX8_setupByte : Cond.instanceMethod yX8_setupByte ∈ z_tb := z_w1 1258 (by decide +kernel) (by decide +kernel)
theorem zsX8_setupByte : Cond.selects RX8 yX8_setupByte yX8_setupByte ∈ z_tb := z_w1 1259 (by decide +kernel) (by decide +kernel)
theorem zmX8_isEvent : z_me mX8_isEvent 1 := ⟨z_w1 803 (by decide +kernel) (by decide +kernel), z_w1 177 (by decide +kernel) (by decide +kernel), by decide +kernel, by decide +kernel, by decide +kernel⟩
theorem znX8_isEvent : Cond.instanceMethod yX8_isEvent ∈ z_tb := z_w1 802 (by decide +kernel) (by decide +kernel)
theorem zsX8_isEvent : Cond.selects RX8 yX8_isEvent yX8_isEvent ∈ z_tb := z_w1 54 (by decide +kernel) (by decide +kernel)
theorem zmX8_areTwoEvents : z_me mX8_areTwoEvents 2 := ⟨z_w1 799 (by decide +kernel) (by decide +kernel), z_w1 177 (by decide +kernel) (by decide +kernel), by decide +kernel, by decide +kernel, by decide +kernel⟩
theorem znX8_areTwoEvents : Cond.instanceMethod yX8_areTwoEvents ∈ z_tb := z_w1 798 (by decide +kernel) (by decide +kernel)
theorem zsX8_areTwoEvents : Cond.selects RX8 yX8_areTwoEvents yX8_areTwoEvents ∈ z_tb := z_w1 53 (by decide +kernel) (by decide +kernel)
theorem zmX8_isGap : z_me mX8_isGap 1 := ⟨z_w1 819 (by decide +kernel) (by decide +kernel), z_w1 177 (by decide +kernel) (by decide +kernel), by decide +kernel, by decide +kernel, by decide +kernel⟩
theorem znX8_isGap : Cond.instanceMethod yX8_isGap ∈ z_tb := z_w1 818 (by decide +kernel) (by decide +kernel)
theorem zsX8_isGap : Cond.selects RX8 yX8_isGap yX8_isGap ∈ z_tb := z_w1 55 (by decide +kernel) (by decide +kernel)
theorem zmX8_isTellable : z_me mX8_isTellable 4 := ⟨z_w1 795 (by decide +kernel) (by decide +kernel), z_w1 177 (by decide +kernel) (by decide +kernel), by decide +kernel, by decide +kernel, by decide +kernel⟩
theorem znX8_isTellable : Cond.instanceMethod yX8_isTellable ∈ z_tb := z_w1 794 (by decide +kernel) (by decide +kernel)
theorem zsX8_isTellable : Cond.selects RX8 yX8_isTellable yX8_isTellable ∈ z_tb := z_w1 52 (by decide +kernel) (by decide +kernel)
theorem zmX8_isTime : z_me mX8_isTime 1 := ⟨z_w1 846 (by decide +kernel) (by decide +kernel), z_w1 177 (by decide +kernel) (by decide +kernel), by decide +kernel, by decide +kernel, by decide +kernel⟩
theorem znX8_isTime : Cond.instanceMethod yX8_isTime ∈ z_tb := z_w1 845 (by decide +kernel) (by decide +kernel)
theorem zsX8_isTime : Cond.selects RX8 yX8_isTime yX8_isTime ∈ z_tb := z_w1 58 (by decide +kernel) (by decide +kernel)
theorem zmX8_isPinnable : z_me mX8_isPinnable 1 := ⟨z_w1 850 (by decide +kernel) (by decide +kernel), z_w1 177 (by decide +kernel) (by decide +kernel), by decide +kernel, by decide +kernel, by decide +kernel⟩
theorem znX8_isPinnable : Cond.instanceMethod yX8_isPinnable ∈ z_tb := z_w1 849 (by decide +kernel) (by decide +kernel)
theorem zsX8_isPinnable : Cond.selects RX8 yX8_isPinnable yX8_isPinnable ∈ z_tb := z_w1 59 (by decide +kernel) (by decide +kernel)
theorem zmX8_isNewNameOnTape : z_me mX8_isNewNameOnTape 0 := ⟨z_w1 771 (by decide +kernel) (by decide +kernel), z_w1 177 (by decide +kernel) (by decide +kernel), by decide +kernel, by decide +kernel, by decide +kernel⟩
theorem znX8_isNewNameOnTape : Cond.instanceMethod yX8_isNewNameOnTape ∈ z_tb := z_w1 770 (by decide +kernel) (by decide +kernel)
theorem zsX8_isNewNameOnTape : Cond.selects RX8 yX8_isNewNameOnTape yX8_isNewNameOnTape ∈ z_tb := z_w1 48 (by decide +kernel) (by decide +kernel)
theorem zmX8_isKind : z_me mX8_isKind 1 := ⟨z_w1 806 (by decide +kernel) (by decide +kernel), z_w1 177 (by decide +kernel) (by decide +kernel), by decide +kernel, by decide +kernel, by decide +kernel⟩
theorem ztX8_isKind : Cond.static yX8_isKind ∈ z_tb := z_w1 805 (by decide +kernel) (by decide +kernel)
theorem zmX8_isNumber : z_me mX8_isNumber 1 := ⟨z_w1 809 (by decide +kernel) (by decide +kernel), z_w1 177 (by decide +kernel) (by decide +kernel), by decide +kernel, by decide +kernel, by decide +kernel⟩
theorem ztX8_isNumber : Cond.static yX8_isNumber ∈ z_tb := z_w1 808 (by decide +kernel) (by decide +kernel)
theorem zmX8_isSlot : z_me mX8_isSlot 1 := ⟨z_w1 955 (by decide +kernel) (by decide +kernel), z_w1 177 (by decide +kernel) (by decide +kernel), by decide +kernel, by decide +kernel, by decide +kernel⟩
theorem ztX8_isSlot : Cond.static yX8_isSlot ∈ z_tb := z_w1 954 (by decide +kernel) (by decide +kernel)
theorem zmX8_isChange : z_me mX8_isChange 1 := ⟨z_w1 1149 (by decide +kernel) (by decide +kernel), z_w1 177 (by decide +kernel) (by decide +kernel), by decide +kernel, by decide +kernel, by decide +kernel⟩
theorem ztX8_isChange : Cond.static yX8_isChange ∈ z_tb := z_w1 1148 (by decide +kernel) (by decide +kernel)
theorem zmX8_asNumber : z_me mX8_asNumber 1 := ⟨z_w1 838 (by decide +kernel) (by decide +kernel), z_w1 177 (by decide +kernel) (by decide +kernel), by decide +kernel, by decide +kernel, by decide +kernel⟩
theorem ztX8_asNumber : Cond.static yX8_asNumber ∈ z_tb := z_w1 837 (by decide +kernel) (by decide +kernel)
theorem zmX8_finish : z_me mX8_finish 3 := ⟨z_w1 783 (by decide +kernel) (by decide +kernel), z_w1 177 (by decide +kernel) (by decide +kernel), by decide +kernel, by decide +kernel, by decide +kernel⟩
theorem znX8_finish : Cond.instanceMethod yX8_finish ∈ z_tb := z_w1 782 (by decide +kernel) (by decide +kernel)
theorem zsX8_finish : Cond.selects RX8 yX8_finish yX8_finish ∈ z_tb := z_w1 50 (by decide +kernel) (by decide +kernel)
theorem zmX8_beginOf : z_me mX8_beginOf 1 := ⟨z_w1 903 (by decide +kernel) (by decide +kernel), z_w1 177 (by decide +kernel) (by decide +kernel), by decide +kernel, by decide +kernel, by decide +kernel⟩
theorem znX8_beginOf : Cond.instanceMethod yX8_beginOf ∈ z_tb := z_w1 902 (by decide +kernel) (by decide +kernel)
theorem zsX8_beginOf : Cond.selects RX8 yX8_beginOf yX8_beginOf ∈ z_tb := z_w1 66 (by decide +kernel) (by decide +kernel)
theorem zmX8_finishOf : z_me mX8_finishOf 1 := ⟨z_w1 908 (by decide +kernel) (by decide +kernel), z_w1 177 (by decide +kernel) (by decide +kernel), by decide +kernel, by decide +kernel, by decide +kernel⟩
theorem znX8_finishOf : Cond.instanceMethod yX8_finishOf ∈ z_tb := z_w1 907 (by decide +kernel) (by decide +kernel)
theorem zsX8_finishOf : Cond.selects RX8 yX8_finishOf yX8_finishOf ∈ z_tb := z_w1 67 (by decide +kernel) (by decide +kernel)
theorem zmX8_lengthOf : z_me mX8_lengthOf 1 := ⟨z_w1 894 (by decide +kernel) (by decide +kernel), z_w1 177 (by decide +kernel) (by decide +kernel), by decide +kernel, by decide +kernel, by decide +kernel⟩
theorem znX8_lengthOf : Cond.instanceMethod yX8_lengthOf ∈ z_tb := z_w1 893 (by decide +kernel) (by decide +kernel)
theorem zsX8_lengthOf : Cond.selects RX8 yX8_lengthOf yX8_lengthOf ∈ z_tb := z_w1 64 (by decide +kernel) (by decide +kernel)
theorem zmX8_boundOf : z_me mX8_boundOf 1 := ⟨z_w1 899 (by decide +kernel) (by decide +kernel), z_w1 177 (by decide +kernel) (by decide +kernel), by decide +kernel, by decide +kernel, by decide +kernel⟩
theorem znX8_boundOf : Cond.instanceMethod yX8_boundOf ∈ z_tb := z_w1 898 (by decide +kernel) (by decide +kernel)
theorem zsX8_boundOf : Cond.selects RX8 yX8_boundOf yX8_boundOf ∈ z_tb := z_w1 65 (by decide +kernel) (by decide +kernel)
theorem zmX8_ringOfGap : z_me mX8_ringOfGap 2 := ⟨z_w1 831 (by decide +kernel) (by decide +kernel), z_w1 177 (by decide +kernel) (by decide +kernel), by decide +kernel, by decide +kernel, by decide +kernel⟩
theorem znX8_ringOfGap : Cond.instanceMethod yX8_ringOfGap ∈ z_tb := z_w1 830 (by decide +kernel) (by decide +kernel)
theorem zsX8_ringOfGap : Cond.selects RX8 yX8_ringOfGap yX8_ringOfGap ∈ z_tb := z_w1 57 (by decide +kernel) (by decide +kernel)
theorem zmX8_isTight : z_me mX8_isTight 1 := ⟨z_w1 890 (by decide +kernel) (by decide +kernel), z_w1 177 (by decide +kernel) (by decide +kernel), by decide +kernel, by decide +kernel, by decide +kernel⟩
theorem znX8_isTight : Cond.instanceMethod yX8_isTight ∈ z_tb := z_w1 889 (by decide +kernel) (by decide +kernel)
theorem zsX8_isTight : Cond.selects RX8 yX8_isTight yX8_isTight ∈ z_tb := z_w1 63 (by decide +kernel) (by decide +kernel)
theorem zmX8_isNeeded : z_me mX8_isNeeded 1 := ⟨z_w1 943 (by decide +kernel) (by decide +kernel), z_w1 177 (by decide +kernel) (by decide +kernel), by decide +kernel, by decide +kernel, by decide +kernel⟩
theorem znX8_isNeeded : Cond.instanceMethod yX8_isNeeded ∈ z_tb := z_w1 942 (by decide +kernel) (by decide +kernel)
theorem zsX8_isNeeded : Cond.selects RX8 yX8_isNeeded yX8_isNeeded ∈ z_tb := z_w1 73 (by decide +kernel) (by decide +kernel)
theorem zmX8_isLoose : z_me mX8_isLoose 1 := ⟨z_w1 923 (by decide +kernel) (by decide +kernel), z_w1 177 (by decide +kernel) (by decide +kernel), by decide +kernel, by decide +kernel, by decide +kernel⟩
theorem znX8_isLoose : Cond.instanceMethod yX8_isLoose ∈ z_tb := z_w1 922 (by decide +kernel) (by decide +kernel)
theorem zsX8_isLoose : Cond.selects RX8 yX8_isLoose yX8_isLoose ∈ z_tb := z_w1 69 (by decide +kernel) (by decide +kernel)
theorem zmX8_tightNumber : z_me mX8_tightNumber 1 := ⟨z_w1 927 (by decide +kernel) (by decide +kernel), z_w1 177 (by decide +kernel) (by decide +kernel), by decide +kernel, by decide +kernel, by decide +kernel⟩
theorem znX8_tightNumber : Cond.instanceMethod yX8_tightNumber ∈ z_tb := z_w1 926 (by decide +kernel) (by decide +kernel)
theorem zsX8_tightNumber : Cond.selects RX8 yX8_tightNumber yX8_tightNumber ∈ z_tb := z_w1 70 (by decide +kernel) (by decide +kernel)
theorem zmX8_tightestNumber : z_me mX8_tightestNumber 3 := ⟨z_w1 1124 (by decide +kernel) (by decide +kernel), z_w1 177 (by decide +kernel) (by decide +kernel), by decide +kernel, by decide +kernel, by decide +kernel⟩
theorem znX8_tightestNumber : Cond.instanceMethod yX8_tightestNumber ∈ z_tb := z_w1 1123 (by decide +kernel) (by decide +kernel)
theorem zsX8_tightestNumber : Cond.selects RX8 yX8_tightestNumber yX8_tightestNumber ∈ z_tb := z_w1 90 (by decide +kernel) (by decide +kernel)
theorem zmX8_countTight : z_me mX8_countTight 0 := ⟨z_w1 979 (by decide +kernel) (by decide +kernel), z_w1 177 (by decide +kernel) (by decide +kernel), by decide +kernel, by decide +kernel, by decide +kernel⟩
theorem znX8_countTight : Cond.instanceMethod yX8_countTight ∈ z_tb := z_w1 978 (by decide +kernel) (by decide +kernel)
theorem zsX8_countTight : Cond.selects RX8 yX8_countTight yX8_countTight ∈ z_tb := z_w1 76 (by decide +kernel) (by decide +kernel)
theorem zmX8_countNeeded : z_me mX8_countNeeded 0 := ⟨z_w1 983 (by decide +kernel) (by decide +kernel), z_w1 177 (by decide +kernel) (by decide +kernel), by decide +kernel, by decide +kernel, by decide +kernel⟩
theorem znX8_countNeeded : Cond.instanceMethod yX8_countNeeded ∈ z_tb := z_w1 982 (by decide +kernel) (by decide +kernel)
theorem zsX8_countNeeded : Cond.selects RX8 yX8_countNeeded yX8_countNeeded ∈ z_tb := z_w1 77 (by decide +kernel) (by decide +kernel)
theorem zmX8_firstNeedless : z_me mX8_firstNeedless 1 := ⟨z_w1 939 (by decide +kernel) (by decide +kernel), z_w1 177 (by decide +kernel) (by decide +kernel), by decide +kernel, by decide +kernel, by decide +kernel⟩
theorem znX8_firstNeedless : Cond.instanceMethod yX8_firstNeedless ∈ z_tb := z_w1 938 (by decide +kernel) (by decide +kernel)
theorem zsX8_firstNeedless : Cond.selects RX8 yX8_firstNeedless yX8_firstNeedless ∈ z_tb := z_w1 72 (by decide +kernel) (by decide +kernel)
theorem zmX8_relationOf : z_me mX8_relationOf 2 := ⟨z_w1 1051 (by decide +kernel) (by decide +kernel), z_w1 177 (by decide +kernel) (by decide +kernel), by decide +kernel, by decide +kernel, by decide +kernel⟩
theorem znX8_relationOf : Cond.instanceMethod yX8_relationOf ∈ z_tb := z_w1 1050 (by decide +kernel) (by decide +kernel)
theorem zsX8_relationOf : Cond.selects RX8 yX8_relationOf yX8_relationOf ∈ z_tb := z_w1 85 (by decide +kernel) (by decide +kernel)
theorem zmX8_stepOfRing : z_me mX8_stepOfRing 4 := ⟨z_w1 1108 (by decide +kernel) (by decide +kernel), z_w1 177 (by decide +kernel) (by decide +kernel), by decide +kernel, by decide +kernel, by decide +kernel⟩
theorem znX8_stepOfRing : Cond.instanceMethod yX8_stepOfRing ∈ z_tb := z_w1 1107 (by decide +kernel) (by decide +kernel)
theorem zsX8_stepOfRing : Cond.selects RX8 yX8_stepOfRing yX8_stepOfRing ∈ z_tb := z_w1 89 (by decide +kernel) (by decide +kernel)
theorem zmX8_tryWithout : z_me mX8_tryWithout 1 := ⟨z_w1 886 (by decide +kernel) (by decide +kernel), z_w1 177 (by decide +kernel) (by decide +kernel), by decide +kernel, by decide +kernel, by decide +kernel⟩
theorem znX8_tryWithout : Cond.instanceMethod yX8_tryWithout ∈ z_tb := z_w1 885 (by decide +kernel) (by decide +kernel)
theorem zsX8_tryWithout : Cond.selects RX8 yX8_tryWithout yX8_tryWithout ∈ z_tb := z_w1 62 (by decide +kernel) (by decide +kernel)
theorem zmX8_changeOnTrial : z_me mX8_changeOnTrial 1 := ⟨z_w1 1154 (by decide +kernel) (by decide +kernel), z_w1 177 (by decide +kernel) (by decide +kernel), by decide +kernel, by decide +kernel, by decide +kernel⟩
theorem znX8_changeOnTrial : Cond.instanceMethod yX8_changeOnTrial ∈ z_tb := z_w1 1153 (by decide +kernel) (by decide +kernel)
theorem zsX8_changeOnTrial : Cond.selects RX8 yX8_changeOnTrial yX8_changeOnTrial ∈ z_tb := z_w1 91 (by decide +kernel) (by decide +kernel)
theorem zmX8_stepBegin : z_me mX8_stepBegin 3 := ⟨z_w1 493 (by decide +kernel) (by decide +kernel), z_w1 177 (by decide +kernel) (by decide +kernel), by decide +kernel, by decide +kernel, by decide +kernel⟩
theorem ztX8_stepBegin : Cond.static yX8_stepBegin ∈ z_tb := z_w1 492 (by decide +kernel) (by decide +kernel)
theorem zmX8_stepFinish : z_me mX8_stepFinish 3 := ⟨z_w1 496 (by decide +kernel) (by decide +kernel), z_w1 177 (by decide +kernel) (by decide +kernel), by decide +kernel, by decide +kernel, by decide +kernel⟩
theorem ztX8_stepFinish : Cond.static yX8_stepFinish ∈ z_tb := z_w1 495 (by decide +kernel) (by decide +kernel)
theorem zmX8_stepLength : z_me mX8_stepLength 2 := ⟨z_w1 499 (by decide +kernel) (by decide +kernel), z_w1 177 (by decide +kernel) (by decide +kernel), by decide +kernel, by decide +kernel, by decide +kernel⟩
theorem ztX8_stepLength : Cond.static yX8_stepLength ∈ z_tb := z_w1 498 (by decide +kernel) (by decide +kernel)
theorem zmX9_init : z_me mX9_init 0 := ⟨z_w1 1265 (by decide +kernel) (by decide +kernel), z_w1 191 (by decide +kernel) (by decide +kernel), by decide +kernel, by decide +kernel, by decide +kernel⟩
theorem znX9_init : Cond.instanceMethod yX9_init ∈ z_tb := z_w1 1264 (by decide +kernel) (by decide +kernel)
theorem zmX9_in : z_me mX9_in 3 := ⟨z_w1 1366 (by decide +kernel) (by decide +kernel), z_w1 191 (by decide +kernel) (by decide +kernel), by decide +kernel, by decide +kernel, by decide +kernel⟩
theorem ztX9_in : Cond.static yX9_in ∈ z_tb := z_w1 1365 (by decide +kernel) (by decide +kernel)
theorem zmX9_begins : z_me mX9_begins 0 := ⟨z_w1 1374 (by decide +kernel) (by decide +kernel), z_w1 191 (by decide +kernel) (by decide +kernel), by decide +kernel, by decide +kernel, by decide +kernel⟩
theorem znX9_begins : Cond.instanceMethod yX9_begins ∈ z_tb := z_w1 1373 (by decide +kernel) (by decide +kernel)
theorem zsX9_begins : Cond.selects RX9 yX9_begins yX9_begins ∈ z_tb := z_w1 103 (by decide +kernel) (by decide +kernel)
theorem zmX9_fails : z_me mX9_fails 1 := ⟨z_w1 1454 (by decide +kernel) (by decide +kernel), z_w1 191 (by decide +kernel) (by decide +kernel), by decide +kernel, by decide +kernel, by decide +kernel⟩
theorem znX9_fails : Cond.instanceMethod yX9_fails ∈ z_tb := z_w1 1453 (by decide +kernel) (by decide +kernel)
theorem zsX9_fails : Cond.selects RX9 yX9_fails yX9_fails ∈ z_tb := z_w1 119 (by decide +kernel) (by decide +kernel)
theorem zmX9_done : z_me mX9_done 1 := ⟨z_w1 1378 (by decide +kernel) (by decide +kernel), z_w1 191 (by decide +kernel) (by decide +kernel), by decide +kernel, by decide +kernel, by decide +kernel⟩
theorem znX9_done : Cond.instanceMethod yX9_done ∈ z_tb := z_w1 1377 (by decide +kernel) (by decide +kernel)
theorem zsX9_done : Cond.selects RX9 yX9_done yX9_done ∈ z_tb := z_w1 104 (by decide +kernel) (by decide +kernel)
theorem zmX9_undo : z_me mX9_undo 0 := ⟨z_w1 1359 (by decide +kernel) (by decide +kernel), z_w1 191 (by decide +kernel) (by decide +kernel), by decide +kernel, by decide +kernel, by decide +kernel⟩
theorem znX9_undo : Cond.instanceMethod yX9_undo ∈ z_tb := z_w1 1357 (by decide +kernel) (by decide +kernel)
theorem zsX9_undo : Cond.selects RX9 yX9_undo yX9_undo ∈ z_tb := z_w1 1358 (by decide +kernel) (by decide +kernel)
theorem zmX9_keep : z_me mX9_keep 1 := ⟨z_w1 1363 (by decide +kernel) (by decide +kernel), z_w1 191 (by decide +kernel) (by decide +kernel), by decide +kernel, by decide +kernel, by decide +kernel⟩
theorem znX9_keep : Cond.instanceMethod yX9_keep ∈ z_tb := z_w1 1361 (by decide +kernel) (by decide +kernel)
theorem zsX9_keep : Cond.selects RX9 yX9_keep yX9_keep ∈ z_tb := z_w1 1362 (by decide +kernel) (by decide +kernel)
theorem zmX9_restore : z_me mX9_restore 1 := ⟨z_w1 1370 (by decide +kernel) (by decide +kernel), z_w1 191 (by decide +kernel) (by decide +kernel), by decide +kernel, by decide +kernel, by decide +kernel⟩
theorem znX9_restore : Cond.instanceMethod yX9_restore ∈ z_tb := z_w1 1368 (by decide +kernel) (by decide +kernel)
theorem zsX9_restore : Cond.selects RX9 yX9_restore yX9_restore ∈ z_tb := z_w1 1369 (by decide +kernel) (by decide +kernel)
theorem zmX9_logs : z_me mX9_logs 3 := ⟨z_w1 1458 (by decide +kernel) (by decide +kernel), z_w1 191 (by decide +kernel) (by decide +kernel), by decide +kernel, by decide +kernel, by decide +kernel⟩
theorem znX9_logs : Cond.instanceMethod yX9_logs ∈ z_tb := z_w1 1457 (by decide +kernel) (by decide +kernel)
theorem zsX9_logs : Cond.selects RX9 yX9_logs yX9_logs ∈ z_tb := z_w1 120 (by decide +kernel) (by decide +kernel)
theorem zmX9_log : z_me mX9_log 2 := ⟨z_w1 1382 (by decide +kernel) (by decide +kernel), z_w1 191 (by decide +kernel) (by decide +kernel), by decide +kernel, by decide +kernel, by decide +kernel⟩
theorem znX9_log : Cond.instanceMethod yX9_log ∈ z_tb := z_w1 1380 (by decide +kernel) (by decide +kernel)
theorem zsX9_log : Cond.selects RX9 yX9_log yX9_log ∈ z_tb := z_w1 1381 (by decide +kernel) (by decide +kernel)
theorem zmX9_of : z_me mX9_of 2 := ⟨z_w1 1421 (by decide +kernel) (by decide +kernel), z_w1 191 (by decide +kernel) (by decide +kernel), by decide +kernel, by decide +kernel, by decide +kernel⟩
theorem znX9_of : Cond.instanceMethod yX9_of ∈ z_tb := z_w1 1420 (by decide +kernel) (by decide +kernel)
theorem zsX9_of : Cond.selects RX9 yX9_of yX9_of ∈ z_tb := z_w1 112 (by decide +kernel) (by decide +kernel)
theorem zmX9_puts : z_me mX9_puts 3 := ⟨z_w1 1405 (by decide +kernel) (by decide +kernel), z_w1 191 (by decide +kernel) (by decide +kernel), by decide +kernel, by decide +kernel, by decide +kernel⟩
theorem znX9_puts : Cond.instanceMethod yX9_puts ∈ z_tb := z_w1 1404 (by decide +kernel) (by decide +kernel)
theorem zsX9_puts : Cond.selects RX9 yX9_puts yX9_puts ∈ z_tb := z_w1 108 (by decide +kernel) (by decide +kernel)
theorem zmX9_isOn : z_me mX9_isOn 1 := ⟨z_w1 1417 (by decide +kernel) (by decide +kernel), z_w1 191 (by decide +kernel) (by decide +kernel), by decide +kernel, by decide +kernel, by decide +kernel⟩
theorem znX9_isOn : Cond.instanceMethod yX9_isOn ∈ z_tb := z_w1 1416 (by decide +kernel) (by decide +kernel)
theorem zsX9_isOn : Cond.selects RX9 yX9_isOn yX9_isOn ∈ z_tb := z_w1 111 (by decide +kernel) (by decide +kernel)
theorem zmX9_isEvent : z_me mX9_isEvent 1 := ⟨z_w1 1394 (by decide +kernel) (by decide +kernel), z_w1 191 (by decide +kernel) (by decide +kernel), by decide +kernel, by decide +kernel, by decide +kernel⟩
theorem znX9_isEvent : Cond.instanceMethod yX9_isEvent ∈ z_tb := z_w1 1393 (by decide +kernel) (by decide +kernel)
theorem zsX9_isEvent : Cond.selects RX9 yX9_isEvent yX9_isEvent ∈ z_tb := z_w1 106 (by decide +kernel) (by decide +kernel)
theorem zmX9_isGap : z_me mX9_isGap 1 := ⟨z_w1 1466 (by decide +kernel) (by decide +kernel), z_w1 191 (by decide +kernel) (by decide +kernel), by decide +kernel, by decide +kernel, by decide +kernel⟩
theorem znX9_isGap : Cond.instanceMethod yX9_isGap ∈ z_tb := z_w1 1465 (by decide +kernel) (by decide +kernel)
theorem zsX9_isGap : Cond.selects RX9 yX9_isGap yX9_isGap ∈ z_tb := z_w1 121 (by decide +kernel) (by decide +kernel)
theorem zmX9_isPinned : z_me mX9_isPinned 1 := ⟨z_w1 1441 (by decide +kernel) (by decide +kernel), z_w1 191 (by decide +kernel) (by decide +kernel), by decide +kernel, by decide +kernel, by decide +kernel⟩
theorem znX9_isPinned : Cond.instanceMethod yX9_isPinned ∈ z_tb := z_w1 1440 (by decide +kernel) (by decide +kernel)
theorem zsX9_isPinned : Cond.selects RX9 yX9_isPinned yX9_isPinned ∈ z_tb := z_w1 117 (by decide +kernel) (by decide +kernel)
theorem zmX9_isN : z_me mX9_isN 2 := ⟨z_w1 1397 (by decide +kernel) (by decide +kernel), z_w1 191 (by decide +kernel) (by decide +kernel), by decide +kernel, by decide +kernel, by decide +kernel⟩
theorem ztX9_isN : Cond.static yX9_isN ∈ z_tb := z_w1 1396 (by decide +kernel) (by decide +kernel)
theorem zmX9_areTwo : z_me mX9_areTwo 2 := ⟨z_w1 1390 (by decide +kernel) (by decide +kernel), z_w1 191 (by decide +kernel) (by decide +kernel), by decide +kernel, by decide +kernel, by decide +kernel⟩
theorem znX9_areTwo : Cond.instanceMethod yX9_areTwo ∈ z_tb := z_w1 1389 (by decide +kernel) (by decide +kernel)
theorem zsX9_areTwo : Cond.selects RX9 yX9_areTwo yX9_areTwo ∈ z_tb := z_w1 105 (by decide +kernel) (by decide +kernel)
theorem zmX9_fromOf : z_me mX9_fromOf 1 := ⟨z_w1 1425 (by decide +kernel) (by decide +kernel), z_w1 191 (by decide +kernel) (by decide +kernel), by decide +kernel, by decide +kernel, by decide +kernel⟩
theorem znX9_fromOf : Cond.instanceMethod yX9_fromOf ∈ z_tb := z_w1 1424 (by decide +kernel) (by decide +kernel)
theorem zsX9_fromOf : Cond.selects RX9 yX9_fromOf yX9_fromOf ∈ z_tb := z_w1 113 (by decide +kernel) (by decide +kernel)
theorem zmX9_toOf : z_me mX9_toOf 1 := ⟨z_w1 1429 (by decide +kernel) (by decide +kernel), z_w1 191 (by decide +kernel) (by decide +kernel), by decide +kernel, by decide +kernel, by decide +kernel⟩
theorem znX9_toOf : Cond.instanceMethod yX9_toOf ∈ z_tb := z_w1 1428 (by decide +kernel) (by decide +kernel)
theorem zsX9_toOf : Cond.selects RX9 yX9_toOf yX9_toOf ∈ z_tb := z_w1 114 (by decide +kernel) (by decide +kernel)
theorem zmX9_lengthOf : z_me mX9_lengthOf 1 := ⟨z_w1 1433 (by decide +kernel) (by decide +kernel), z_w1 191 (by decide +kernel) (by decide +kernel), by decide +kernel, by decide +kernel, by decide +kernel⟩
theorem znX9_lengthOf : Cond.instanceMethod yX9_lengthOf ∈ z_tb := z_w1 1432 (by decide +kernel) (by decide +kernel)
theorem zsX9_lengthOf : Cond.selects RX9 yX9_lengthOf yX9_lengthOf ∈ z_tb := z_w1 115 (by decide +kernel) (by decide +kernel)
theorem zmX9_laysStep : z_me mX9_laysStep 4 := ⟨z_w1 1437 (by decide +kernel) (by decide +kernel), z_w1 191 (by decide +kernel) (by decide +kernel), by decide +kernel, by decide +kernel, by decide +kernel⟩
theorem znX9_laysStep : Cond.instanceMethod yX9_laysStep ∈ z_tb := z_w1 1436 (by decide +kernel) (by decide +kernel)
theorem zsX9_laysStep : Cond.selects RX9 yX9_laysStep yX9_laysStep ∈ z_tb := z_w1 116 (by decide +kernel) (by decide +kernel)
theorem zmX9_laysSteps : z_me mX9_laysSteps 0 := ⟨z_w1 1413 (by decide +kernel) (by decide +kernel), z_w1 191 (by decide +kernel) (by decide +kernel), by decide +kernel, by decide +kernel, by decide +kernel⟩
theorem znX9_laysSteps : Cond.instanceMethod yX9_laysSteps ∈ z_tb := z_w1 1412 (by decide +kernel) (by decide +kernel)
theorem zsX9_laysSteps : Cond.selects RX9 yX9_laysSteps yX9_laysSteps ∈ z_tb := z_w1 110 (by decide +kernel) (by decide +kernel)
theorem zmX9_pair : z_me mX9_pair 2 := ⟨z_w1 1444 (by decide +kernel) (by decide +kernel), z_w1 191 (by decide +kernel) (by decide +kernel), by decide +kernel, by decide +kernel, by decide +kernel⟩
theorem ztX9_pair : Cond.static yX9_pair ∈ z_tb := z_w1 1443 (by decide +kernel) (by decide +kernel)
theorem zmX9_boundOf : z_me mX9_boundOf 2 := ⟨z_w1 1449 (by decide +kernel) (by decide +kernel), z_w1 191 (by decide +kernel) (by decide +kernel), by decide +kernel, by decide +kernel, by decide +kernel⟩
theorem znX9_boundOf : Cond.instanceMethod yX9_boundOf ∈ z_tb := z_w1 1448 (by decide +kernel) (by decide +kernel)
theorem zsX9_boundOf : Cond.selects RX9 yX9_boundOf yX9_boundOf ∈ z_tb := z_w1 118 (by decide +kernel) (by decide +kernel)
theorem zmX9_lays : z_me mX9_lays 0 := ⟨z_w1 1409 (by decide +kernel) (by decide +kernel), z_w1 191 (by decide +kernel) (by decide +kernel), by decide +kernel, by decide +kernel, by decide +kernel⟩
theorem znX9_lays : Cond.instanceMethod yX9_lays ∈ z_tb := z_w1 1408 (by decide +kernel) (by decide +kernel)
theorem zsX9_lays : Cond.selects RX9 yX9_lays yX9_lays ∈ z_tb := z_w1 109 (by decide +kernel) (by decide +kernel)
theorem zmX9_earliest : z_me mX9_earliest 1 := ⟨z_w1 1526 (by decide +kernel) (by decide +kernel), z_w1 191 (by decide +kernel) (by decide +kernel), by decide +kernel, by decide +kernel, by decide +kernel⟩
theorem znX9_earliest : Cond.instanceMethod yX9_earliest ∈ z_tb := z_w1 1525 (by decide +kernel) (by decide +kernel)
theorem zsX9_earliest : Cond.selects RX9 yX9_earliest yX9_earliest ∈ z_tb := z_w1 129 (by decide +kernel) (by decide +kernel)
theorem zmX9_latest : z_me mX9_latest 1 := ⟨z_w1 1522 (by decide +kernel) (by decide +kernel), z_w1 191 (by decide +kernel) (by decide +kernel), by decide +kernel, by decide +kernel, by decide +kernel⟩
theorem znX9_latest : Cond.instanceMethod yX9_latest ∈ z_tb := z_w1 1521 (by decide +kernel) (by decide +kernel)
theorem zsX9_latest : Cond.selects RX9 yX9_latest yX9_latest ∈ z_tb := z_w1 128 (by decide +kernel) (by decide +kernel)
theorem zmX9_roomOf : z_me mX9_roomOf 1 := ⟨z_w1 1518 (by decide +kernel) (by decide +kernel), z_w1 191 (by decide +kernel) (by decide +kernel), by decide +kernel, by decide +kernel, by decide +kernel⟩
theorem znX9_roomOf : Cond.instanceMethod yX9_roomOf ∈ z_tb := z_w1 1517 (by decide +kernel) (by decide +kernel)
theorem zsX9_roomOf : Cond.selects RX9 yX9_roomOf yX9_roomOf ∈ z_tb := z_w1 127 (by decide +kernel) (by decide +kernel)
theorem zmX9_allRoom : z_me mX9_allRoom 0 := ⟨z_w1 1514 (by decide +kernel) (by decide +kernel), z_w1 191 (by decide +kernel) (by decide +kernel), by decide +kernel, by decide +kernel, by decide +kernel⟩
theorem znX9_allRoom : Cond.instanceMethod yX9_allRoom ∈ z_tb := z_w1 1513 (by decide +kernel) (by decide +kernel)
theorem zsX9_allRoom : Cond.selects RX9 yX9_allRoom yX9_allRoom ∈ z_tb := z_w1 126 (by decide +kernel) (by decide +kernel)
theorem zmX9_isTight : z_me mX9_isTight 1 := ⟨z_w1 1510 (by decide +kernel) (by decide +kernel), z_w1 191 (by decide +kernel) (by decide +kernel), by decide +kernel, by decide +kernel, by decide +kernel⟩
theorem znX9_isTight : Cond.instanceMethod yX9_isTight ∈ z_tb := z_w1 1509 (by decide +kernel) (by decide +kernel)
theorem zsX9_isTight : Cond.selects RX9 yX9_isTight yX9_isTight ∈ z_tb := z_w1 125 (by decide +kernel) (by decide +kernel)
theorem zmX9_isNeeded : z_me mX9_isNeeded 1 := ⟨z_w1 1538 (by decide +kernel) (by decide +kernel), z_w1 191 (by decide +kernel) (by decide +kernel), by decide +kernel, by decide +kernel, by decide +kernel⟩
theorem znX9_isNeeded : Cond.instanceMethod yX9_isNeeded ∈ z_tb := z_w1 1537 (by decide +kernel) (by decide +kernel)
theorem zsX9_isNeeded : Cond.selects RX9 yX9_isNeeded yX9_isNeeded ∈ z_tb := z_w1 131 (by decide +kernel) (by decide +kernel)
theorem zmX9_comes : z_me mX9_comes 5 := ⟨z_w1 1401 (by decide +kernel) (by decide +kernel), z_w1 191 (by decide +kernel) (by decide +kernel), by decide +kernel, by decide +kernel, by decide +kernel⟩
theorem znX9_comes : Cond.instanceMethod yX9_comes ∈ z_tb := z_w1 1400 (by decide +kernel) (by decide +kernel)
theorem zsX9_comes : Cond.selects RX9 yX9_comes yX9_comes ∈ z_tb := z_w1 107 (by decide +kernel) (by decide +kernel)
theorem zmX9_doneIf : z_me mX9_doneIf 4 := ⟨z_w1 1478 (by decide +kernel) (by decide +kernel), z_w1 191 (by decide +kernel) (by decide +kernel), by decide +kernel, by decide +kernel, by decide +kernel⟩
theorem znX9_doneIf : Cond.instanceMethod yX9_doneIf ∈ z_tb := z_w1 1477 (by decide +kernel) (by decide +kernel)
theorem zsX9_doneIf : Cond.selects RX9 yX9_doneIf yX9_doneIf ∈ z_tb := z_w1 123 (by decide +kernel) (by decide +kernel)
theorem zmX9_tell : z_me mX9_tell 4 := ⟨z_w1 1386 (by decide +kernel) (by decide +kernel), z_w1 191 (by decide +kernel) (by decide +kernel), by decide +kernel, by decide +kernel, by decide +kernel⟩
theorem znX9_tell : Cond.instanceMethod yX9_tell ∈ z_tb := z_w1 1384 (by decide +kernel) (by decide +kernel)
theorem zsX9_tell : Cond.selects RX9 yX9_tell yX9_tell ∈ z_tb := z_w1 1385 (by decide +kernel) (by decide +kernel)
theorem zmX9_drops : z_me mX9_drops 1 := ⟨z_w1 1470 (by decide +kernel) (by decide +kernel), z_w1 191 (by decide +kernel) (by decide +kernel), by decide +kernel, by decide +kernel, by decide +kernel⟩
theorem znX9_drops : Cond.instanceMethod yX9_drops ∈ z_tb := z_w1 1469 (by decide +kernel) (by decide +kernel)
theorem zsX9_drops : Cond.selects RX9 yX9_drops yX9_drops ∈ z_tb := z_w1 122 (by decide +kernel) (by decide +kernel)
theorem zmX9_drop : z_me mX9_drop 1 := ⟨z_w1 1462 (by decide +kernel) (by decide +kernel), z_w1 191 (by decide +kernel) (by decide +kernel), by decide +kernel, by decide +kernel, by decide +kernel⟩
theorem znX9_drop : Cond.instanceMethod yX9_drop ∈ z_tb := z_w1 1460 (by decide +kernel) (by decide +kernel)
theorem zsX9_drop : Cond.selects RX9 yX9_drop yX9_drop ∈ z_tb := z_w1 1461 (by decide +kernel) (by decide +kernel)
theorem zmX9_set : z_me mX9_set 2 := ⟨z_w1 1474 (by decide +kernel) (by decide +kernel), z_w1 191 (by decide +kernel) (by decide +kernel), by decide +kernel, by decide +kernel, by decide +kernel⟩
theorem znX9_set : Cond.instanceMethod yX9_set ∈ z_tb := z_w1 1472 (by decide +kernel) (by decide +kernel)
theorem zsX9_set : Cond.selects RX9 yX9_set yX9_set ∈ z_tb := z_w1 1473 (by decide +kernel) (by decide +kernel)
theorem zmX9_turn : z_me mX9_turn 1 := ⟨z_w1 1482 (by decide +kernel) (by decide +kernel), z_w1 191 (by decide +kernel) (by decide +kernel), by decide +kernel, by decide +kernel, by decide +kernel⟩
theorem znX9_turn : Cond.instanceMethod yX9_turn ∈ z_tb := z_w1 1480 (by decide +kernel) (by decide +kernel)
theorem zsX9_turn : Cond.selects RX9 yX9_turn yX9_turn ∈ z_tb := z_w1 1481 (by decide +kernel) (by decide +kernel)
theorem zmX9_pinned : z_me mX9_pinned 0 := ⟨z_w1 1490 (by decide +kernel) (by decide +kernel), z_w1 191 (by decide +kernel) (by decide +kernel), by decide +kernel, by decide +kernel, by decide +kernel⟩
theorem znX9_pinned : Cond.instanceMethod yX9_pinned ∈ z_tb := z_w1 1489 (by decide +kernel) (by decide +kernel)
theorem zsX9_pinned : Cond.selects RX9 yX9_pinned yX9_pinned ∈ z_tb := z_w1 124 (by decide +kernel) (by decide +kernel)
theorem zmX9_pin : z_me mX9_pin 2 := ⟨z_w1 1486 (by decide +kernel) (by decide +kernel), z_w1 191 (by decide +kernel) (by decide +kernel), by decide +kernel, by decide +kernel, by decide +kernel⟩
theorem znX9_pin : Cond.instanceMethod yX9_pin ∈ z_tb := z_w1 1484 (by decide +kernel) (by decide +kernel)
theorem zsX9_pin : Cond.selects RX9 yX9_pin yX9_pin ∈ z_tb := z_w1 1485 (by decide +kernel) (by decide +kernel)
theorem zmX9_unpin : z_me mX9_unpin 1 := ⟨z_w1 1494 (by decide +kernel) (by decide +kernel), z_w1 191 (by decide +kernel) (by decide +kernel), by decide +kernel, by decide +kernel, by decide +kernel⟩
theorem znX9_unpin : Cond.instanceMethod yX9_unpin ∈ z_tb := z_w1 1492 (by decide +kernel) (by decide +kernel)
theorem zsX9_unpin : Cond.selects RX9 yX9_unpin yX9_unpin ∈ z_tb := z_w1 1493 (by decide +kernel) (by decide +kernel)
theorem zmX9_end : z_me mX9_end 1 := ⟨z_w1 1498 (by decide +kernel) (by decide +kernel), z_w1 191 (by decide +kernel) (by decide +kernel), by decide +kernel, by decide +kernel, by decide +kernel⟩
theorem znX9_end : Cond.instanceMethod yX9_end ∈ z_tb := z_w1 1496 (by decide +kernel) (by decide +kernel)
theorem zsX9_end : Cond.selects RX9 yX9_end yX9_end ∈ z_tb := z_w1 1497 (by decide +kernel) (by decide +kernel)
theorem zmX9_reverse : z_me mX9_reverse 1 := ⟨z_w1 1502 (by decide +kernel) (by decide +kernel), z_w1 191 (by decide +kernel) (by decide +kernel), by decide +kernel, by decide +kernel, by decide +kernel⟩
theorem znX9_reverse : Cond.instanceMethod yX9_reverse ∈ z_tb := z_w1 1500 (by decide +kernel) (by decide +kernel)
theorem zsX9_reverse : Cond.selects RX9 yX9_reverse yX9_reverse ∈ z_tb := z_w1 1501 (by decide +kernel) (by decide +kernel)
theorem zmX9_tighten : z_me mX9_tighten 0 := ⟨z_w1 1506 (by decide +kernel) (by decide +kernel), z_w1 191 (by decide +kernel) (by decide +kernel), by decide +kernel, by decide +kernel, by decide +kernel⟩
theorem znX9_tighten : Cond.instanceMethod yX9_tighten ∈ z_tb := z_w1 1504 (by decide +kernel) (by decide +kernel)
theorem zsX9_tighten : Cond.selects RX9 yX9_tighten yX9_tighten ∈ z_tb := z_w1 1505 (by decide +kernel) (by decide +kernel)
theorem zmX9_firstNeedless : z_me mX9_firstNeedless 0 := ⟨z_w1 1534 (by decide +kernel) (by decide +kernel), z_w1 191 (by decide +kernel) (by decide +kernel), by decide +kernel, by decide +kernel, by decide +kernel⟩
theorem znX9_firstNeedless : Cond.instanceMethod yX9_firstNeedless ∈ z_tb := z_w1 1533 (by decide +kernel) (by decide +kernel)
theorem zsX9_firstNeedless : Cond.selects RX9 yX9_firstNeedless yX9_firstNeedless ∈ z_tb := z_w1 130 (by decide +kernel) (by decide +kernel)
theorem zmX9_thin : z_me mX9_thin 0 := ⟨z_w1 1530 (by decide +kernel) (by decide +kernel), z_w1 191 (by decide +kernel) (by decide +kernel), by decide +kernel, by decide +kernel, by decide +kernel⟩
theorem znX9_thin : Cond.instanceMethod yX9_thin ∈ z_tb := z_w1 1528 (by decide +kernel) (by decide +kernel)
theorem zsX9_thin : Cond.selects RX9 yX9_thin yX9_thin ∈ z_tb := z_w1 1529 (by decide +kernel) (by decide +kernel)
theorem zmX9_pinAll : z_me mX9_pinAll 0 := ⟨z_w1 1542 (by decide +kernel) (by decide +kernel), z_w1 191 (by decide +kernel) (by decide +kernel), by decide +kernel, by decide +kernel, by decide +kernel⟩
theorem znX9_pinAll : Cond.instanceMethod yX9_pinAll ∈ z_tb := z_w1 1540 (by decide +kernel) (by decide +kernel)
theorem zsX9_pinAll : Cond.selects RX9 yX9_pinAll yX9_pinAll ∈ z_tb := z_w1 1541 (by decide +kernel) (by decide +kernel)
theorem zmX9_isByte : z_me mX9_isByte 2 := ⟨z_w1 1554 (by decide +kernel) (by decide +kernel), z_w1 191 (by decide +kernel) (by decide +kernel), by decide +kernel, by decide +kernel, by decide +kernel⟩
theorem znX9_isByte : Cond.instanceMethod yX9_isByte ∈ z_tb := z_w1 1553 (by decide +kernel) (by decide +kernel)
theorem zsX9_isByte : Cond.selects RX9 yX9_isByte yX9_isByte ∈ z_tb := z_w1 133 (by decide +kernel) (by decide +kernel)
theorem zmX9_takesLetters : z_me mX9_takesLetters 0 := ⟨z_w1 1558 (by decide +kernel) (by decide +kernel), z_w1 191 (by decide +kernel) (by decide +kernel), by decide +kernel, by decide +kernel, by decide +kernel⟩
theorem znX9_takesLetters : Cond.instanceMethod yX9_takesLetters ∈ z_tb := z_w1 1557 (by decide +kernel) (by decide +kernel)
theorem zsX9_takesLetters : Cond.selects RX9 yX9_takesLetters yX9_takesLetters ∈ z_tb := z_w1 134 (by decide +kernel) (by decide +kernel)
theorem zmX9_takesDigits : z_me mX9_takesDigits 0 := ⟨z_w1 1562 (by decide +kernel) (by decide +kernel), z_w1 191 (by decide +kernel) (by decide +kernel), by decide +kernel, by decide +kernel, by decide +kernel⟩
theorem znX9_takesDigits : Cond.instanceMethod yX9_takesDigits ∈ z_tb := z_w1 1561 (by decide +kernel) (by decide +kernel)
theorem zsX9_takesDigits : Cond.selects RX9 yX9_takesDigits yX9_takesDigits ∈ z_tb := z_w1 135 (by decide +kernel) (by decide +kernel)
theorem zmX9_nextToken : z_me mX9_nextToken 0 := ⟨z_w1 1550 (by decide +kernel) (by decide +kernel), z_w1 191 (by decide +kernel) (by decide +kernel), by decide +kernel, by decide +kernel, by decide +kernel⟩
theorem znX9_nextToken : Cond.instanceMethod yX9_nextToken ∈ z_tb := z_w1 1549 (by decide +kernel) (by decide +kernel)
theorem zsX9_nextToken : Cond.selects RX9 yX9_nextToken yX9_nextToken ∈ z_tb := z_w1 132 (by decide +kernel) (by decide +kernel)
theorem zmX9_takes : z_me mX9_takes 1 := ⟨z_w1 1570 (by decide +kernel) (by decide +kernel), z_w1 191 (by decide +kernel) (by decide +kernel), by decide +kernel, by decide +kernel, by decide +kernel⟩
theorem znX9_takes : Cond.instanceMethod yX9_takes ∈ z_tb := z_w1 1569 (by decide +kernel) (by decide +kernel)
theorem zsX9_takes : Cond.selects RX9 yX9_takes yX9_takes ∈ z_tb := z_w1 137 (by decide +kernel) (by decide +kernel)
theorem zmX9_isKey : z_me mX9_isKey 1 := ⟨z_w1 1566 (by decide +kernel) (by decide +kernel), z_w1 191 (by decide +kernel) (by decide +kernel), by decide +kernel, by decide +kernel, by decide +kernel⟩
theorem znX9_isKey : Cond.instanceMethod yX9_isKey ∈ z_tb := z_w1 1565 (by decide +kernel) (by decide +kernel)
theorem zsX9_isKey : Cond.selects RX9 yX9_isKey yX9_isKey ∈ z_tb := z_w1 136 (by decide +kernel) (by decide +kernel)
theorem zmX9_isKeyword : z_me mX9_isKeyword 1 := ⟨z_w1 1585 (by decide +kernel) (by decide +kernel), z_w1 191 (by decide +kernel) (by decide +kernel), by decide +kernel, by decide +kernel, by decide +kernel⟩
theorem ztX9_isKeyword : Cond.static yX9_isKeyword ∈ z_tb := z_w1 1584 (by decide +kernel) (by decide +kernel)
theorem zmX9_isName : z_me mX9_isName 1 := ⟨z_w1 1582 (by decide +kernel) (by decide +kernel), z_w1 191 (by decide +kernel) (by decide +kernel), by decide +kernel, by decide +kernel, by decide +kernel⟩
theorem ztX9_isName : Cond.static yX9_isName ∈ z_tb := z_w1 1581 (by decide +kernel) (by decide +kernel)
theorem zmX9_named : z_me mX9_named 1 := ⟨z_w1 1589 (by decide +kernel) (by decide +kernel), z_w1 191 (by decide +kernel) (by decide +kernel), by decide +kernel, by decide +kernel, by decide +kernel⟩
theorem znX9_named : Cond.instanceMethod yX9_named ∈ z_tb := z_w1 1588 (by decide +kernel) (by decide +kernel)
theorem zsX9_named : Cond.selects RX9 yX9_named yX9_named ∈ z_tb := z_w1 140 (by decide +kernel) (by decide +kernel)
theorem zmX9_numberIn : z_me mX9_numberIn 2 := ⟨z_w1 1574 (by decide +kernel) (by decide +kernel), z_w1 191 (by decide +kernel) (by decide +kernel), by decide +kernel, by decide +kernel, by decide +kernel⟩
theorem znX9_numberIn : Cond.instanceMethod yX9_numberIn ∈ z_tb := z_w1 1573 (by decide +kernel) (by decide +kernel)
theorem zsX9_numberIn : Cond.selects RX9 yX9_numberIn yX9_numberIn ∈ z_tb := z_w1 138 (by decide +kernel) (by decide +kernel)
theorem zmX9_opens : z_me mX9_opens 1 := ⟨z_w1 1593 (by decide +kernel) (by decide +kernel), z_w1 191 (by decide +kernel) (by decide +kernel), by decide +kernel, by decide +kernel, by decide +kernel⟩
theorem znX9_opens : Cond.instanceMethod yX9_opens ∈ z_tb := z_w1 1592 (by decide +kernel) (by decide +kernel)
theorem zsX9_opens : Cond.selects RX9 yX9_opens yX9_opens ∈ z_tb := z_w1 141 (by decide +kernel) (by decide +kernel)
theorem zmX9_readEvent : z_me mX9_readEvent 0 := ⟨z_w1 1579 (by decide +kernel) (by decide +kernel), z_w1 191 (by decide +kernel) (by decide +kernel), by decide +kernel, by decide +kernel, by decide +kernel⟩
theorem znX9_readEvent : Cond.instanceMethod yX9_readEvent ∈ z_tb := z_w1 1578 (by decide +kernel) (by decide +kernel)
theorem zsX9_readEvent : Cond.selects RX9 yX9_readEvent yX9_readEvent ∈ z_tb := z_w1 139 (by decide +kernel) (by decide +kernel)
theorem zmX9_readEventName : z_me mX9_readEventName 1 := ⟨z_w1 1601 (by decide +kernel) (by decide +kernel), z_w1 191 (by decide +kernel) (by decide +kernel), by decide +kernel, by decide +kernel, by decide +kernel⟩
theorem znX9_readEventName : Cond.instanceMethod yX9_readEventName ∈ z_tb := z_w1 1600 (by decide +kernel) (by decide +kernel)
theorem zsX9_readEventName : Cond.selects RX9 yX9_readEventName yX9_readEventName ∈ z_tb := z_w1 143 (by decide +kernel) (by decide +kernel)
theorem zmX9_readGap : z_me mX9_readGap 0 := ⟨z_w1 1597 (by decide +kernel) (by decide +kernel), z_w1 191 (by decide +kernel) (by decide +kernel), by decide +kernel, by decide +kernel, by decide +kernel⟩
theorem znX9_readGap : Cond.instanceMethod yX9_readGap ∈ z_tb := z_w1 1596 (by decide +kernel) (by decide +kernel)
theorem zsX9_readGap : Cond.selects RX9 yX9_readGap yX9_readGap ∈ z_tb := z_w1 142 (by decide +kernel) (by decide +kernel)
theorem zmX9_readPin : z_me mX9_readPin 0 := ⟨z_w1 1607 (by decide +kernel) (by decide +kernel), z_w1 191 (by decide +kernel) (by decide +kernel), by decide +kernel, by decide +kernel, by decide +kernel⟩
theorem znX9_readPin : Cond.instanceMethod yX9_readPin ∈ z_tb := z_w1 1606 (by decide +kernel) (by decide +kernel)
theorem zsX9_readPin : Cond.selects RX9 yX9_readPin yX9_readPin ∈ z_tb := z_w1 144 (by decide +kernel) (by decide +kernel)
theorem zmX9_load : z_me mX9_load 0 := ⟨z_w1 1546 (by decide +kernel) (by decide +kernel), z_w1 191 (by decide +kernel) (by decide +kernel), by decide +kernel, by decide +kernel, by decide +kernel⟩
theorem znX9_load : Cond.instanceMethod yX9_load ∈ z_tb := z_w1 1544 (by decide +kernel) (by decide +kernel)
theorem zsX9_load : Cond.selects RX9 yX9_load yX9_load ∈ z_tb := z_w1 1545 (by decide +kernel) (by decide +kernel)
theorem zmX9_errorPosition : z_me mX9_errorPosition 0 := ⟨z_w1 1611 (by decide +kernel) (by decide +kernel), z_w1 191 (by decide +kernel) (by decide +kernel), by decide +kernel, by decide +kernel, by decide +kernel⟩
theorem znX9_errorPosition : Cond.instanceMethod yX9_errorPosition ∈ z_tb := z_w1 1609 (by decide +kernel) (by decide +kernel)
theorem zsX9_errorPosition : Cond.selects RX9 yX9_errorPosition yX9_errorPosition ∈ z_tb := z_w1 1610 (by decide +kernel) (by decide +kernel)
theorem zmX9_tapes : z_me mX9_tapes 1 := ⟨z_w1 1619 (by decide +kernel) (by decide +kernel), z_w1 191 (by decide +kernel) (by decide +kernel), by decide +kernel, by decide +kernel, by decide +kernel⟩
theorem znX9_tapes : Cond.instanceMethod yX9_tapes ∈ z_tb := z_w1 1618 (by decide +kernel) (by decide +kernel)
theorem zsX9_tapes : Cond.selects RX9 yX9_tapes yX9_tapes ∈ z_tb := z_w1 145 (by decide +kernel) (by decide +kernel)
theorem zmX9_append : z_me mX9_append 5 := ⟨z_w1 1615 (by decide +kernel) (by decide +kernel), z_w1 191 (by decide +kernel) (by decide +kernel), by decide +kernel, by decide +kernel, by decide +kernel⟩
theorem znX9_append : Cond.instanceMethod yX9_append ∈ z_tb := z_w1 1613 (by decide +kernel) (by decide +kernel)
theorem zsX9_append : Cond.selects RX9 yX9_append yX9_append ∈ z_tb := z_w1 1614 (by decide +kernel) (by decide +kernel)
theorem zmX9_truncate : z_me mX9_truncate 1 := ⟨z_w1 1623 (by decide +kernel) (by decide +kernel), z_w1 191 (by decide +kernel) (by decide +kernel), by decide +kernel, by decide +kernel, by decide +kernel⟩
theorem znX9_truncate : Cond.instanceMethod yX9_truncate ∈ z_tb := z_w1 1621 (by decide +kernel) (by decide +kernel)
theorem zsX9_truncate : Cond.selects RX9 yX9_truncate yX9_truncate ∈ z_tb := z_w1 1622 (by decide +kernel) (by decide +kernel)
theorem zmX9_taped : z_me mX9_taped 0 := ⟨z_w1 1631 (by decide +kernel) (by decide +kernel), z_w1 191 (by decide +kernel) (by decide +kernel), by decide +kernel, by decide +kernel, by decide +kernel⟩
theorem znX9_taped : Cond.instanceMethod yX9_taped ∈ z_tb := z_w1 1630 (by decide +kernel) (by decide +kernel)
theorem zsX9_taped : Cond.selects RX9 yX9_taped yX9_taped ∈ z_tb := z_w1 146 (by decide +kernel) (by decide +kernel)
theorem zmX9_open : z_me mX9_open 0 := ⟨z_w1 1627 (by decide +kernel) (by decide +kernel), z_w1 191 (by decide +kernel) (by decide +kernel), by decide +kernel, by decide +kernel, by decide +kernel⟩
theorem znX9_open : Cond.instanceMethod yX9_open ∈ z_tb := z_w1 1625 (by decide +kernel) (by decide +kernel)
theorem zsX9_open : Cond.selects RX9 yX9_open yX9_open ∈ z_tb := z_w1 1626 (by decide +kernel) (by decide +kernel)
theorem zmX9_rename : z_me mX9_rename 1 := ⟨z_w1 1635 (by decide +kernel) (by decide +kernel), z_w1 191 (by decide +kernel) (by decide +kernel), by decide +kernel, by decide +kernel, by decide +kernel⟩
theorem znX9_rename : Cond.instanceMethod yX9_rename ∈ z_tb := z_w1 1633 (by decide +kernel) (by decide +kernel)
theorem zsX9_rename : Cond.selects RX9 yX9_rename yX9_rename ∈ z_tb := z_w1 1634 (by decide +kernel) (by decide +kernel)
theorem zmX9_onGaps : z_me mX9_onGaps 0 := ⟨z_w1 1643 (by decide +kernel) (by decide +kernel), z_w1 191 (by decide +kernel) (by decide +kernel), by decide +kernel, by decide +kernel, by decide +kernel⟩
theorem znX9_onGaps : Cond.instanceMethod yX9_onGaps ∈ z_tb := z_w1 1642 (by decide +kernel) (by decide +kernel)
theorem zsX9_onGaps : Cond.selects RX9 yX9_onGaps yX9_onGaps ∈ z_tb := z_w1 147 (by decide +kernel) (by decide +kernel)
theorem zmX9_tightGaps : z_me mX9_tightGaps 0 := ⟨z_w1 1647 (by decide +kernel) (by decide +kernel), z_w1 191 (by decide +kernel) (by decide +kernel), by decide +kernel, by decide +kernel, by decide +kernel⟩
theorem znX9_tightGaps : Cond.instanceMethod yX9_tightGaps ∈ z_tb := z_w1 1646 (by decide +kernel) (by decide +kernel)
theorem zsX9_tightGaps : Cond.selects RX9 yX9_tightGaps yX9_tightGaps ∈ z_tb := z_w1 148 (by decide +kernel) (by decide +kernel)
theorem zmX9_neededGaps : z_me mX9_neededGaps 1 := ⟨z_w1 1651 (by decide +kernel) (by decide +kernel), z_w1 191 (by decide +kernel) (by decide +kernel), by decide +kernel, by decide +kernel, by decide +kernel⟩
theorem znX9_neededGaps : Cond.instanceMethod yX9_neededGaps ∈ z_tb := z_w1 1650 (by decide +kernel) (by decide +kernel)
theorem zsX9_neededGaps : Cond.selects RX9 yX9_neededGaps yX9_neededGaps ∈ z_tb := z_w1 149 (by decide +kernel) (by decide +kernel)
theorem zmX9_fixedEvents : z_me mX9_fixedEvents 0 := ⟨z_w1 1655 (by decide +kernel) (by decide +kernel), z_w1 191 (by decide +kernel) (by decide +kernel), by decide +kernel, by decide +kernel, by decide +kernel⟩
theorem znX9_fixedEvents : Cond.instanceMethod yX9_fixedEvents ∈ z_tb := z_w1 1654 (by decide +kernel) (by decide +kernel)
theorem zsX9_fixedEvents : Cond.selects RX9 yX9_fixedEvents yX9_fixedEvents ∈ z_tb := z_w1 150 (by decide +kernel) (by decide +kernel)
theorem zmX9_greatestEarliest : z_me mX9_greatestEarliest 0 := ⟨z_w1 1659 (by decide +kernel) (by decide +kernel), z_w1 191 (by decide +kernel) (by decide +kernel), by decide +kernel, by decide +kernel, by decide +kernel⟩
theorem znX9_greatestEarliest : Cond.instanceMethod yX9_greatestEarliest ∈ z_tb := z_w1 1658 (by decide +kernel) (by decide +kernel)
theorem zsX9_greatestEarliest : Cond.selects RX9 yX9_greatestEarliest yX9_greatestEarliest ∈ z_tb := z_w1 151 (by decide +kernel) (by decide +kernel)
theorem zmX9_value : z_me mX9_value 1 := ⟨z_w1 1639 (by decide +kernel) (by decide +kernel), z_w1 191 (by decide +kernel) (by decide +kernel), by decide +kernel, by decide +kernel, by decide +kernel⟩
theorem znX9_value : Cond.instanceMethod yX9_value ∈ z_tb := z_w1 1637 (by decide +kernel) (by decide +kernel)
theorem zsX9_value : Cond.selects RX9 yX9_value yX9_value ∈ z_tb := z_w1 1638 (by decide +kernel) (by decide +kernel)
theorem zmX9_lettersOf : z_me mX9_lettersOf 1 := ⟨z_w1 1666 (by decide +kernel) (by decide +kernel), z_w1 191 (by decide +kernel) (by decide +kernel), by decide +kernel, by decide +kernel, by decide +kernel⟩
theorem ztX9_lettersOf : Cond.static yX9_lettersOf ∈ z_tb := z_w1 1665 (by decide +kernel) (by decide +kernel)
theorem zmX9_letterOf : z_me mX9_letterOf 2 := ⟨z_w1 1669 (by decide +kernel) (by decide +kernel), z_w1 191 (by decide +kernel) (by decide +kernel), by decide +kernel, by decide +kernel, by decide +kernel⟩
theorem ztX9_letterOf : Cond.static yX9_letterOf ∈ z_tb := z_w1 1668 (by decide +kernel) (by decide +kernel)
theorem zmX9_letter : z_me mX9_letter 2 := ⟨z_w1 1663 (by decide +kernel) (by decide +kernel), z_w1 191 (by decide +kernel) (by decide +kernel), by decide +kernel, by decide +kernel, by decide +kernel⟩
theorem znX9_letter : Cond.instanceMethod yX9_letter ∈ z_tb := z_w1 1661 (by decide +kernel) (by decide +kernel)
theorem zsX9_letter : Cond.selects RX9 yX9_letter yX9_letter ∈ z_tb := z_w1 1662 (by decide +kernel) (by decide +kernel)
theorem zmX9_gap : z_me mX9_gap 2 := ⟨z_w1 1673 (by decide +kernel) (by decide +kernel), z_w1 191 (by decide +kernel) (by decide +kernel), by decide +kernel, by decide +kernel, by decide +kernel⟩
theorem znX9_gap : Cond.instanceMethod yX9_gap ∈ z_tb := z_w1 1671 (by decide +kernel) (by decide +kernel)
theorem zsX9_gap : Cond.selects RX9 yX9_gap yX9_gap ∈ z_tb := z_w1 1672 (by decide +kernel) (by decide +kernel)
theorem zmX9_gapsOf : z_me mX9_gapsOf 1 := ⟨z_w1 1681 (by decide +kernel) (by decide +kernel), z_w1 191 (by decide +kernel) (by decide +kernel), by decide +kernel, by decide +kernel, by decide +kernel⟩
theorem znX9_gapsOf : Cond.instanceMethod yX9_gapsOf ∈ z_tb := z_w1 1680 (by decide +kernel) (by decide +kernel)
theorem zsX9_gapsOf : Cond.selects RX9 yX9_gapsOf yX9_gapsOf ∈ z_tb := z_w1 152 (by decide +kernel) (by decide +kernel)
theorem zmX9_event : z_me mX9_event 2 := ⟨z_w1 1677 (by decide +kernel) (by decide +kernel), z_w1 191 (by decide +kernel) (by decide +kernel), by decide +kernel, by decide +kernel, by decide +kernel⟩
theorem znX9_event : Cond.instanceMethod yX9_event ∈ z_tb := z_w1 1675 (by decide +kernel) (by decide +kernel)
theorem zsX9_event : Cond.selects RX9 yX9_event yX9_event ∈ z_tb := z_w1 1676 (by decide +kernel) (by decide +kernel)
theorem zmX9_bound : z_me mX9_bound 2 := ⟨z_w1 1685 (by decide +kernel) (by decide +kernel), z_w1 191 (by decide +kernel) (by decide +kernel), by decide +kernel, by decide +kernel, by decide +kernel⟩
theorem znX9_bound : Cond.instanceMethod yX9_bound ∈ z_tb := z_w1 1683 (by decide +kernel) (by decide +kernel)
theorem zsX9_bound : Cond.selects RX9 yX9_bound yX9_bound ∈ z_tb := z_w1 1684 (by decide +kernel) (by decide +kernel)
theorem zmX9_laysWay : z_me mX9_laysWay 2 := ⟨z_w1 1694 (by decide +kernel) (by decide +kernel), z_w1 191 (by decide +kernel) (by decide +kernel), by decide +kernel, by decide +kernel, by decide +kernel⟩
theorem znX9_laysWay : Cond.instanceMethod yX9_laysWay ∈ z_tb := z_w1 1693 (by decide +kernel) (by decide +kernel)
theorem zsX9_laysWay : Cond.selects RX9 yX9_laysWay yX9_laysWay ∈ z_tb := z_w1 153 (by decide +kernel) (by decide +kernel)
theorem zmX9_laysSums : z_me mX9_laysSums 1 := ⟨z_w1 1698 (by decide +kernel) (by decide +kernel), z_w1 191 (by decide +kernel) (by decide +kernel), by decide +kernel, by decide +kernel, by decide +kernel⟩
theorem znX9_laysSums : Cond.instanceMethod yX9_laysSums ∈ z_tb := z_w1 1697 (by decide +kernel) (by decide +kernel)
theorem zsX9_laysSums : Cond.selects RX9 yX9_laysSums yX9_laysSums ∈ z_tb := z_w1 154 (by decide +kernel) (by decide +kernel)
theorem zmX9_firstStep : z_me mX9_firstStep 3 := ⟨z_w1 1702 (by decide +kernel) (by decide +kernel), z_w1 191 (by decide +kernel) (by decide +kernel), by decide +kernel, by decide +kernel, by decide +kernel⟩
theorem znX9_firstStep : Cond.instanceMethod yX9_firstStep ∈ z_tb := z_w1 1701 (by decide +kernel) (by decide +kernel)
theorem zsX9_firstStep : Cond.selects RX9 yX9_firstStep yX9_firstStep ∈ z_tb := z_w1 155 (by decide +kernel) (by decide +kernel)
theorem zmX9_way : z_me mX9_way 3 := ⟨z_w1 1690 (by decide +kernel) (by decide +kernel), z_w1 191 (by decide +kernel) (by decide +kernel), by decide +kernel, by decide +kernel, by decide +kernel⟩
theorem znX9_way : Cond.instanceMethod yX9_way ∈ z_tb := z_w1 1688 (by decide +kernel) (by decide +kernel)
theorem zsX9_way : Cond.selects RX9 yX9_way yX9_way ∈ z_tb := z_w1 1689 (by decide +kernel) (by decide +kernel)
theorem zmX9_wayLength : z_me mX9_wayLength 2 := ⟨z_w1 1706 (by decide +kernel) (by decide +kernel), z_w1 191 (by decide +kernel) (by decide +kernel), by decide +kernel, by decide +kernel, by decide +kernel⟩
theorem znX9_wayLength : Cond.instanceMethod yX9_wayLength ∈ z_tb := z_w1 1704 (by decide +kernel) (by decide +kernel)
theorem zsX9_wayLength : Cond.selects RX9 yX9_wayLength yX9_wayLength ∈ z_tb := z_w1 1705 (by decide +kernel) (by decide +kernel)
theorem zmX9_relationOf : z_me mX9_relationOf 2 := ⟨z_w1 1714 (by decide +kernel) (by decide +kernel), z_w1 191 (by decide +kernel) (by decide +kernel), by decide +kernel, by decide +kernel, by decide +kernel⟩
theorem znX9_relationOf : Cond.instanceMethod yX9_relationOf ∈ z_tb := z_w1 1713 (by decide +kernel) (by decide +kernel)
theorem zsX9_relationOf : Cond.selects RX9 yX9_relationOf yX9_relationOf ∈ z_tb := z_w1 156 (by decide +kernel) (by decide +kernel)
theorem zmX9_relation : z_me mX9_relation 2 := ⟨z_w1 1710 (by decide +kernel) (by decide +kernel), z_w1 191 (by decide +kernel) (by decide +kernel), by decide +kernel, by decide +kernel, by decide +kernel⟩
theorem znX9_relation : Cond.instanceMethod yX9_relation ∈ z_tb := z_w1 1708 (by decide +kernel) (by decide +kernel)
theorem zsX9_relation : Cond.selects RX9 yX9_relation yX9_relation ∈ z_tb := z_w1 1709 (by decide +kernel) (by decide +kernel)
theorem zmX9_play : z_me mX9_play 2 := ⟨z_w1 1718 (by decide +kernel) (by decide +kernel), z_w1 191 (by decide +kernel) (by decide +kernel), by decide +kernel, by decide +kernel, by decide +kernel⟩
theorem znX9_play : Cond.instanceMethod yX9_play ∈ z_tb := z_w1 1716 (by decide +kernel) (by decide +kernel)
theorem zsX9_play : Cond.selects RX9 yX9_play yX9_play ∈ z_tb := z_w1 1717 (by decide +kernel) (by decide +kernel)
theorem zmX9_pairs : z_me mX9_pairs 1 := ⟨z_w1 1722 (by decide +kernel) (by decide +kernel), z_w1 191 (by decide +kernel) (by decide +kernel), by decide +kernel, by decide +kernel, by decide +kernel⟩
theorem znX9_pairs : Cond.instanceMethod yX9_pairs ∈ z_tb := z_w1 1720 (by decide +kernel) (by decide +kernel)
theorem zsX9_pairs : Cond.selects RX9 yX9_pairs yX9_pairs ∈ z_tb := z_w1 1721 (by decide +kernel) (by decide +kernel)
theorem zmX9_direct : z_me mX9_direct 2 := ⟨z_w1 1726 (by decide +kernel) (by decide +kernel), z_w1 191 (by decide +kernel) (by decide +kernel), by decide +kernel, by decide +kernel, by decide +kernel⟩
theorem znX9_direct : Cond.instanceMethod yX9_direct ∈ z_tb := z_w1 1724 (by decide +kernel) (by decide +kernel)
theorem zsX9_direct : Cond.selects RX9 yX9_direct yX9_direct ∈ z_tb := z_w1 1725 (by decide +kernel) (by decide +kernel)
theorem zmX9_timeOf : z_me mX9_timeOf 2 := ⟨z_w1 1738 (by decide +kernel) (by decide +kernel), z_w1 191 (by decide +kernel) (by decide +kernel), by decide +kernel, by decide +kernel, by decide +kernel⟩
theorem znX9_timeOf : Cond.instanceMethod yX9_timeOf ∈ z_tb := z_w1 1737 (by decide +kernel) (by decide +kernel)
theorem zsX9_timeOf : Cond.selects RX9 yX9_timeOf yX9_timeOf ∈ z_tb := z_w1 158 (by decide +kernel) (by decide +kernel)
theorem zmX9_placed : z_me mX9_placed 2 := ⟨z_w1 1734 (by decide +kernel) (by decide +kernel), z_w1 191 (by decide +kernel) (by decide +kernel), by decide +kernel, by decide +kernel, by decide +kernel⟩
theorem znX9_placed : Cond.instanceMethod yX9_placed ∈ z_tb := z_w1 1733 (by decide +kernel) (by decide +kernel)
theorem zsX9_placed : Cond.selects RX9 yX9_placed yX9_placed ∈ z_tb := z_w1 157 (by decide +kernel) (by decide +kernel)
theorem zmX9_ordered : z_me mX9_ordered 1 := ⟨z_w1 1730 (by decide +kernel) (by decide +kernel), z_w1 191 (by decide +kernel) (by decide +kernel), by decide +kernel, by decide +kernel, by decide +kernel⟩
theorem znX9_ordered : Cond.instanceMethod yX9_ordered ∈ z_tb := z_w1 1728 (by decide +kernel) (by decide +kernel)
theorem zsX9_ordered : Cond.selects RX9 yX9_ordered yX9_ordered ∈ z_tb := z_w1 1729 (by decide +kernel) (by decide +kernel)
theorem zmX9_lastly : z_me mX9_lastly 1 := ⟨z_w1 1742 (by decide +kernel) (by decide +kernel), z_w1 191 (by decide +kernel) (by decide +kernel), by decide +kernel, by decide +kernel, by decide +kernel⟩
theorem znX9_lastly : Cond.instanceMethod yX9_lastly ∈ z_tb := z_w1 1740 (by decide +kernel) (by decide +kernel)
theorem zsX9_lastly : Cond.selects RX9 yX9_lastly yX9_lastly ∈ z_tb := z_w1 1741 (by decide +kernel) (by decide +kernel)
theorem zmX9_middle : z_me mX9_middle 1 := ⟨z_w1 1746 (by decide +kernel) (by decide +kernel), z_w1 191 (by decide +kernel) (by decide +kernel), by decide +kernel, by decide +kernel, by decide +kernel⟩
theorem znX9_middle : Cond.instanceMethod yX9_middle ∈ z_tb := z_w1 1744 (by decide +kernel) (by decide +kernel)
theorem zsX9_middle : Cond.selects RX9 yX9_middle yX9_middle ∈ z_tb := z_w1 1745 (by decide +kernel) (by decide +kernel)
theorem zmX9_can : z_me mX9_can 2 := ⟨z_w1 1750 (by decide +kernel) (by decide +kernel), z_w1 191 (by decide +kernel) (by decide +kernel), by decide +kernel, by decide +kernel, by decide +kernel⟩
theorem znX9_can : Cond.instanceMethod yX9_can ∈ z_tb := z_w1 1748 (by decide +kernel) (by decide +kernel)
theorem zsX9_can : Cond.selects RX9 yX9_can yX9_can ∈ z_tb := z_w1 1749 (by decide +kernel) (by decide +kernel)
theorem zmX9_widest : z_me mX9_widest 0 := ⟨z_w1 1754 (by decide +kernel) (by decide +kernel), z_w1 191 (by decide +kernel) (by decide +kernel), by decide +kernel, by decide +kernel, by decide +kernel⟩
theorem znX9_widest : Cond.instanceMethod yX9_widest ∈ z_tb := z_w1 1752 (by decide +kernel) (by decide +kernel)
theorem zsX9_widest : Cond.selects RX9 yX9_widest yX9_widest ∈ z_tb := z_w1 1753 (by decide +kernel) (by decide +kernel)
theorem zmX9_freest : z_me mX9_freest 0 := ⟨z_w1 1758 (by decide +kernel) (by decide +kernel), z_w1 191 (by decide +kernel) (by decide +kernel), by decide +kernel, by decide +kernel, by decide +kernel⟩
theorem znX9_freest : Cond.instanceMethod yX9_freest ∈ z_tb := z_w1 1756 (by decide +kernel) (by decide +kernel)
theorem zsX9_freest : Cond.selects RX9 yX9_freest yX9_freest ∈ z_tb := z_w1 1757 (by decide +kernel) (by decide +kernel)
theorem zmX9_laysAside : z_me mX9_laysAside 4 := ⟨z_w1 1766 (by decide +kernel) (by decide +kernel), z_w1 191 (by decide +kernel) (by decide +kernel), by decide +kernel, by decide +kernel, by decide +kernel⟩
theorem znX9_laysAside : Cond.instanceMethod yX9_laysAside ∈ z_tb := z_w1 1765 (by decide +kernel) (by decide +kernel)
theorem zsX9_laysAside : Cond.selects RX9 yX9_laysAside yX9_laysAside ∈ z_tb := z_w1 159 (by decide +kernel) (by decide +kernel)
theorem zmX9_leastRing : z_me mX9_leastRing 0 := ⟨z_w1 1770 (by decide +kernel) (by decide +kernel), z_w1 191 (by decide +kernel) (by decide +kernel), by decide +kernel, by decide +kernel, by decide +kernel⟩
theorem znX9_leastRing : Cond.instanceMethod yX9_leastRing ∈ z_tb := z_w1 1769 (by decide +kernel) (by decide +kernel)
theorem zsX9_leastRing : Cond.selects RX9 yX9_leastRing yX9_leastRing ∈ z_tb := z_w1 160 (by decide +kernel) (by decide +kernel)
theorem zmX9_isShortRing : z_me mX9_isShortRing 0 := ⟨z_w1 1774 (by decide +kernel) (by decide +kernel), z_w1 191 (by decide +kernel) (by decide +kernel), by decide +kernel, by decide +kernel, by decide +kernel⟩
theorem znX9_isShortRing : Cond.instanceMethod yX9_isShortRing ∈ z_tb := z_w1 1773 (by decide +kernel) (by decide +kernel)
theorem zsX9_isShortRing : Cond.selects RX9 yX9_isShortRing yX9_isShortRing ∈ z_tb := z_w1 161 (by decide +kernel) (by decide +kernel)
theorem zmX9_why : z_me mX9_why 5 := ⟨z_w1 1762 (by decide +kernel) (by decide +kernel), z_w1 191 (by decide +kernel) (by decide +kernel), by decide +kernel, by decide +kernel, by decide +kernel⟩
theorem znX9_why : Cond.instanceMethod yX9_why ∈ z_tb := z_w1 1760 (by decide +kernel) (by decide +kernel)
theorem zsX9_why : Cond.selects RX9 yX9_why yX9_why ∈ z_tb := z_w1 1761 (by decide +kernel) (by decide +kernel)
theorem zmX9_ring : z_me mX9_ring 5 := ⟨z_w1 1778 (by decide +kernel) (by decide +kernel), z_w1 191 (by decide +kernel) (by decide +kernel), by decide +kernel, by decide +kernel, by decide +kernel⟩
theorem znX9_ring : Cond.instanceMethod yX9_ring ∈ z_tb := z_w1 1776 (by decide +kernel) (by decide +kernel)
theorem zsX9_ring : Cond.selects RX9 yX9_ring yX9_ring ∈ z_tb := z_w1 1777 (by decide +kernel) (by decide +kernel)
theorem zmX9_culprit : z_me mX9_culprit 4 := ⟨z_w1 1782 (by decide +kernel) (by decide +kernel), z_w1 191 (by decide +kernel) (by decide +kernel), by decide +kernel, by decide +kernel, by decide +kernel⟩
theorem znX9_culprit : Cond.instanceMethod yX9_culprit ∈ z_tb := z_w1 1780 (by decide +kernel) (by decide +kernel)
theorem zsX9_culprit : Cond.selects RX9 yX9_culprit yX9_culprit ∈ z_tb := z_w1 1781 (by decide +kernel) (by decide +kernel)
theorem zmX9_tightestOf : z_me mX9_tightestOf 3 := ⟨z_w1 1790 (by decide +kernel) (by decide +kernel), z_w1 191 (by decide +kernel) (by decide +kernel), by decide +kernel, by decide +kernel, by decide +kernel⟩
theorem znX9_tightestOf : Cond.instanceMethod yX9_tightestOf ∈ z_tb := z_w1 1789 (by decide +kernel) (by decide +kernel)
theorem zsX9_tightestOf : Cond.selects RX9 yX9_tightestOf yX9_tightestOf ∈ z_tb := z_w1 162 (by decide +kernel) (by decide +kernel)
theorem zmX9_tightest : z_me mX9_tightest 3 := ⟨z_w1 1786 (by decide +kernel) (by decide +kernel), z_w1 191 (by decide +kernel) (by decide +kernel), by decide +kernel, by decide +kernel, by decide +kernel⟩
theorem znX9_tightest : Cond.instanceMethod yX9_tightest ∈ z_tb := z_w1 1784 (by decide +kernel) (by decide +kernel)
theorem zsX9_tightest : Cond.selects RX9 yX9_tightest yX9_tightest ∈ z_tb := z_w1 1785 (by decide +kernel) (by decide +kernel)
theorem zmX9_spare : z_me mX9_spare 1 := ⟨z_w1 1794 (by decide +kernel) (by decide +kernel), z_w1 191 (by decide +kernel) (by decide +kernel), by decide +kernel, by decide +kernel, by decide +kernel⟩
theorem znX9_spare : Cond.instanceMethod yX9_spare ∈ z_tb := z_w1 1792 (by decide +kernel) (by decide +kernel)
theorem zsX9_spare : Cond.selects RX9 yX9_spare yX9_spare ∈ z_tb := z_w1 1793 (by decide +kernel) (by decide +kernel)
theorem zmX9_needless : z_me mX9_needless 0 := ⟨z_w1 1798 (by decide +kernel) (by decide +kernel), z_w1 191 (by decide +kernel) (by decide +kernel), by decide +kernel, by decide +kernel, by decide +kernel⟩
theorem znX9_needless : Cond.instanceMethod yX9_needless ∈ z_tb := z_w1 1796 (by decide +kernel) (by decide +kernel)
theorem zsX9_needless : Cond.selects RX9 yX9_needless yX9_needless ∈ z_tb := z_w1 1797 (by decide +kernel) (by decide +kernel)
theorem zmX9_needs : z_me mX9_needs 1 := ⟨z_w1 1802 (by decide +kernel) (by decide +kernel), z_w1 191 (by decide +kernel) (by decide +kernel), by decide +kernel, by decide +kernel, by decide +kernel⟩
theorem znX9_needs : Cond.instanceMethod yX9_needs ∈ z_tb := z_w1 1800 (by decide +kernel) (by decide +kernel)
theorem zsX9_needs : Cond.selects RX9 yX9_needs yX9_needs ∈ z_tb := z_w1 1801 (by decide +kernel) (by decide +kernel)
theorem zmX9_keepsBounds : z_me mX9_keepsBounds 0 := ⟨z_w1 1810 (by decide +kernel) (by decide +kernel), z_w1 191 (by decide +kernel) (by decide +kernel), by decide +kernel, by decide +kernel, by decide +kernel⟩
theorem znX9_keepsBounds : Cond.instanceMethod yX9_keepsBounds ∈ z_tb := z_w1 1809 (by decide +kernel) (by decide +kernel)
theorem zsX9_keepsBounds : Cond.selects RX9 yX9_keepsBounds yX9_keepsBounds ∈ z_tb := z_w1 163 (by decide +kernel) (by decide +kernel)
theorem zmX9_otherBounds : z_me mX9_otherBounds 0 := ⟨z_w1 1814 (by decide +kernel) (by decide +kernel), z_w1 191 (by decide +kernel) (by decide +kernel), by decide +kernel, by decide +kernel, by decide +kernel⟩
theorem znX9_otherBounds : Cond.instanceMethod yX9_otherBounds ∈ z_tb := z_w1 1813 (by decide +kernel) (by decide +kernel)
theorem zsX9_otherBounds : Cond.selects RX9 yX9_otherBounds yX9_otherBounds ∈ z_tb := z_w1 164 (by decide +kernel) (by decide +kernel)
theorem zmX9_otherTimes : z_me mX9_otherTimes 0 := ⟨z_w1 1818 (by decide +kernel) (by decide +kernel), z_w1 191 (by decide +kernel) (by decide +kernel), by decide +kernel, by decide +kernel, by decide +kernel⟩
theorem znX9_otherTimes : Cond.instanceMethod yX9_otherTimes ∈ z_tb := z_w1 1817 (by decide +kernel) (by decide +kernel)
theorem zsX9_otherTimes : Cond.selects RX9 yX9_otherTimes yX9_otherTimes ∈ z_tb := z_w1 165 (by decide +kernel) (by decide +kernel)
theorem zmX9_tellsThen : z_me mX9_tellsThen 1 := ⟨z_w1 1826 (by decide +kernel) (by decide +kernel), z_w1 191 (by decide +kernel) (by decide +kernel), by decide +kernel, by decide +kernel, by decide +kernel⟩
theorem znX9_tellsThen : Cond.instanceMethod yX9_tellsThen ∈ z_tb := z_w1 1825 (by decide +kernel) (by decide +kernel)
theorem zsX9_tellsThen : Cond.selects RX9 yX9_tellsThen yX9_tellsThen ∈ z_tb := z_w1 166 (by decide +kernel) (by decide +kernel)
theorem zmX9_ifTold : z_me mX9_ifTold 5 := ⟨z_w1 1806 (by decide +kernel) (by decide +kernel), z_w1 191 (by decide +kernel) (by decide +kernel), by decide +kernel, by decide +kernel, by decide +kernel⟩
theorem znX9_ifTold : Cond.instanceMethod yX9_ifTold ∈ z_tb := z_w1 1804 (by decide +kernel) (by decide +kernel)
theorem zsX9_ifTold : Cond.selects RX9 yX9_ifTold yX9_ifTold ∈ z_tb := z_w1 1805 (by decide +kernel) (by decide +kernel)
theorem zmX9_ifDropped : z_me mX9_ifDropped 2 := ⟨z_w1 1822 (by decide +kernel) (by decide +kernel), z_w1 191 (by decide +kernel) (by decide +kernel), by decide +kernel, by decide +kernel, by decide +kernel⟩
theorem znX9_ifDropped : Cond.instanceMethod yX9_ifDropped ∈ z_tb := z_w1 1820 (by decide +kernel) (by decide +kernel)
theorem zsX9_ifDropped : Cond.selects RX9 yX9_ifDropped yX9_ifDropped ∈ z_tb := z_w1 1821 (by decide +kernel) (by decide +kernel)
theorem zmX9_ifTurned : z_me mX9_ifTurned 2 := ⟨z_w1 1830 (by decide +kernel) (by decide +kernel), z_w1 191 (by decide +kernel) (by decide +kernel), by decide +kernel, by decide +kernel, by decide +kernel⟩
theorem znX9_ifTurned : Cond.instanceMethod yX9_ifTurned ∈ z_tb := z_w1 1828 (by decide +kernel) (by decide +kernel)
theorem zsX9_ifTurned : Cond.selects RX9 yX9_ifTurned yX9_ifTurned ∈ z_tb := z_w1 1829 (by decide +kernel) (by decide +kernel)
theorem zmX9_ifPinned : z_me mX9_ifPinned 3 := ⟨z_w1 1834 (by decide +kernel) (by decide +kernel), z_w1 191 (by decide +kernel) (by decide +kernel), by decide +kernel, by decide +kernel, by decide +kernel⟩
theorem znX9_ifPinned : Cond.instanceMethod yX9_ifPinned ∈ z_tb := z_w1 1832 (by decide +kernel) (by decide +kernel)
theorem zsX9_ifPinned : Cond.selects RX9 yX9_ifPinned yX9_ifPinned ∈ z_tb := z_w1 1833 (by decide +kernel) (by decide +kernel)
theorem zmX9_leastEnd : z_me mX9_leastEnd 0 := ⟨z_w1 1838 (by decide +kernel) (by decide +kernel), z_w1 191 (by decide +kernel) (by decide +kernel), by decide +kernel, by decide +kernel, by decide +kernel⟩
theorem znX9_leastEnd : Cond.instanceMethod yX9_leastEnd ∈ z_tb := z_w1 1836 (by decide +kernel) (by decide +kernel)
theorem zsX9_leastEnd : Cond.selects RX9 yX9_leastEnd yX9_leastEnd ∈ z_tb := z_w1 1837 (by decide +kernel) (by decide +kernel)
theorem zmX9_slowest : z_me mX9_slowest 0 := ⟨z_w1 1842 (by decide +kernel) (by decide +kernel), z_w1 191 (by decide +kernel) (by decide +kernel), by decide +kernel, by decide +kernel, by decide +kernel⟩
theorem znX9_slowest : Cond.instanceMethod yX9_slowest ∈ z_tb := z_w1 1840 (by decide +kernel) (by decide +kernel)
theorem zsX9_slowest : Cond.selects RX9 yX9_slowest yX9_slowest ∈ z_tb := z_w1 1841 (by decide +kernel) (by decide +kernel)
theorem zmX9_tightShare : z_me mX9_tightShare 0 := ⟨z_w1 1846 (by decide +kernel) (by decide +kernel), z_w1 191 (by decide +kernel) (by decide +kernel), by decide +kernel, by decide +kernel, by decide +kernel⟩
theorem znX9_tightShare : Cond.instanceMethod yX9_tightShare ∈ z_tb := z_w1 1844 (by decide +kernel) (by decide +kernel)
theorem zsX9_tightShare : Cond.selects RX9 yX9_tightShare yX9_tightShare ∈ z_tb := z_w1 1845 (by decide +kernel) (by decide +kernel)
theorem zmX9_meanRoom : z_me mX9_meanRoom 0 := ⟨z_w1 1850 (by decide +kernel) (by decide +kernel), z_w1 191 (by decide +kernel) (by decide +kernel), by decide +kernel, by decide +kernel, by decide +kernel⟩
theorem znX9_meanRoom : Cond.instanceMethod yX9_meanRoom ∈ z_tb := z_w1 1848 (by decide +kernel) (by decide +kernel)
theorem zsX9_meanRoom : Cond.selects RX9 yX9_meanRoom yX9_meanRoom ∈ z_tb := z_w1 1849 (by decide +kernel) (by decide +kernel)
theorem zmX9_says : z_me mX9_says 1 := ⟨z_w1 1870 (by decide +kernel) (by decide +kernel), z_w1 191 (by decide +kernel) (by decide +kernel), by decide +kernel, by decide +kernel, by decide +kernel⟩
theorem znX9_says : Cond.instanceMethod yX9_says ∈ z_tb := z_w1 1869 (by decide +kernel) (by decide +kernel)
theorem zsX9_says : Cond.selects RX9 yX9_says yX9_says ∈ z_tb := z_w1 170 (by decide +kernel) (by decide +kernel)
theorem zmX9_saysWord : z_me mX9_saysWord 1 := ⟨z_w1 1866 (by decide +kernel) (by decide +kernel), z_w1 191 (by decide +kernel) (by decide +kernel), by decide +kernel, by decide +kernel, by decide +kernel⟩
theorem znX9_saysWord : Cond.instanceMethod yX9_saysWord ∈ z_tb := z_w1 1865 (by decide +kernel) (by decide +kernel)
theorem zsX9_saysWord : Cond.selects RX9 yX9_saysWord yX9_saysWord ∈ z_tb := z_w1 169 (by decide +kernel) (by decide +kernel)
theorem zmX9_saysNumber : z_me mX9_saysNumber 1 := ⟨z_w1 1874 (by decide +kernel) (by decide +kernel), z_w1 191 (by decide +kernel) (by decide +kernel), by decide +kernel, by decide +kernel, by decide +kernel⟩
theorem znX9_saysNumber : Cond.instanceMethod yX9_saysNumber ∈ z_tb := z_w1 1873 (by decide +kernel) (by decide +kernel)
theorem zsX9_saysNumber : Cond.selects RX9 yX9_saysNumber yX9_saysNumber ∈ z_tb := z_w1 171 (by decide +kernel) (by decide +kernel)
theorem zmX9_saysKey : z_me mX9_saysKey 2 := ⟨z_w1 1862 (by decide +kernel) (by decide +kernel), z_w1 191 (by decide +kernel) (by decide +kernel), by decide +kernel, by decide +kernel, by decide +kernel⟩
theorem znX9_saysKey : Cond.instanceMethod yX9_saysKey ∈ z_tb := z_w1 1861 (by decide +kernel) (by decide +kernel)
theorem zsX9_saysKey : Cond.selects RX9 yX9_saysKey yX9_saysKey ∈ z_tb := z_w1 168 (by decide +kernel) (by decide +kernel)
theorem zmX9_saysEvent : z_me mX9_saysEvent 1 := ⟨z_w1 1894 (by decide +kernel) (by decide +kernel), z_w1 191 (by decide +kernel) (by decide +kernel), by decide +kernel, by decide +kernel, by decide +kernel⟩
theorem znX9_saysEvent : Cond.instanceMethod yX9_saysEvent ∈ z_tb := z_w1 1893 (by decide +kernel) (by decide +kernel)
theorem zsX9_saysEvent : Cond.selects RX9 yX9_saysEvent yX9_saysEvent ∈ z_tb := z_w1 174 (by decide +kernel) (by decide +kernel)
theorem zmX9_toldByte : z_me mX9_toldByte 1 := ⟨z_w1 1882 (by decide +kernel) (by decide +kernel), z_w1 191 (by decide +kernel) (by decide +kernel), by decide +kernel, by decide +kernel, by decide +kernel⟩
theorem znX9_toldByte : Cond.instanceMethod yX9_toldByte ∈ z_tb := z_w1 1881 (by decide +kernel) (by decide +kernel)
theorem zsX9_toldByte : Cond.selects RX9 yX9_toldByte yX9_toldByte ∈ z_tb := z_w1 172 (by decide +kernel) (by decide +kernel)
theorem zmX9_writesList : z_me mX9_writesList 0 := ⟨z_w1 1858 (by decide +kernel) (by decide +kernel), z_w1 191 (by decide +kernel) (by decide +kernel), by decide +kernel, by decide +kernel, by decide +kernel⟩
theorem znX9_writesList : Cond.instanceMethod yX9_writesList ∈ z_tb := z_w1 1857 (by decide +kernel) (by decide +kernel)
theorem zsX9_writesList : Cond.selects RX9 yX9_writesList yX9_writesList ∈ z_tb := z_w1 167 (by decide +kernel) (by decide +kernel)
theorem zmX9_listLength : z_me mX9_listLength 0 := ⟨z_w1 1854 (by decide +kernel) (by decide +kernel), z_w1 191 (by decide +kernel) (by decide +kernel), by decide +kernel, by decide +kernel, by decide +kernel⟩
theorem znX9_listLength : Cond.instanceMethod yX9_listLength ∈ z_tb := z_w1 1852 (by decide +kernel) (by decide +kernel)
theorem zsX9_listLength : Cond.selects RX9 yX9_listLength yX9_listLength ∈ z_tb := z_w1 1853 (by decide +kernel) (by decide +kernel)
theorem zmX9_listByte : z_me mX9_listByte 1 := ⟨z_w1 1878 (by decide +kernel) (by decide +kernel), z_w1 191 (by decide +kernel) (by decide +kernel), by decide +kernel, by decide +kernel, by decide +kernel⟩
theorem znX9_listByte : Cond.instanceMethod yX9_listByte ∈ z_tb := z_w1 1876 (by decide +kernel) (by decide +kernel)
theorem zsX9_listByte : Cond.selects RX9 yX9_listByte yX9_listByte ∈ z_tb := z_w1 1877 (by decide +kernel) (by decide +kernel)
theorem zmX9_writesGap : z_me mX9_writesGap 1 := ⟨z_w1 1898 (by decide +kernel) (by decide +kernel), z_w1 191 (by decide +kernel) (by decide +kernel), by decide +kernel, by decide +kernel, by decide +kernel⟩
theorem znX9_writesGap : Cond.instanceMethod yX9_writesGap ∈ z_tb := z_w1 1897 (by decide +kernel) (by decide +kernel)
theorem zsX9_writesGap : Cond.selects RX9 yX9_writesGap yX9_writesGap ∈ z_tb := z_w1 175 (by decide +kernel) (by decide +kernel)
theorem zmX9_writesSetup : z_me mX9_writesSetup 0 := ⟨z_w1 1890 (by decide +kernel) (by decide +kernel), z_w1 191 (by decide +kernel) (by decide +kernel), by decide +kernel, by decide +kernel, by decide +kernel⟩
theorem znX9_writesSetup : Cond.instanceMethod yX9_writesSetup ∈ z_tb := z_w1 1889 (by decide +kernel) (by decide +kernel)
theorem zsX9_writesSetup : Cond.selects RX9 yX9_writesSetup yX9_writesSetup ∈ z_tb := z_w1 173 (by decide +kernel) (by decide +kernel)
theorem zmX9_setupLength : z_me mX9_setupLength 0 := ⟨z_w1 1886 (by decide +kernel) (by decide +kernel), z_w1 191 (by decide +kernel) (by decide +kernel), by decide +kernel, by decide +kernel, by decide +kernel⟩
theorem znX9_setupLength : Cond.instanceMethod yX9_setupLength ∈ z_tb := z_w1 1884 (by decide +kernel) (by decide +kernel)
theorem zsX9_setupLength : Cond.selects RX9 yX9_setupLength yX9_setupLength ∈ z_tb := z_w1 1885 (by decide +kernel) (by decide +kernel)
theorem zmX9_setupByte : z_me mX9_setupByte 1 := ⟨z_w1 1902 (by decide +kernel) (by decide +kernel), z_w1 191 (by decide +kernel) (by decide +kernel), by decide +kernel, by decide +kernel, by decide +kernel⟩
theorem znX9_setupByte : Cond.instanceMethod yX9_setupByte ∈ z_tb := z_w1 1900 (by decide +kernel) (by decide +kernel)
theorem zsX9_setupByte : Cond.selects RX9 yX9_setupByte yX9_setupByte ∈ z_tb := z_w1 1901 (by decide +kernel) (by decide +kernel)
theorem zmJ9_floorDiv_7cf53 : z_me mJ9_floorDiv_7cf53 2 := ⟨z_w1 701 (by decide +kernel) (by decide +kernel), z_w1 190 (by decide +kernel) (by decide +kernel), by decide +kernel, by decide +kernel, by decide +kernel⟩
theorem ztJ9_floorDiv_7cf53 : Cond.static yJ9_floorDiv_7cf53 ∈ z_tb := z_w1 700 (by decide +kernel) (by decide +kernel)
theorem zmJ9_floorMod_7cf53 : z_me mJ9_floorMod_7cf53 2 := ⟨z_w1 1043 (by decide +kernel) (by decide +kernel), z_w1 190 (by decide +kernel) (by decide +kernel), by decide +kernel, by decide +kernel, by decide +kernel⟩
theorem ztJ9_floorMod_7cf53 : Cond.static yJ9_floorMod_7cf53 ∈ z_tb := z_w1 1042 (by decide +kernel) (by decide +kernel)
theorem zmJ9_abs_0f7a4 : z_me mJ9_abs_0f7a4 1 := ⟨z_w1 1133 (by decide +kernel) (by decide +kernel), z_w1 190 (by decide +kernel) (by decide +kernel), by decide +kernel, by decide +kernel, by decide +kernel⟩
theorem ztJ9_abs_0f7a4 : Cond.static yJ9_abs_0f7a4 ∈ z_tb := z_w1 1132 (by decide +kernel) (by decide +kernel)
theorem zmJ9_max_7cf53 : z_me mJ9_max_7cf53 2 := ⟨z_w1 873 (by decide +kernel) (by decide +kernel), z_w1 190 (by decide +kernel) (by decide +kernel), by decide +kernel, by decide +kernel, by decide +kernel⟩
theorem ztJ9_max_7cf53 : Cond.static yJ9_max_7cf53 ∈ z_tb := z_w1 872 (by decide +kernel) (by decide +kernel)
theorem zmJ9_min_7cf53 : z_me mJ9_min_7cf53 2 := ⟨z_w1 518 (by decide +kernel) (by decide +kernel), z_w1 190 (by decide +kernel) (by decide +kernel), by decide +kernel, by decide +kernel, by decide +kernel⟩
theorem ztJ9_min_7cf53 : Cond.static yJ9_min_7cf53 ∈ z_tb := z_w1 517 (by decide +kernel) (by decide +kernel)
theorem zmJ0_length_8abf5 : z_me mJ0_length_8abf5 0 := ⟨z_w1 438 (by decide +kernel) (by decide +kernel), z_w1 186 (by decide +kernel) (by decide +kernel), by decide +kernel, by decide +kernel, by decide +kernel⟩
theorem znJ0_length_8abf5 : Cond.instanceMethod yJ0_length_8abf5 ∈ z_tb := z_w1 436 (by decide +kernel) (by decide +kernel)
theorem zsJ0_length_8abf5 : Cond.selects RJ0 yJ0_length_8abf5 yJ0_length_8abf5 ∈ z_tb := z_w1 437 (by decide +kernel) (by decide +kernel)
theorem zmJ0_charAt_5068e : z_me mJ0_charAt_5068e 1 := ⟨z_w1 448 (by decide +kernel) (by decide +kernel), z_w1 186 (by decide +kernel) (by decide +kernel), by decide +kernel, by decide +kernel, by decide +kernel⟩
theorem znJ0_charAt_5068e : Cond.instanceMethod yJ0_charAt_5068e ∈ z_tb := z_w1 446 (by decide +kernel) (by decide +kernel)
theorem zsJ0_charAt_5068e : Cond.selects RJ0 yJ0_charAt_5068e yJ0_charAt_5068e ∈ z_tb := z_w1 447 (by decide +kernel) (by decide +kernel)
theorem zmJ0_coder_7d493 : z_me mJ0_coder_7d493 0 := ⟨z_w1 442 (by decide +kernel) (by decide +kernel), z_w1 186 (by decide +kernel) (by decide +kernel), by decide +kernel, by decide +kernel, by decide +kernel⟩
theorem znJ0_coder_7d493 : Cond.instanceMethod yJ0_coder_7d493 ∈ z_tb := z_w1 440 (by decide +kernel) (by decide +kernel)
theorem zsJ0_coder_7d493 : Cond.selects RJ0 yJ0_coder_7d493 yJ0_coder_7d493 ∈ z_tb := z_w1 441 (by decide +kernel) (by decide +kernel)
theorem zmJ0_isLatin1_aae02 : z_me mJ0_isLatin1_aae02 0 := ⟨z_w1 452 (by decide +kernel) (by decide +kernel), z_w1 186 (by decide +kernel) (by decide +kernel), by decide +kernel, by decide +kernel, by decide +kernel⟩
theorem znJ0_isLatin1_aae02 : Cond.instanceMethod yJ0_isLatin1_aae02 ∈ z_tb := z_w1 450 (by decide +kernel) (by decide +kernel)
theorem zsJ0_isLatin1_aae02 : Cond.selects RJ0 yJ0_isLatin1_aae02 yJ0_isLatin1_aae02 ∈ z_tb := z_w1 451 (by decide +kernel) (by decide +kernel)
theorem zmJ0_checkIndex_df160 : z_me mJ0_checkIndex_df160 2 := ⟨z_w1 458 (by decide +kernel) (by decide +kernel), z_w1 186 (by decide +kernel) (by decide +kernel), by decide +kernel, by decide +kernel, by decide +kernel⟩
theorem ztJ0_checkIndex_df160 : Cond.static yJ0_checkIndex_df160 ∈ z_tb := z_w1 457 (by decide +kernel) (by decide +kernel)
theorem zmJ1_charAt_3b067 : z_me mJ1_charAt_3b067 2 := ⟨z_w1 455 (by decide +kernel) (by decide +kernel), z_w1 187 (by decide +kernel) (by decide +kernel), by decide +kernel, by decide +kernel, by decide +kernel⟩
theorem ztJ1_charAt_3b067 : Cond.static yJ1_charAt_3b067 ∈ z_tb := z_w1 454 (by decide +kernel) (by decide +kernel)
theorem zmJ3_checkIndex_8e157 : z_me mJ3_checkIndex_8e157 3 := ⟨z_w1 463 (by decide +kernel) (by decide +kernel), z_w1 188 (by decide +kernel) (by decide +kernel), by decide +kernel, by decide +kernel, by decide +kernel⟩
theorem ztJ3_checkIndex_8e157 : Cond.static yJ3_checkIndex_8e157 ∈ z_tb := z_w1 462 (by decide +kernel) (by decide +kernel)
