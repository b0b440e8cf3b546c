set_option maxRecDepth 100000 in
theorem z_k0 : z_cls 0 RX0 TX0 3 tyX0 := by
  refine ⟨rfl, ?_, tyX0_ok, nmX0⟩
  intro w hw
  obtain ⟨k, hk, rfl⟩ := List.mem_map.mp hw
  have hk : k < 3 := List.mem_range.mp hk
  rcases (show k = 0 ∨ k = 1 ∨ k = 2 by omega) with rfl | rfl | rfl
  · exact z_w1 270 (Eq.refl _) (by decide +kernel)
  · exact z_w1 272 (Eq.refl _) (by decide +kernel)
  · exact z_w1 274 (Eq.refl _) (by decide +kernel)
set_option maxRecDepth 100000 in
theorem z_k1 : z_cls 1 RX1 TX1 3 tyX1 := by
  refine ⟨rfl, ?_, tyX1_ok, nmX1⟩
  intro w hw
  obtain ⟨k, hk, rfl⟩ := List.mem_map.mp hw
  have hk : k < 3 := List.mem_range.mp hk
  rcases (show k = 0 ∨ k = 1 ∨ k = 2 by omega) with rfl | rfl | rfl
  · exact z_w1 148 (Eq.refl _) (by decide +kernel)
  · exact z_w1 150 (Eq.refl _) (by decide +kernel)
  · exact z_w1 152 (Eq.refl _) (by decide +kernel)
set_option maxRecDepth 100000 in
theorem z_k2 : z_cls 2 RX2 TX2 7 tyX2 := by
  refine ⟨rfl, ?_, tyX2_ok, nmX2⟩
  intro w hw
  obtain ⟨k, hk, rfl⟩ := List.mem_map.mp hw
  have hk : k < 7 := List.mem_range.mp hk
  rcases (show k = 0 ∨ k = 1 ∨ k = 2 ∨ k = 3 ∨ k = 4 ∨ k = 5 ∨ k = 6 by omega) with rfl | rfl | rfl | rfl | rfl | rfl | rfl
  · exact z_w1 242 (Eq.refl _) (by decide +kernel)
  · exact z_w1 244 (Eq.refl _) (by decide +kernel)
  · exact z_w1 246 (Eq.refl _) (by decide +kernel)
  · exact z_w1 248 (Eq.refl _) (by decide +kernel)
  · exact z_w1 250 (Eq.refl _) (by decide +kernel)
  · exact z_w1 252 (Eq.refl _) (by decide +kernel)
  · exact z_w1 254 (Eq.refl _) (by decide +kernel)
set_option maxRecDepth 100000 in
theorem z_k3 : z_cls 3 RX3 TX3 12 tyX3 := by
  refine ⟨rfl, ?_, tyX3_ok, nmX3⟩
  intro w hw
  obtain ⟨k, hk, rfl⟩ := List.mem_map.mp hw
  have hk : k < 12 := List.mem_range.mp hk
  rcases (show k = 0 ∨ k = 1 ∨ k = 2 ∨ k = 3 ∨ k = 4 ∨ k = 5 ∨ k = 6 ∨ k = 7 ∨ k = 8 ∨ k = 9 ∨ k = 10 ∨ k = 11 by omega) with rfl | rfl | rfl | rfl | rfl | rfl | rfl | rfl | rfl | rfl | rfl | rfl
  · exact z_w1 203 (Eq.refl _) (by decide +kernel)
  · exact z_w1 205 (Eq.refl _) (by decide +kernel)
  · exact z_w1 207 (Eq.refl _) (by decide +kernel)
  · exact z_w1 209 (Eq.refl _) (by decide +kernel)
  · exact z_w1 211 (Eq.refl _) (by decide +kernel)
  · exact z_w1 213 (Eq.refl _) (by decide +kernel)
  · exact z_w1 215 (Eq.refl _) (by decide +kernel)
  · exact z_w1 217 (Eq.refl _) (by decide +kernel)
  · exact z_w1 219 (Eq.refl _) (by decide +kernel)
  · exact z_w1 221 (Eq.refl _) (by decide +kernel)
  · exact z_w1 223 (Eq.refl _) (by decide +kernel)
  · exact z_w1 225 (Eq.refl _) (by decide +kernel)
set_option maxRecDepth 100000 in
theorem z_k4 : z_cls 4 RX4 TX4 6 tyX4 := by
  refine ⟨rfl, ?_, tyX4_ok, nmX4⟩
  intro w hw
  obtain ⟨k, hk, rfl⟩ := List.mem_map.mp hw
  have hk : k < 6 := List.mem_range.mp hk
  rcases (show k = 0 ∨ k = 1 ∨ k = 2 ∨ k = 3 ∨ k = 4 ∨ k = 5 by omega) with rfl | rfl | rfl | rfl | rfl | rfl
  · exact z_w1 326 (Eq.refl _) (by decide +kernel)
  · exact z_w1 328 (Eq.refl _) (by decide +kernel)
  · exact z_w1 330 (Eq.refl _) (by decide +kernel)
  · exact z_w1 332 (Eq.refl _) (by decide +kernel)
  · exact z_w1 334 (Eq.refl _) (by decide +kernel)
  · exact z_w1 336 (Eq.refl _) (by decide +kernel)
set_option maxRecDepth 100000 in
theorem z_k5 : z_cls 5 RX5 TX5 2 tyX5 := by
  refine ⟨rfl, ?_, tyX5_ok, nmX5⟩
  intro w hw
  obtain ⟨k, hk, rfl⟩ := List.mem_map.mp hw
  have hk : k < 2 := List.mem_range.mp hk
  rcases (show k = 0 ∨ k = 1 by omega) with rfl | rfl
  · exact z_w1 289 (Eq.refl _) (by decide +kernel)
  · exact z_w1 291 (Eq.refl _) (by decide +kernel)
set_option maxRecDepth 100000 in
theorem z_k6 : z_cls 6 RX6 TX6 2 tyX6 := by
  refine ⟨rfl, ?_, tyX6_ok, nmX6⟩
  intro w hw
  obtain ⟨k, hk, rfl⟩ := List.mem_map.mp hw
  have hk : k < 2 := List.mem_range.mp hk
  rcases (show k = 0 ∨ k = 1 by omega) with rfl | rfl
  · exact z_w1 309 (Eq.refl _) (by decide +kernel)
  · exact z_w1 311 (Eq.refl _) (by decide +kernel)
set_option maxRecDepth 100000 in
theorem z_k7 : z_cls 7 RX7 TX7 2 tyX7 := by
  refine ⟨rfl, ?_, tyX7_ok, nmX7⟩
  intro w hw
  obtain ⟨k, hk, rfl⟩ := List.mem_map.mp hw
  have hk : k < 2 := List.mem_range.mp hk
  rcases (show k = 0 ∨ k = 1 by omega) with rfl | rfl
  · exact z_w1 348 (Eq.refl _) (by decide +kernel)
  · exact z_w1 350 (Eq.refl _) (by decide +kernel)
set_option maxRecDepth 100000 in
theorem z_k8 : z_cls 8 RX8 TX8 9 tyX8 := by
  refine ⟨rfl, ?_, tyX8_ok, nmX8⟩
  intro w hw
  obtain ⟨k, hk, rfl⟩ := List.mem_map.mp hw
  have hk : k < 9 := List.mem_range.mp hk
  rcases (show k = 0 ∨ k = 1 ∨ k = 2 ∨ k = 3 ∨ k = 4 ∨ k = 5 ∨ k = 6 ∨ k = 7 ∨ k = 8 by omega) with rfl | rfl | rfl | rfl | rfl | rfl | rfl | rfl | rfl
  · exact z_w1 463 (Eq.refl _) (by decide +kernel)
  · exact z_w1 465 (Eq.refl _) (by decide +kernel)
  · exact z_w1 467 (Eq.refl _) (by decide +kernel)
  · exact z_w1 469 (Eq.refl _) (by decide +kernel)
  · exact z_w1 471 (Eq.refl _) (by decide +kernel)
  · exact z_w1 473 (Eq.refl _) (by decide +kernel)
  · exact z_w1 475 (Eq.refl _) (by decide +kernel)
  · exact z_w1 477 (Eq.refl _) (by decide +kernel)
  · exact z_w1 479 (Eq.refl _) (by decide +kernel)
set_option maxRecDepth 100000 in
theorem z_k9 : z_cls 9 RJ0 TJ0 4 tyJ0 := by
  refine ⟨rfl, ?_, tyJ0_ok, nmJ0⟩
  intro w hw
  obtain ⟨k, hk, rfl⟩ := List.mem_map.mp hw
  have hk : k < 4 := List.mem_range.mp hk
  rcases (show k = 0 ∨ k = 1 ∨ k = 2 ∨ k = 3 by omega) with rfl | rfl | rfl | rfl
  · exact z_w1 943 (Eq.refl _) (by decide +kernel)
  · exact z_w1 945 (Eq.refl _) (by decide +kernel)
  · exact z_w1 947 (Eq.refl _) (by decide +kernel)
  · exact z_w1 949 (Eq.refl _) (by decide +kernel)
set_option maxRecDepth 100000 in
theorem z_k10 : z_cls 10 RJ4 TJ4 4 tyJ4 := by
  refine ⟨rfl, ?_, tyJ4_ok, nmJ4⟩
  intro w hw
  obtain ⟨k, hk, rfl⟩ := List.mem_map.mp hw
  have hk : k < 4 := List.mem_range.mp hk
  rcases (show k = 0 ∨ k = 1 ∨ k = 2 ∨ k = 3 by omega) with rfl | rfl | rfl | rfl
  · exact z_w1 836 (Eq.refl _) (by decide +kernel)
  · exact z_w1 838 (Eq.refl _) (by decide +kernel)
  · exact z_w1 840 (Eq.refl _) (by decide +kernel)
  · exact z_w1 842 (Eq.refl _) (by decide +kernel)
abbrev mX0_init : z_M := (yX0_init, cX0_init, 2, none, { frames := 3, cells := 2608, slots := 2608, locals := 60 })
abbrev mX0_clear : z_M := (yX0_clear, cX0_clear, 1, none, { frames := 0, cells := 0, slots := 0, locals := 0 })
abbrev mX0_remember : z_M := (yX0_remember, cX0_remember, 2, none, { frames := 3, cells := 0, slots := 0, locals := 83 })
abbrev mX0_bringBack : z_M := (yX0_bringBack, cX0_bringBack, 2, none, { frames := 3, cells := 0, slots := 0, locals := 83 })
abbrev mX1_init : z_M := (yX1_init, cX1_init, 1, none, { frames := 1, cells := 120, slots := 120, locals := 20 })
abbrev mX1_clear : z_M := (yX1_clear, cX1_clear, 1, none, { frames := 0, cells := 0, slots := 0, locals := 0 })
abbrev mX1_copyFrom : z_M := (yX1_copyFrom, cX1_copyFrom, 2, none, { frames := 1, cells := 0, slots := 0, locals := 40 })
abbrev mX1_note : z_M := (yX1_note, cX1_note, 5, none, { frames := 0, cells := 0, slots := 0, locals := 0 })
abbrev mX1_part : z_M := (yX1_part, cX1_part, 3, (some .int), { frames := 0, cells := 0, slots := 0, locals := 0 })
abbrev mX2_init : z_M := (yX2_init, cX2_init, 1, none, { frames := 1, cells := 340, slots := 340, locals := 20 })
abbrev mX2_build : z_M := (yX2_build, cX2_build, 3, none, { frames := 2, cells := 0, slots := 0, locals := 50 })
abbrev mX2_collectSteps : z_M := (yX2_collectSteps, cX2_collectSteps, 7, none, { frames := 1, cells := 0, slots := 0, locals := 24 })
abbrev mX2_collect : z_M := (yX2_collect, cX2_collect, 5, none, { frames := 0, cells := 0, slots := 0, locals := 0 })
abbrev mX2_startWeights : z_M := (yX2_startWeights, cX2_startWeights, 3, none, { frames := 1, cells := 0, slots := 0, locals := 21 })
abbrev mX2_closeWeights : z_M := (yX2_closeWeights, cX2_closeWeights, 7, none, { frames := 1, cells := 0, slots := 0, locals := 21 })
abbrev mX2_copyBounds : z_M := (yX2_copyBounds, cX2_copyBounds, 2, none, { frames := 1, cells := 0, slots := 0, locals := 40 })
abbrev mX2_addStep : z_M := (yX2_addStep, cX2_addStep, 9, none, { frames := 1, cells := 0, slots := 0, locals := 21 })
abbrev mX2_addGapStep : z_M := (yX2_addGapStep, cX2_addGapStep, 5, none, { frames := 2, cells := 0, slots := 0, locals := 49 })
abbrev mX2_addPin : z_M := (yX2_addPin, cX2_addPin, 3, none, { frames := 2, cells := 0, slots := 0, locals := 49 })
abbrev mX2_weightOf : z_M := (yX2_weightOf, cX2_weightOf, 1, (some .int), { frames := 0, cells := 0, slots := 0, locals := 0 })
abbrev mX2_between : z_M := (yX2_between, cX2_between, 3, (some .int), { frames := 1, cells := 0, slots := 0, locals := 22 })
abbrev mX2_stepsBetween : z_M := (yX2_stepsBetween, cX2_stepsBetween, 3, (some .int), { frames := 1, cells := 0, slots := 0, locals := 22 })
abbrev mX2_earliest : z_M := (yX2_earliest, cX2_earliest, 2, (some .int), { frames := 2, cells := 0, slots := 0, locals := 44 })
abbrev mX2_latest : z_M := (yX2_latest, cX2_latest, 2, (some .int), { frames := 2, cells := 0, slots := 0, locals := 44 })
abbrev mX2_possibleTimes : z_M := (yX2_possibleTimes, cX2_possibleTimes, 2, (some .int), { frames := 3, cells := 0, slots := 0, locals := 65 })
abbrev mX2_allows : z_M := (yX2_allows, cX2_allows, 3, (some .boolean), { frames := 3, cells := 0, slots := 0, locals := 65 })
abbrev mX2_leastRing : z_M := (yX2_leastRing, cX2_leastRing, 6, (some .int), { frames := 2, cells := 0, slots := 0, locals := 44 })
abbrev mX2_oneStepDenies : z_M := (yX2_oneStepDenies, cX2_oneStepDenies, 8, (some .boolean), { frames := 1, cells := 0, slots := 0, locals := 22 })
abbrev mX2_stepOfWay : z_M := (yX2_stepOfWay, cX2_stepOfWay, 7, (some .int), { frames := 2, cells := 0, slots := 0, locals := 45 })
abbrev mX2_firstStep : z_M := (yX2_firstStep, cX2_firstStep, 6, (some .int), { frames := 1, cells := 0, slots := 0, locals := 20 })
abbrev mX2_countSettled : z_M := (yX2_countSettled, cX2_countSettled, 3, (some .int), { frames := 4, cells := 0, slots := 0, locals := 86 })
abbrev mX2_greatestEarliest : z_M := (yX2_greatestEarliest, cX2_greatestEarliest, 3, (some .int), { frames := 3, cells := 0, slots := 0, locals := 65 })
abbrev mX2_room : z_M := (yX2_room, cX2_room, 3, (some .int), { frames := 3, cells := 0, slots := 0, locals := 65 })
abbrev mX2_placeByEarliest : z_M := (yX2_placeByEarliest, cX2_placeByEarliest, 5, (some .int), { frames := 3, cells := 0, slots := 0, locals := 65 })
abbrev mX2_placeByLatest : z_M := (yX2_placeByLatest, cX2_placeByLatest, 5, (some .int), { frames := 3, cells := 0, slots := 0, locals := 65 })
abbrev mX2_countOtherBounds : z_M := (yX2_countOtherBounds, cX2_countOtherBounds, 5, (some .int), { frames := 2, cells := 0, slots := 0, locals := 44 })
abbrev mX2_countOtherTimes : z_M := (yX2_countOtherTimes, cX2_countOtherTimes, 4, (some .int), { frames := 3, cells := 0, slots := 0, locals := 65 })
abbrev mX3_init : z_M := (yX3_init, cX3_init, 1, none, { frames := 2, cells := 313, slots := 313, locals := 40 })
abbrev mX3_clear : z_M := (yX3_clear, cX3_clear, 1, none, { frames := 5, cells := 0, slots := 0, locals := 107 })
abbrev mX3_addStart : z_M := (yX3_addStart, cX3_addStart, 3, none, { frames := 4, cells := 0, slots := 0, locals := 85 })
abbrev mX3_copyFrom : z_M := (yX3_copyFrom, cX3_copyFrom, 3, none, { frames := 2, cells := 0, slots := 0, locals := 61 })
abbrev mX3_addEvent : z_M := (yX3_addEvent, cX3_addEvent, 5, (some .int), { frames := 2, cells := 0, slots := 0, locals := 46 })
abbrev mX3_nameEvent : z_M := (yX3_nameEvent, cX3_nameEvent, 6, none, { frames := 1, cells := 0, slots := 0, locals := 21 })
abbrev mX3_letterOf : z_M := (yX3_letterOf, cX3_letterOf, 3, (some .int), { frames := 0, cells := 0, slots := 0, locals := 0 })
abbrev mX3_findEvent : z_M := (yX3_findEvent, cX3_findEvent, 5, (some .int), { frames := 2, cells := 0, slots := 0, locals := 47 })
abbrev mX3_isNamed : z_M := (yX3_isNamed, cX3_isNamed, 6, (some .boolean), { frames := 1, cells := 0, slots := 0, locals := 22 })
abbrev mX3_addGap : z_M := (yX3_addGap, cX3_addGap, 7, (some .int), { frames := 0, cells := 0, slots := 0, locals := 0 })
abbrev mX3_removeGap : z_M := (yX3_removeGap, cX3_removeGap, 3, none, { frames := 0, cells := 0, slots := 0, locals := 0 })
abbrev mX3_isPinned : z_M := (yX3_isPinned, cX3_isPinned, 2, (some .boolean), { frames := 0, cells := 0, slots := 0, locals := 0 })
abbrev mX3_hasEvent : z_M := (yX3_hasEvent, cX3_hasEvent, 3, (some .boolean), { frames := 0, cells := 0, slots := 0, locals := 0 })
abbrev mX3_countPinned : z_M := (yX3_countPinned, cX3_countPinned, 3, (some .int), { frames := 1, cells := 0, slots := 0, locals := 21 })
abbrev mX3_countOn : z_M := (yX3_countOn, cX3_countOn, 3, (some .int), { frames := 1, cells := 0, slots := 0, locals := 20 })
abbrev mX3_countOnOf : z_M := (yX3_countOnOf, cX3_countOnOf, 4, (some .int), { frames := 1, cells := 0, slots := 0, locals := 22 })
abbrev mX4_init : z_M := (yX4_init, cX4_init, 1, none, { frames := 3, cells := 1574, slots := 1574, locals := 60 })
abbrev mX4_read : z_M := (yX4_read, cX4_read, 2, (some .boolean), { frames := 8, cells := 0, slots := 0, locals := 177 })
abbrev mX4_position : z_M := (yX4_position, cX4_position, 1, (some .int), { frames := 0, cells := 0, slots := 0, locals := 0 })
abbrev mX4_next : z_M := (yX4_next, cX4_next, 2, none, { frames := 2, cells := 0, slots := 0, locals := 43 })
abbrev mX4_isHere : z_M := (yX4_isHere, cX4_isHere, 2, (some .boolean), { frames := 5, cells := 0, slots := 0, locals := 109 })
abbrev mX4_takeWord : z_M := (yX4_takeWord, cX4_takeWord, 3, (some .boolean), { frames := 6, cells := 0, slots := 0, locals := 130 })
abbrev mX4_takeSemicolon : z_M := (yX4_takeSemicolon, cX4_takeSemicolon, 2, (some .boolean), { frames := 3, cells := 0, slots := 0, locals := 64 })
abbrev mX4_numberHere : z_M := (yX4_numberHere, cX4_numberHere, 3, (some .int), { frames := 1, cells := 0, slots := 0, locals := 21 })
abbrev mX4_eventHere : z_M := (yX4_eventHere, cX4_eventHere, 1, (some .int), { frames := 3, cells := 0, slots := 0, locals := 71 })
abbrev mX4_kindHere : z_M := (yX4_kindHere, cX4_kindHere, 1, (some .int), { frames := 6, cells := 0, slots := 0, locals := 130 })
abbrev mX4_readEnd : z_M := (yX4_readEnd, cX4_readEnd, 2, (some .boolean), { frames := 7, cells := 0, slots := 0, locals := 152 })
abbrev mX4_readEvent : z_M := (yX4_readEvent, cX4_readEvent, 1, (some .boolean), { frames := 7, cells := 0, slots := 0, locals := 153 })
abbrev mX4_readGap : z_M := (yX4_readGap, cX4_readGap, 6, (some .boolean), { frames := 7, cells := 0, slots := 0, locals := 152 })
abbrev mX4_readPin : z_M := (yX4_readPin, cX4_readPin, 3, (some .boolean), { frames := 4, cells := 0, slots := 0, locals := 91 })
abbrev mX5_init : z_M := (yX5_init, cX5_init, 2, none, { frames := 3, cells := 654, slots := 654, locals := 60 })
abbrev mX5_clear : z_M := (yX5_clear, cX5_clear, 2, none, { frames := 0, cells := 0, slots := 0, locals := 0 })
abbrev mX6_init : z_M := (yX6_init, cX6_init, 1, none, { frames := 1, cells := 900, slots := 900, locals := 20 })
abbrev mX6_putFourBytes : z_M := (yX6_putFourBytes, cX6_putFourBytes, 3, none, { frames := 0, cells := 0, slots := 0, locals := 0 })
abbrev mX6_byteAt : z_M := (yX6_byteAt, cX6_byteAt, 2, (some .int), { frames := 0, cells := 0, slots := 0, locals := 0 })
abbrev mX6_isName : z_M := (yX6_isName, cX6_isName, 3, (some .boolean), { frames := 6, cells := 0, slots := 0, locals := 131 })
abbrev mX6_isKeyword : z_M := (yX6_isKeyword, cX6_isKeyword, 3, (some .boolean), { frames := 5, cells := 0, slots := 0, locals := 109 })
abbrev mX6_spells : z_M := (yX6_spells, cX6_spells, 5, (some .boolean), { frames := 4, cells := 0, slots := 0, locals := 85 })
abbrev mX6_countLetters : z_M := (yX6_countLetters, cX6_countLetters, 3, (some .int), { frames := 1, cells := 0, slots := 0, locals := 21 })
abbrev mX6_countDigits : z_M := (yX6_countDigits, cX6_countDigits, 3, (some .int), { frames := 1, cells := 0, slots := 0, locals := 21 })
abbrev mX6_countSpaces : z_M := (yX6_countSpaces, cX6_countSpaces, 3, (some .int), { frames := 1, cells := 0, slots := 0, locals := 21 })
abbrev mX6_isLetter : z_M := (yX6_isLetter, cX6_isLetter, 1, (some .boolean), { frames := 0, cells := 0, slots := 0, locals := 0 })
abbrev mX6_isDigit : z_M := (yX6_isDigit, cX6_isDigit, 1, (some .boolean), { frames := 0, cells := 0, slots := 0, locals := 0 })
abbrev mX7_init : z_M := (yX7_init, cX7_init, 1, none, { frames := 1, cells := 1024, slots := 1024, locals := 20 })
abbrev mX7_byteAt : z_M := (yX7_byteAt, cX7_byteAt, 2, (some .int), { frames := 0, cells := 0, slots := 0, locals := 0 })
abbrev mX7_writeList : z_M := (yX7_writeList, cX7_writeList, 4, none, { frames := 3, cells := 0, slots := 0, locals := 65 })
abbrev mX7_writeSetup : z_M := (yX7_writeSetup, cX7_writeSetup, 3, none, { frames := 6, cells := 0, slots := 0, locals := 129 })
abbrev mX7_putGap : z_M := (yX7_putGap, cX7_putGap, 3, none, { frames := 5, cells := 0, slots := 0, locals := 107 })
abbrev mX7_putName : z_M := (yX7_putName, cX7_putName, 4, none, { frames := 1, cells := 0, slots := 0, locals := 22 })
abbrev mX7_putWord : z_M := (yX7_putWord, cX7_putWord, 3, none, { frames := 4, cells := 0, slots := 0, locals := 85 })
abbrev mX7_putNumber : z_M := (yX7_putNumber, cX7_putNumber, 2, none, { frames := 1, cells := 0, slots := 0, locals := 21 })
abbrev mX7_put : z_M := (yX7_put, cX7_put, 2, none, { frames := 0, cells := 0, slots := 0, locals := 0 })
abbrev mX8_init : z_M := (yX8_init, cX8_init, 1, none, { frames := 6, cells := 6892, slots := 6892, locals := 127 })
abbrev mX8_append : z_M := (yX8_append, cX8_append, 6, (some .int), { frames := 1, cells := 0, slots := 0, locals := 22 })
abbrev mX8_truncate : z_M := (yX8_truncate, cX8_truncate, 2, (some .int), { frames := 0, cells := 0, slots := 0, locals := 0 })
abbrev mX8_load : z_M := (yX8_load, cX8_load, 2, (some .int), { frames := 9, cells := 0, slots := 0, locals := 198 })
abbrev mX8_errorPosition : z_M := (yX8_errorPosition, cX8_errorPosition, 1, (some .int), { frames := 0, cells := 0, slots := 0, locals := 0 })
abbrev mX8_open : z_M := (yX8_open, cX8_open, 2, (some .int), { frames := 8, cells := 0, slots := 0, locals := 173 })
abbrev mX8_tell : z_M := (yX8_tell, cX8_tell, 6, (some .int), { frames := 4, cells := 0, slots := 0, locals := 104 })
abbrev mX8_drop : z_M := (yX8_drop, cX8_drop, 3, (some .int), { frames := 4, cells := 0, slots := 0, locals := 104 })
abbrev mX8_set : z_M := (yX8_set, cX8_set, 4, (some .int), { frames := 4, cells := 0, slots := 0, locals := 104 })
abbrev mX8_turn : z_M := (yX8_turn, cX8_turn, 3, (some .int), { frames := 4, cells := 0, slots := 0, locals := 104 })
abbrev mX8_pin : z_M := (yX8_pin, cX8_pin, 3, (some .int), { frames := 4, cells := 0, slots := 0, locals := 104 })
abbrev mX8_unpin : z_M := (yX8_unpin, cX8_unpin, 3, (some .int), { frames := 4, cells := 0, slots := 0, locals := 104 })
abbrev mX8_end : z_M := (yX8_end, cX8_end, 3, (some .int), { frames := 4, cells := 0, slots := 0, locals := 104 })
abbrev mX8_rename : z_M := (yX8_rename, cX8_rename, 3, (some .int), { frames := 8, cells := 0, slots := 0, locals := 173 })
abbrev mX8_reverse : z_M := (yX8_reverse, cX8_reverse, 5, (some .int), { frames := 5, cells := 0, slots := 0, locals := 107 })
abbrev mX8_tighten : z_M := (yX8_tighten, cX8_tighten, 3, (some .int), { frames := 5, cells := 0, slots := 0, locals := 107 })
abbrev mX8_thin : z_M := (yX8_thin, cX8_thin, 4, (some .int), { frames := 6, cells := 0, slots := 0, locals := 129 })
abbrev mX8_pinAll : z_M := (yX8_pinAll, cX8_pinAll, 3, (some .int), { frames := 4, cells := 0, slots := 0, locals := 104 })
abbrev mX8_keep : z_M := (yX8_keep, cX8_keep, 2, (some .int), { frames := 3, cells := 0, slots := 0, locals := 83 })
abbrev mX8_restore : z_M := (yX8_restore, cX8_restore, 2, (some .int), { frames := 4, cells := 0, slots := 0, locals := 104 })
abbrev mX8_undo : z_M := (yX8_undo, cX8_undo, 1, (some .int), { frames := 4, cells := 0, slots := 0, locals := 104 })
abbrev mX8_value : z_M := (yX8_value, cX8_value, 2, (some .int), { frames := 6, cells := 0, slots := 0, locals := 129 })
abbrev mX8_letter : z_M := (yX8_letter, cX8_letter, 3, (some .int), { frames := 1, cells := 0, slots := 0, locals := 22 })
abbrev mX8_gap : z_M := (yX8_gap, cX8_gap, 3, (some .int), { frames := 5, cells := 0, slots := 0, locals := 107 })
abbrev mX8_event : z_M := (yX8_event, cX8_event, 3, (some .int), { frames := 4, cells := 0, slots := 0, locals := 86 })
abbrev mX8_bound : z_M := (yX8_bound, cX8_bound, 3, (some .int), { frames := 2, cells := 0, slots := 0, locals := 44 })
abbrev mX8_way : z_M := (yX8_way, cX8_way, 4, (some .int), { frames := 3, cells := 0, slots := 0, locals := 71 })
abbrev mX8_wayLength : z_M := (yX8_wayLength, cX8_wayLength, 3, (some .int), { frames := 2, cells := 0, slots := 0, locals := 44 })
abbrev mX8_relation : z_M := (yX8_relation, cX8_relation, 3, (some .int), { frames := 3, cells := 0, slots := 0, locals := 68 })
abbrev mX8_play : z_M := (yX8_play, cX8_play, 3, (some .int), { frames := 2, cells := 0, slots := 0, locals := 44 })
abbrev mX8_pairs : z_M := (yX8_pairs, cX8_pairs, 5, (some .int), { frames := 3, cells := 0, slots := 0, locals := 68 })
abbrev mX8_ordered : z_M := (yX8_ordered, cX8_ordered, 3, (some .int), { frames := 4, cells := 0, slots := 0, locals := 89 })
abbrev mX8_middle : z_M := (yX8_middle, cX8_middle, 3, (some .int), { frames := 3, cells := 0, slots := 0, locals := 71 })
abbrev mX8_lastly : z_M := (yX8_lastly, cX8_lastly, 3, (some .int), { frames := 4, cells := 0, slots := 0, locals := 89 })
abbrev mX8_can : z_M := (yX8_can, cX8_can, 3, (some .int), { frames := 4, cells := 0, slots := 0, locals := 87 })
abbrev mX8_freest : z_M := (yX8_freest, cX8_freest, 3, (some .int), { frames := 4, cells := 0, slots := 0, locals := 86 })
abbrev mX8_why : z_M := (yX8_why, cX8_why, 7, (some .int), { frames := 4, cells := 0, slots := 0, locals := 95 })
abbrev mX8_ring : z_M := (yX8_ring, cX8_ring, 6, (some .int), { frames := 4, cells := 0, slots := 0, locals := 95 })
abbrev mX8_culprit : z_M := (yX8_culprit, cX8_culprit, 6, (some .int), { frames := 5, cells := 0, slots := 0, locals := 107 })
abbrev mX8_tightest : z_M := (yX8_tightest, cX8_tightest, 4, (some .int), { frames := 3, cells := 0, slots := 0, locals := 68 })
abbrev mX8_spare : z_M := (yX8_spare, cX8_spare, 3, (some .int), { frames := 3, cells := 0, slots := 0, locals := 68 })
abbrev mX8_needless : z_M := (yX8_needless, cX8_needless, 1, (some .int), { frames := 6, cells := 0, slots := 0, locals := 129 })
abbrev mX8_needs : z_M := (yX8_needs, cX8_needs, 4, (some .int), { frames := 5, cells := 0, slots := 0, locals := 107 })
abbrev mX8_ifTold : z_M := (yX8_ifTold, cX8_ifTold, 6, (some .int), { frames := 5, cells := 0, slots := 0, locals := 109 })
abbrev mX8_ifDropped : z_M := (yX8_ifDropped, cX8_ifDropped, 3, (some .int), { frames := 5, cells := 0, slots := 0, locals := 109 })
abbrev mX8_ifTurned : z_M := (yX8_ifTurned, cX8_ifTurned, 3, (some .int), { frames := 6, cells := 0, slots := 0, locals := 134 })
abbrev mX8_ifPinned : z_M := (yX8_ifPinned, cX8_ifPinned, 4, (some .int), { frames := 5, cells := 0, slots := 0, locals := 109 })
abbrev mX8_leastEnd : z_M := (yX8_leastEnd, cX8_leastEnd, 1, (some .int), { frames := 4, cells := 0, slots := 0, locals := 87 })
abbrev mX8_log : z_M := (yX8_log, cX8_log, 3, (some .int), { frames := 1, cells := 0, slots := 0, locals := 22 })
abbrev mX8_tightShare : z_M := (yX8_tightShare, cX8_tightShare, 2, (some .float), { frames := 5, cells := 0, slots := 0, locals := 108 })
abbrev mX8_meanRoom : z_M := (yX8_meanRoom, cX8_meanRoom, 1, (some .double), { frames := 4, cells := 0, slots := 0, locals := 87 })
abbrev mX8_listLength : z_M := (yX8_listLength, cX8_listLength, 1, (some .int), { frames := 4, cells := 0, slots := 0, locals := 88 })
abbrev mX8_listByte : z_M := (yX8_listByte, cX8_listByte, 2, (some .int), { frames := 4, cells := 0, slots := 0, locals := 88 })
abbrev mX8_setupLength : z_M := (yX8_setupLength, cX8_setupLength, 1, (some .int), { frames := 7, cells := 0, slots := 0, locals := 151 })
abbrev mX8_setupByte : z_M := (yX8_setupByte, cX8_setupByte, 2, (some .int), { frames := 7, cells := 0, slots := 0, locals := 151 })
abbrev mX8_isEvent : z_M := (yX8_isEvent, cX8_isEvent, 2, (some .boolean), { frames := 0, cells := 0, slots := 0, locals := 0 })
abbrev mX8_areTwoEvents : z_M := (yX8_areTwoEvents, cX8_areTwoEvents, 3, (some .boolean), { frames := 1, cells := 0, slots := 0, locals := 21 })
abbrev mX8_isGap : z_M := (yX8_isGap, cX8_isGap, 2, (some .boolean), { frames := 0, cells := 0, slots := 0, locals := 0 })
abbrev mX8_isTellable : z_M := (yX8_isTellable, cX8_isTellable, 5, (some .boolean), { frames := 2, cells := 0, slots := 0, locals := 43 })
abbrev mX8_isTime : z_M := (yX8_isTime, cX8_isTime, 2, (some .boolean), { frames := 0, cells := 0, slots := 0, locals := 0 })
abbrev mX8_isPinnable : z_M := (yX8_isPinnable, cX8_isPinnable, 2, (some .boolean), { frames := 1, cells := 0, slots := 0, locals := 21 })
abbrev mX8_isNewNameOnTape : z_M := (yX8_isNewNameOnTape, cX8_isNewNameOnTape, 1, (some .boolean), { frames := 7, cells := 0, slots := 0, locals := 153 })
abbrev mX8_isKind : z_M := (yX8_isKind, cX8_isKind, 1, (some .boolean), { frames := 0, cells := 0, slots := 0, locals := 0 })
abbrev mX8_isNumber : z_M := (yX8_isNumber, cX8_isNumber, 1, (some .boolean), { frames := 0, cells := 0, slots := 0, locals := 0 })
abbrev mX8_isSlot : z_M := (yX8_isSlot, cX8_isSlot, 1, (some .boolean), { frames := 0, cells := 0, slots := 0, locals := 0 })
abbrev mX8_isChange : z_M := (yX8_isChange, cX8_isChange, 1, (some .boolean), { frames := 0, cells := 0, slots := 0, locals := 0 })
abbrev mX8_asNumber : z_M := (yX8_asNumber, cX8_asNumber, 1, (some .int), { frames := 0, cells := 0, slots := 0, locals := 0 })
abbrev mX8_finish : z_M := (yX8_finish, cX8_finish, 4, none, { frames := 3, cells := 0, slots := 0, locals := 72 })
abbrev mX8_beginOf : z_M := (yX8_beginOf, cX8_beginOf, 2, (some .int), { frames := 1, cells := 0, slots := 0, locals := 22 })
abbrev mX8_finishOf : z_M := (yX8_finishOf, cX8_finishOf, 2, (some .int), { frames := 1, cells := 0, slots := 0, locals := 22 })
abbrev mX8_lengthOf : z_M := (yX8_lengthOf, cX8_lengthOf, 2, (some .int), { frames := 1, cells := 0, slots := 0, locals := 21 })
abbrev mX8_boundOf : z_M := (yX8_boundOf, cX8_boundOf, 2, (some .int), { frames := 2, cells := 0, slots := 0, locals := 44 })
abbrev mX8_ringOfGap : z_M := (yX8_ringOfGap, cX8_ringOfGap, 3, (some .int), { frames := 3, cells := 0, slots := 0, locals := 69 })
abbrev mX8_isTight : z_M := (yX8_isTight, cX8_isTight, 2, (some .boolean), { frames := 3, cells := 0, slots := 0, locals := 65 })
abbrev mX8_isNeeded : z_M := (yX8_isNeeded, cX8_isNeeded, 2, (some .boolean), { frames := 4, cells := 0, slots := 0, locals := 86 })
abbrev mX8_isLoose : z_M := (yX8_isLoose, cX8_isLoose, 2, (some .boolean), { frames := 4, cells := 0, slots := 0, locals := 86 })
abbrev mX8_tightNumber : z_M := (yX8_tightNumber, cX8_tightNumber, 2, (some .int), { frames := 3, cells := 0, slots := 0, locals := 65 })
abbrev mX8_tightestNumber : z_M := (yX8_tightestNumber, cX8_tightestNumber, 5, (some .int), { frames := 2, cells := 0, slots := 0, locals := 44 })
abbrev mX8_countTight : z_M := (yX8_countTight, cX8_countTight, 3, (some .int), { frames := 4, cells := 0, slots := 0, locals := 86 })
abbrev mX8_countNeeded : z_M := (yX8_countNeeded, cX8_countNeeded, 3, (some .int), { frames := 5, cells := 0, slots := 0, locals := 107 })
abbrev mX8_firstNeedless : z_M := (yX8_firstNeedless, cX8_firstNeedless, 3, (some .int), { frames := 5, cells := 0, slots := 0, locals := 107 })
abbrev mX8_relationOf : z_M := (yX8_relationOf, cX8_relationOf, 5, (some .int), { frames := 2, cells := 0, slots := 0, locals := 44 })
abbrev mX8_stepOfRing : z_M := (yX8_stepOfRing, cX8_stepOfRing, 5, (some .int), { frames := 3, cells := 0, slots := 0, locals := 71 })
abbrev mX8_tryWithout : z_M := (yX8_tryWithout, cX8_tryWithout, 2, none, { frames := 4, cells := 0, slots := 0, locals := 86 })
abbrev mX8_changeOnTrial : z_M := (yX8_changeOnTrial, cX8_changeOnTrial, 2, (some .int), { frames := 4, cells := 0, slots := 0, locals := 88 })
abbrev mX8_stepBegin : z_M := (yX8_stepBegin, cX8_stepBegin, 3, (some .int), { frames := 0, cells := 0, slots := 0, locals := 0 })
abbrev mX8_stepFinish : z_M := (yX8_stepFinish, cX8_stepFinish, 3, (some .int), { frames := 0, cells := 0, slots := 0, locals := 0 })
abbrev mX8_stepLength : z_M := (yX8_stepLength, cX8_stepLength, 2, (some .int), { frames := 0, cells := 0, slots := 0, locals := 0 })
abbrev mJ5_init_d00df (k : Nat) : z_M := (yJ5_init_d00df, cJ5_init_d00df, 2, none, { frames := 1, cells := k, slots := k, locals := 20 })
abbrev mJ5_init_a7421 (k : Nat) : z_M := (yJ5_init_a7421, cJ5_init_a7421, 5, none, { frames := 6, cells := k, slots := k, locals := 136 })
abbrev mJ5_length_8abf5 : z_M := (yJ5_length_8abf5, cJ5_length_8abf5, 1, (some .int), { frames := 0, cells := 0, slots := 0, locals := 0 })
abbrev mJ5_ensureCapacityInternal_d00df (k : Nat) : z_M := (yJ5_ensureCapacityInternal_d00df, cJ5_ensureCapacityInternal_d00df, 3, none, { frames := 3, cells := k, slots := k, locals := 70 })
abbrev mJ5_newCapacity_0f7a4 : z_M := (yJ5_newCapacity_0f7a4, cJ5_newCapacity_0f7a4, 6, (some .int), { frames := 2, cells := 0, slots := 0, locals := 45 })
abbrev mJ5_inflate_da8c8 : z_M := (yJ5_inflate_da8c8, cJ5_inflate_da8c8, 2, none, { frames := 1, cells := 0, slots := 0, locals := 24 })
abbrev mJ5_append_cf1ce (k : Nat) : z_M := (yJ5_append_cf1ce, cJ5_append_cf1ce, 3, (some (.object "java/lang/AbstractStringBuilder")), { frames := 5, cells := k, slots := k, locals := 114 })
abbrev mJ5_appendNull_278bc : z_M := (yJ5_appendNull_278bc, cJ5_appendNull_278bc, 3, (some (.object "java/lang/AbstractStringBuilder")), { frames := 4, cells := 0, slots := 0, locals := 92 })
abbrev mJ5_append_3fe6f (k : Nat) : z_M := (yJ5_append_3fe6f, cJ5_append_3fe6f, 2, (some (.object "java/lang/AbstractStringBuilder")), { frames := 4, cells := k, slots := k, locals := 92 })
abbrev mJ5_append_c97b9 (k : Nat) : z_M := (yJ5_append_c97b9, cJ5_append_c97b9, 4, (some (.object "java/lang/AbstractStringBuilder")), { frames := 4, cells := k, slots := k, locals := 92 })
abbrev mJ5_getValue_6d5f1 : z_M := (yJ5_getValue_6d5f1, cJ5_getValue_6d5f1, 1, (some (.array .byte)), { frames := 0, cells := 0, slots := 0, locals := 0 })
abbrev mJ5_isLatin1_aae02 : z_M := (yJ5_isLatin1_aae02, cJ5_isLatin1_aae02, 1, (some .boolean), { frames := 0, cells := 0, slots := 0, locals := 0 })
abbrev mJ5_inflateIfNeededFor_a7421 : z_M := (yJ5_inflateIfNeededFor_a7421, cJ5_inflateIfNeededFor_a7421, 2, none, { frames := 2, cells := 0, slots := 0, locals := 45 })
abbrev mJ5_putStringAt_47b60 : z_M := (yJ5_putStringAt_47b60, cJ5_putStringAt_47b60, 3, none, { frames := 3, cells := 0, slots := 0, locals := 66 })
abbrev mJ6_getChars_ba4f3 : z_M := (yJ6_getChars_ba4f3, cJ6_getChars_ba4f3, 7, (some .int), { frames := 0, cells := 0, slots := 0, locals := 0 })
abbrev mJ6_stringSize_0f7a4 : z_M := (yJ6_stringSize_0f7a4, cJ6_stringSize_0f7a4, 4, (some .int), { frames := 0, cells := 0, slots := 0, locals := 0 })
abbrev mJ9_floorDiv_7cf53 : z_M := (yJ9_floorDiv_7cf53, cJ9_floorDiv_7cf53, 3, (some .int), { frames := 0, cells := 0, slots := 0, locals := 0 })
abbrev mJ9_floorMod_7cf53 : z_M := (yJ9_floorMod_7cf53, cJ9_floorMod_7cf53, 3, (some .int), { frames := 0, cells := 0, slots := 0, locals := 0 })
abbrev mJ9_abs_0f7a4 : z_M := (yJ9_abs_0f7a4, cJ9_abs_0f7a4, 1, (some .int), { frames := 0, cells := 0, slots := 0, locals := 0 })
abbrev mJ9_max_7cf53 : z_M := (yJ9_max_7cf53, cJ9_max_7cf53, 2, (some .int), { frames := 0, cells := 0, slots := 0, locals := 0 })
abbrev mJ9_min_7cf53 : z_M := (yJ9_min_7cf53, cJ9_min_7cf53, 2, (some .int), { frames := 0, cells := 0, slots := 0, locals := 0 })
abbrev mJ0_init_81219 (k : Nat) : z_M := (yJ0_init_81219, cJ0_init_81219, 2, none, { frames := 4, cells := k, slots := k, locals := 110 })
abbrev mJ0_length_8abf5 : z_M := (yJ0_length_8abf5, cJ0_length_8abf5, 1, (some .int), { frames := 1, cells := 0, slots := 0, locals := 20 })
abbrev mJ0_charAt_5068e : z_M := (yJ0_charAt_5068e, cJ0_charAt_5068e, 2, (some .char), { frames := 3, cells := 0, slots := 0, locals := 64 })
abbrev mJ0_getBytes_840e7 : z_M := (yJ0_getBytes_840e7, cJ0_getBytes_840e7, 4, none, { frames := 1, cells := 0, slots := 0, locals := 40 })
abbrev mJ0_init_db425 (k : Nat) : z_M := (yJ0_init_db425, cJ0_init_db425, 5, none, { frames := 3, cells := k, slots := k, locals := 86 })
abbrev mJ0_coder_7d493 : z_M := (yJ0_coder_7d493, cJ0_coder_7d493, 1, (some .byte), { frames := 0, cells := 0, slots := 0, locals := 0 })
abbrev mJ0_isLatin1_aae02 : z_M := (yJ0_isLatin1_aae02, cJ0_isLatin1_aae02, 1, (some .boolean), { frames := 0, cells := 0, slots := 0, locals := 0 })
abbrev mJ0_checkIndex_df160 : z_M := (yJ0_checkIndex_df160, cJ0_checkIndex_df160, 2, none, { frames := 1, cells := 0, slots := 0, locals := 22 })
abbrev mJ0_checkBoundsOffCount_cabcc : z_M := (yJ0_checkBoundsOffCount_cabcc, cJ0_checkBoundsOffCount_cabcc, 3, (some .int), { frames := 0, cells := 0, slots := 0, locals := 0 })
abbrev mJ0_checkBoundsBeginEnd_23922 : z_M := (yJ0_checkBoundsBeginEnd_23922, cJ0_checkBoundsBeginEnd_23922, 3, none, { frames := 0, cells := 0, slots := 0, locals := 0 })
abbrev mJ4_init_da8c8 (k : Nat) : z_M := (yJ4_init_da8c8, cJ4_init_da8c8, 1, none, { frames := 2, cells := k, slots := k, locals := 41 })
abbrev mJ4_init_a7421 (k : Nat) : z_M := (yJ4_init_a7421, cJ4_init_a7421, 2, none, { frames := 7, cells := k, slots := k, locals := 160 })
abbrev mJ4_append_15ec4 (k : Nat) : z_M := (yJ4_append_15ec4, cJ4_append_15ec4, 2, (some (.object "java/lang/StringBuilder")), { frames := 6, cells := k, slots := k, locals := 136 })
abbrev mJ4_append_cf468 (k : Nat) : z_M := (yJ4_append_cf468, cJ4_append_cf468, 2, (some (.object "java/lang/StringBuilder")), { frames := 5, cells := k, slots := k, locals := 113 })
abbrev mJ4_append_bf812 (k : Nat) : z_M := (yJ4_append_bf812, cJ4_append_bf812, 2, (some (.object "java/lang/StringBuilder")), { frames := 5, cells := k, slots := k, locals := 115 })
abbrev mJ4_toString_0e30d (k : Nat) : z_M := (yJ4_toString_0e30d, cJ4_toString_0e30d, 1, (some (.object "java/lang/String")), { frames := 5, cells := k, slots := k, locals := 131 })
abbrev mJ4_append_cf1ce (k : Nat) : z_M := (yJ4_append_cf1ce, cJ4_append_cf1ce, 2, (some (.object "java/lang/AbstractStringBuilder")), { frames := 7, cells := k, slots := k, locals := 157 })
abbrev mJ4_length_8abf5 : z_M := (yJ4_length_8abf5, cJ4_length_8abf5, 1, (some .int), { frames := 1, cells := 0, slots := 0, locals := 20 })
abbrev mJ1_charAt_3b067 : z_M := (yJ1_charAt_3b067, cJ1_charAt_3b067, 2, (some .char), { frames := 2, cells := 0, slots := 0, locals := 43 })
abbrev mJ1_canEncode_fc78d : z_M := (yJ1_canEncode_fc78d, cJ1_canEncode_fc78d, 1, (some .boolean), { frames := 0, cells := 0, slots := 0, locals := 0 })
abbrev mJ1_inflate_0e8fd : z_M := (yJ1_inflate_0e8fd, cJ1_inflate_0e8fd, 5, none, { frames := 0, cells := 0, slots := 0, locals := 0 })
abbrev mJ7_copyOf_9075b (k : Nat) : z_M := (yJ7_copyOf_9075b, cJ7_copyOf_9075b, 3, (some (.array .byte)), { frames := 1, cells := k, slots := k, locals := 40 })
abbrev mJ7_checkLength_df160 : z_M := (yJ7_checkLength_df160, cJ7_checkLength_df160, 2, none, { frames := 0, cells := 0, slots := 0, locals := 0 })
abbrev mJ7_copyOfRange_39247 (k : Nat) : z_M := (yJ7_copyOfRange_39247, cJ7_copyOfRange_39247, 3, (some (.array .byte)), { frames := 2, cells := k, slots := k, locals := 64 })
abbrev mJ7_copyOfRangeByte_39247 (k : Nat) : z_M := (yJ7_copyOfRangeByte_39247, cJ7_copyOfRangeByte_39247, 5, (some (.array .byte)), { frames := 1, cells := k, slots := k, locals := 40 })
abbrev mJ8_newLength_cabcc : z_M := (yJ8_newLength_cabcc, cJ8_newLength_cabcc, 4, (some .int), { frames := 1, cells := 0, slots := 0, locals := 22 })
abbrev mJ8_hugeLength_7cf53 : z_M := (yJ8_hugeLength_7cf53, cJ8_hugeLength_7cf53, 3, (some .int), { frames := 0, cells := 0, slots := 0, locals := 0 })
abbrev mJ3_checkIndex_8e157 : z_M := (yJ3_checkIndex_8e157, cJ3_checkIndex_8e157, 3, (some .int), { frames := 0, cells := 0, slots := 0, locals := 0 })
abbrev mL_draw : z_M := (yL_draw, cL_draw, 1, (some .int), { frames := 0, cells := 0, slots := 0, locals := 0 })
abbrev mL_write : z_M := (yL_write, cL_write, 7, none, { frames := 4, cells := 256, slots := 256, locals := 85 })
abbrev mL_loads : z_M := (yL_loads, cL_loads, 2, (some .boolean), { frames := 10, cells := 256, slots := 256, locals := 219 })
abbrev mL_text : z_M := (yL_text, cL_text, 5, (some (.object "java/lang/String")), { frames := 8, cells := 8192, slots := 8192, locals := 172 })
abbrev mL_setup : z_M := (yL_setup, cL_setup, 10, (some (.object "java/lang/String")), { frames := 8, cells := 4096, slots := 4096, locals := 181 })
abbrev mL_acts : z_M := (yL_acts, cL_acts, 7, (some .int), { frames := 9, cells := 256, slots := 256, locals := 195 })
abbrev mL_tells : z_M := (yL_tells, cL_tells, 5, (some .int), { frames := 7, cells := 0, slots := 0, locals := 150 })
abbrev mL_isAs : z_M := (yL_isAs, cL_isAs, 6, (some .boolean), { frames := 8, cells := 0, slots := 0, locals := 174 })
abbrev mL_bear : z_M := (yL_bear, cL_bear, 6, (some .boolean), { frames := 7, cells := 0, slots := 0, locals := 150 })
abbrev mL_time : z_M := (yL_time, cL_time, 3, (some .int), { frames := 5, cells := 0, slots := 0, locals := 108 })
abbrev mL_lengthOf : z_M := (yL_lengthOf, cL_lengthOf, 2, (some .int), { frames := 7, cells := 0, slots := 0, locals := 150 })
abbrev mL_bounds : z_M := (yL_bounds, cL_bounds, 11, (some .boolean), { frames := 8, cells := 0, slots := 0, locals := 175 })
abbrev mL_gaps : z_M := (yL_gaps, cL_gaps, 21, (some .boolean), { frames := 9, cells := 0, slots := 0, locals := 199 })
abbrev mL_foretold : z_M := (yL_foretold, cL_foretold, 20, (some .boolean), { frames := 10, cells := 0, slots := 0, locals := 239 })
abbrev mL_undone : z_M := (yL_undone, cL_undone, 10, (some .boolean), { frames := 11, cells := 40000, slots := 40000, locals := 240 })
set_option maxRecDepth 100000 in
theorem zmX0_init : z_me mX0_init 0 := ⟨z_w1 261 (Eq.refl _) (by decide +kernel), z_w1 108 (Eq.refl _) (by decide +kernel), by decide +kernel, by decide +kernel, by decide +kernel⟩
set_option maxRecDepth 100000 in
theorem znX0_init : Cond.instanceMethod yX0_init ∈ z_tb := z_w1 260 (Eq.refl _) (by decide +kernel)
set_option maxRecDepth 100000 in
theorem zmX0_clear : z_me mX0_clear 0 := ⟨z_w1 698 (Eq.refl _) (by decide +kernel), z_w1 108 (Eq.refl _) (by decide +kernel), by decide +kernel, by decide +kernel, by decide +kernel⟩
set_option maxRecDepth 100000 in
theorem znX0_clear : Cond.instanceMethod yX0_clear ∈ z_tb := z_w1 697 (Eq.refl _) (by decide +kernel)
set_option maxRecDepth 100000 in
theorem zsX0_clear : Cond.selects RX0 yX0_clear yX0_clear ∈ z_tb := z_w1 47 (Eq.refl _) (by decide +kernel)
set_option maxRecDepth 100000 in
theorem zmX0_remember : z_me mX0_remember 1 := ⟨z_w1 1056 (Eq.refl _) (by decide +kernel), z_w1 108 (Eq.refl _) (by decide +kernel), by decide +kernel, by decide +kernel, by decide +kernel⟩
set_option maxRecDepth 100000 in
theorem znX0_remember : Cond.instanceMethod yX0_remember ∈ z_tb := z_w1 1055 (Eq.refl _) (by decide +kernel)
set_option maxRecDepth 100000 in
theorem zsX0_remember : Cond.selects RX0 yX0_remember yX0_remember ∈ z_tb := z_w1 65 (Eq.refl _) (by decide +kernel)
set_option maxRecDepth 100000 in
theorem zmX0_bringBack : z_me mX0_bringBack 1 := ⟨z_w1 1338 (Eq.refl _) (by decide +kernel), z_w1 108 (Eq.refl _) (by decide +kernel), by decide +kernel, by decide +kernel, by decide +kernel⟩
set_option maxRecDepth 100000 in
theorem znX0_bringBack : Cond.instanceMethod yX0_bringBack ∈ z_tb := z_w1 1337 (Eq.refl _) (by decide +kernel)
set_option maxRecDepth 100000 in
theorem zsX0_bringBack : Cond.selects RX0 yX0_bringBack yX0_bringBack ∈ z_tb := z_w1 92 (Eq.refl _) (by decide +kernel)
set_option maxRecDepth 100000 in
theorem zmX1_init : z_me mX1_init 0 := ⟨z_w1 142 (Eq.refl _) (by decide +kernel), z_w1 106 (Eq.refl _) (by decide +kernel), by decide +kernel, by decide +kernel, by decide +kernel⟩
set_option maxRecDepth 100000 in
theorem znX1_init : Cond.instanceMethod yX1_init ∈ z_tb := z_w1 141 (Eq.refl _) (by decide +kernel)
set_option maxRecDepth 100000 in
theorem zmX1_clear : z_me mX1_clear 0 := ⟨z_w1 360 (Eq.refl _) (by decide +kernel), z_w1 106 (Eq.refl _) (by decide +kernel), by decide +kernel, by decide +kernel, by decide +kernel⟩
set_option maxRecDepth 100000 in
theorem znX1_clear : Cond.instanceMethod yX1_clear ∈ z_tb := z_w1 359 (Eq.refl _) (by decide +kernel)
set_option maxRecDepth 100000 in
theorem zsX1_clear : Cond.selects RX1 yX1_clear yX1_clear ∈ z_tb := z_w1 1 (Eq.refl _) (by decide +kernel)
set_option maxRecDepth 100000 in
theorem zmX1_copyFrom : z_me mX1_copyFrom 1 := ⟨z_w1 689 (Eq.refl _) (by decide +kernel), z_w1 106 (Eq.refl _) (by decide +kernel), by decide +kernel, by decide +kernel, by decide +kernel⟩
set_option maxRecDepth 100000 in
theorem znX1_copyFrom : Cond.instanceMethod yX1_copyFrom ∈ z_tb := z_w1 688 (Eq.refl _) (by decide +kernel)
set_option maxRecDepth 100000 in
theorem zsX1_copyFrom : Cond.selects RX1 yX1_copyFrom yX1_copyFrom ∈ z_tb := z_w1 45 (Eq.refl _) (by decide +kernel)
set_option maxRecDepth 100000 in
theorem zmX1_note : z_me mX1_note 3 := ⟨z_w1 1062 (Eq.refl _) (by decide +kernel), z_w1 106 (Eq.refl _) (by decide +kernel), by decide +kernel, by decide +kernel, by decide +kernel⟩
set_option maxRecDepth 100000 in
theorem znX1_note : Cond.instanceMethod yX1_note ∈ z_tb := z_w1 1061 (Eq.refl _) (by decide +kernel)
set_option maxRecDepth 100000 in
theorem zsX1_note : Cond.selects RX1 yX1_note yX1_note ∈ z_tb := z_w1 66 (Eq.refl _) (by decide +kernel)
set_option maxRecDepth 100000 in
theorem zmX1_part : z_me mX1_part 2 := ⟨z_w1 1274 (Eq.refl _) (by decide +kernel), z_w1 106 (Eq.refl _) (by decide +kernel), by decide +kernel, by decide +kernel, by decide +kernel⟩
set_option maxRecDepth 100000 in
theorem znX1_part : Cond.instanceMethod yX1_part ∈ z_tb := z_w1 1273 (Eq.refl _) (by decide +kernel)
set_option maxRecDepth 100000 in
theorem zsX1_part : Cond.selects RX1 yX1_part yX1_part ∈ z_tb := z_w1 85 (Eq.refl _) (by decide +kernel)
set_option maxRecDepth 100000 in
theorem zmX2_init : z_me mX2_init 0 := ⟨z_w1 232 (Eq.refl _) (by decide +kernel), z_w1 107 (Eq.refl _) (by decide +kernel), by decide +kernel, by decide +kernel, by decide +kernel⟩
set_option maxRecDepth 100000 in
theorem znX2_init : Cond.instanceMethod yX2_init ∈ z_tb := z_w1 231 (Eq.refl _) (by decide +kernel)
set_option maxRecDepth 100000 in
theorem zmX2_build : z_me mX2_build 2 := ⟨z_w1 417 (Eq.refl _) (by decide +kernel), z_w1 107 (Eq.refl _) (by decide +kernel), by decide +kernel, by decide +kernel, by decide +kernel⟩
set_option maxRecDepth 100000 in
theorem znX2_build : Cond.instanceMethod yX2_build ∈ z_tb := z_w1 416 (Eq.refl _) (by decide +kernel)
set_option maxRecDepth 100000 in
theorem zsX2_build : Cond.selects RX2 yX2_build yX2_build ∈ z_tb := z_w1 3 (Eq.refl _) (by decide +kernel)
set_option maxRecDepth 100000 in
theorem zmX2_collectSteps : z_me mX2_collectSteps 2 := ⟨z_w1 421 (Eq.refl _) (by decide +kernel), z_w1 107 (Eq.refl _) (by decide +kernel), by decide +kernel, by decide +kernel, by decide +kernel⟩
set_option maxRecDepth 100000 in
theorem znX2_collectSteps : Cond.instanceMethod yX2_collectSteps ∈ z_tb := z_w1 420 (Eq.refl _) (by decide +kernel)
set_option maxRecDepth 100000 in
theorem zsX2_collectSteps : Cond.selects RX2 yX2_collectSteps yX2_collectSteps ∈ z_tb := z_w1 4 (Eq.refl _) (by decide +kernel)
set_option maxRecDepth 100000 in
theorem zmX2_collect : z_me mX2_collect 4 := ⟨z_w1 434 (Eq.refl _) (by decide +kernel), z_w1 107 (Eq.refl _) (by decide +kernel), by decide +kernel, by decide +kernel, by decide +kernel⟩
set_option maxRecDepth 100000 in
theorem znX2_collect : Cond.instanceMethod yX2_collect ∈ z_tb := z_w1 433 (Eq.refl _) (by decide +kernel)
set_option maxRecDepth 100000 in
theorem zsX2_collect : Cond.selects RX2 yX2_collect yX2_collect ∈ z_tb := z_w1 5 (Eq.refl _) (by decide +kernel)
set_option maxRecDepth 100000 in
theorem zmX2_startWeights : z_me mX2_startWeights 0 := ⟨z_w1 442 (Eq.refl _) (by decide +kernel), z_w1 107 (Eq.refl _) (by decide +kernel), by decide +kernel, by decide +kernel, by decide +kernel⟩
set_option maxRecDepth 100000 in
theorem znX2_startWeights : Cond.instanceMethod yX2_startWeights ∈ z_tb := z_w1 441 (Eq.refl _) (by decide +kernel)
set_option maxRecDepth 100000 in
theorem zsX2_startWeights : Cond.selects RX2 yX2_startWeights yX2_startWeights ∈ z_tb := z_w1 7 (Eq.refl _) (by decide +kernel)
set_option maxRecDepth 100000 in
theorem zmX2_closeWeights : z_me mX2_closeWeights 0 := ⟨z_w1 453 (Eq.refl _) (by decide +kernel), z_w1 107 (Eq.refl _) (by decide +kernel), by decide +kernel, by decide +kernel, by decide +kernel⟩
set_option maxRecDepth 100000 in
theorem znX2_closeWeights : Cond.instanceMethod yX2_closeWeights ∈ z_tb := z_w1 452 (Eq.refl _) (by decide +kernel)
set_option maxRecDepth 100000 in
theorem zsX2_closeWeights : Cond.selects RX2 yX2_closeWeights yX2_closeWeights ∈ z_tb := z_w1 8 (Eq.refl _) (by decide +kernel)
set_option maxRecDepth 100000 in
theorem zmX2_copyBounds : z_me mX2_copyBounds 1 := ⟨z_w1 1125 (Eq.refl _) (by decide +kernel), z_w1 107 (Eq.refl _) (by decide +kernel), by decide +kernel, by decide +kernel, by decide +kernel⟩
set_option maxRecDepth 100000 in
theorem znX2_copyBounds : Cond.instanceMethod yX2_copyBounds ∈ z_tb := z_w1 1124 (Eq.refl _) (by decide +kernel)
set_option maxRecDepth 100000 in
theorem zsX2_copyBounds : Cond.selects RX2 yX2_copyBounds yX2_copyBounds ∈ z_tb := z_w1 74 (Eq.refl _) (by decide +kernel)
set_option maxRecDepth 100000 in
theorem zmX2_addStep : z_me mX2_addStep 3 := ⟨z_w1 652 (Eq.refl _) (by decide +kernel), z_w1 107 (Eq.refl _) (by decide +kernel), by decide +kernel, by decide +kernel, by decide +kernel⟩
set_option maxRecDepth 100000 in
theorem znX2_addStep : Cond.instanceMethod yX2_addStep ∈ z_tb := z_w1 651 (Eq.refl _) (by decide +kernel)
set_option maxRecDepth 100000 in
theorem zsX2_addStep : Cond.selects RX2 yX2_addStep yX2_addStep ∈ z_tb := z_w1 37 (Eq.refl _) (by decide +kernel)
set_option maxRecDepth 100000 in
theorem zmX2_addGapStep : z_me mX2_addGapStep 4 := ⟨z_w1 648 (Eq.refl _) (by decide +kernel), z_w1 107 (Eq.refl _) (by decide +kernel), by decide +kernel, by decide +kernel, by decide +kernel⟩
set_option maxRecDepth 100000 in
theorem znX2_addGapStep : Cond.instanceMethod yX2_addGapStep ∈ z_tb := z_w1 647 (Eq.refl _) (by decide +kernel)
set_option maxRecDepth 100000 in
theorem zsX2_addGapStep : Cond.selects RX2 yX2_addGapStep yX2_addGapStep ∈ z_tb := z_w1 36 (Eq.refl _) (by decide +kernel)
set_option maxRecDepth 100000 in
theorem zmX2_addPin : z_me mX2_addPin 2 := ⟨z_w1 674 (Eq.refl _) (by decide +kernel), z_w1 107 (Eq.refl _) (by decide +kernel), by decide +kernel, by decide +kernel, by decide +kernel⟩
set_option maxRecDepth 100000 in
theorem znX2_addPin : Cond.instanceMethod yX2_addPin ∈ z_tb := z_w1 673 (Eq.refl _) (by decide +kernel)
set_option maxRecDepth 100000 in
theorem zsX2_addPin : Cond.selects RX2 yX2_addPin yX2_addPin ∈ z_tb := z_w1 42 (Eq.refl _) (by decide +kernel)
set_option maxRecDepth 100000 in
theorem zmX2_weightOf : z_me mX2_weightOf 1 := ⟨z_w1 446 (Eq.refl _) (by decide +kernel), z_w1 107 (Eq.refl _) (by decide +kernel), by decide +kernel, by decide +kernel, by decide +kernel⟩
set_option maxRecDepth 100000 in
theorem ztX2_weightOf : Cond.static yX2_weightOf ∈ z_tb := z_w1 445 (Eq.refl _) (by decide +kernel)
set_option maxRecDepth 100000 in
theorem zmX2_between : z_me mX2_between 2 := ⟨z_w1 637 (Eq.refl _) (by decide +kernel), z_w1 107 (Eq.refl _) (by decide +kernel), by decide +kernel, by decide +kernel, by decide +kernel⟩
set_option maxRecDepth 100000 in
theorem znX2_between : Cond.instanceMethod yX2_between ∈ z_tb := z_w1 636 (Eq.refl _) (by decide +kernel)
set_option maxRecDepth 100000 in
theorem zsX2_between : Cond.selects RX2 yX2_between yX2_between ∈ z_tb := z_w1 34 (Eq.refl _) (by decide +kernel)
set_option maxRecDepth 100000 in
theorem zmX2_stepsBetween : z_me mX2_stepsBetween 2 := ⟨z_w1 1217 (Eq.refl _) (by decide +kernel), z_w1 107 (Eq.refl _) (by decide +kernel), by decide +kernel, by decide +kernel, by decide +kernel⟩
set_option maxRecDepth 100000 in
theorem znX2_stepsBetween : Cond.instanceMethod yX2_stepsBetween ∈ z_tb := z_w1 1216 (Eq.refl _) (by decide +kernel)
set_option maxRecDepth 100000 in
theorem zsX2_stepsBetween : Cond.selects RX2 yX2_stepsBetween yX2_stepsBetween ∈ z_tb := z_w1 81 (Eq.refl _) (by decide +kernel)
set_option maxRecDepth 100000 in
theorem zmX2_earliest : z_me mX2_earliest 1 := ⟨z_w1 666 (Eq.refl _) (by decide +kernel), z_w1 107 (Eq.refl _) (by decide +kernel), by decide +kernel, by decide +kernel, by decide +kernel⟩
set_option maxRecDepth 100000 in
theorem znX2_earliest : Cond.instanceMethod yX2_earliest ∈ z_tb := z_w1 665 (Eq.refl _) (by decide +kernel)
set_option maxRecDepth 100000 in
theorem zsX2_earliest : Cond.selects RX2 yX2_earliest yX2_earliest ∈ z_tb := z_w1 40 (Eq.refl _) (by decide +kernel)
set_option maxRecDepth 100000 in
theorem zmX2_latest : z_me mX2_latest 1 := ⟨z_w1 670 (Eq.refl _) (by decide +kernel), z_w1 107 (Eq.refl _) (by decide +kernel), by decide +kernel, by decide +kernel, by decide +kernel⟩
set_option maxRecDepth 100000 in
theorem znX2_latest : Cond.instanceMethod yX2_latest ∈ z_tb := z_w1 669 (Eq.refl _) (by decide +kernel)
set_option maxRecDepth 100000 in
theorem zsX2_latest : Cond.selects RX2 yX2_latest yX2_latest ∈ z_tb := z_w1 41 (Eq.refl _) (by decide +kernel)
set_option maxRecDepth 100000 in
theorem zmX2_possibleTimes : z_me mX2_possibleTimes 1 := ⟨z_w1 1020 (Eq.refl _) (by decide +kernel), z_w1 107 (Eq.refl _) (by decide +kernel), by decide +kernel, by decide +kernel, by decide +kernel⟩
set_option maxRecDepth 100000 in
theorem znX2_possibleTimes : Cond.instanceMethod yX2_possibleTimes ∈ z_tb := z_w1 1019 (Eq.refl _) (by decide +kernel)
set_option maxRecDepth 100000 in
theorem zsX2_possibleTimes : Cond.selects RX2 yX2_possibleTimes yX2_possibleTimes ∈ z_tb := z_w1 59 (Eq.refl _) (by decide +kernel)
set_option maxRecDepth 100000 in
theorem zmX2_allows : z_me mX2_allows 2 := ⟨z_w1 662 (Eq.refl _) (by decide +kernel), z_w1 107 (Eq.refl _) (by decide +kernel), by decide +kernel, by decide +kernel, by decide +kernel⟩
set_option maxRecDepth 100000 in
theorem znX2_allows : Cond.instanceMethod yX2_allows ∈ z_tb := z_w1 661 (Eq.refl _) (by decide +kernel)
set_option maxRecDepth 100000 in
theorem zsX2_allows : Cond.selects RX2 yX2_allows yX2_allows ∈ z_tb := z_w1 39 (Eq.refl _) (by decide +kernel)
set_option maxRecDepth 100000 in
theorem zmX2_leastRing : z_me mX2_leastRing 4 := ⟨z_w1 633 (Eq.refl _) (by decide +kernel), z_w1 107 (Eq.refl _) (by decide +kernel), by decide +kernel, by decide +kernel, by decide +kernel⟩
set_option maxRecDepth 100000 in
theorem znX2_leastRing : Cond.instanceMethod yX2_leastRing ∈ z_tb := z_w1 632 (Eq.refl _) (by decide +kernel)
set_option maxRecDepth 100000 in
theorem zsX2_leastRing : Cond.selects RX2 yX2_leastRing yX2_leastRing ∈ z_tb := z_w1 33 (Eq.refl _) (by decide +kernel)
set_option maxRecDepth 100000 in
theorem zmX2_oneStepDenies : z_me mX2_oneStepDenies 4 := ⟨z_w1 1285 (Eq.refl _) (by decide +kernel), z_w1 107 (Eq.refl _) (by decide +kernel), by decide +kernel, by decide +kernel, by decide +kernel⟩
set_option maxRecDepth 100000 in
theorem znX2_oneStepDenies : Cond.instanceMethod yX2_oneStepDenies ∈ z_tb := z_w1 1284 (Eq.refl _) (by decide +kernel)
set_option maxRecDepth 100000 in
theorem zsX2_oneStepDenies : Cond.selects RX2 yX2_oneStepDenies yX2_oneStepDenies ∈ z_tb := z_w1 86 (Eq.refl _) (by decide +kernel)
set_option maxRecDepth 100000 in
theorem zmX2_stepOfWay : z_me mX2_stepOfWay 3 := ⟨z_w1 1228 (Eq.refl _) (by decide +kernel), z_w1 107 (Eq.refl _) (by decide +kernel), by decide +kernel, by decide +kernel, by decide +kernel⟩
set_option maxRecDepth 100000 in
theorem znX2_stepOfWay : Cond.instanceMethod yX2_stepOfWay ∈ z_tb := z_w1 1227 (Eq.refl _) (by decide +kernel)
set_option maxRecDepth 100000 in
theorem zsX2_stepOfWay : Cond.selects RX2 yX2_stepOfWay yX2_stepOfWay ∈ z_tb := z_w1 82 (Eq.refl _) (by decide +kernel)
set_option maxRecDepth 100000 in
theorem zmX2_firstStep : z_me mX2_firstStep 2 := ⟨z_w1 1232 (Eq.refl _) (by decide +kernel), z_w1 107 (Eq.refl _) (by decide +kernel), by decide +kernel, by decide +kernel, by decide +kernel⟩
set_option maxRecDepth 100000 in
theorem znX2_firstStep : Cond.instanceMethod yX2_firstStep ∈ z_tb := z_w1 1231 (Eq.refl _) (by decide +kernel)
set_option maxRecDepth 100000 in
theorem zsX2_firstStep : Cond.selects RX2 yX2_firstStep yX2_firstStep ∈ z_tb := z_w1 83 (Eq.refl _) (by decide +kernel)
set_option maxRecDepth 100000 in
theorem zmX2_countSettled : z_me mX2_countSettled 0 := ⟨z_w1 1016 (Eq.refl _) (by decide +kernel), z_w1 107 (Eq.refl _) (by decide +kernel), by decide +kernel, by decide +kernel, by decide +kernel⟩
set_option maxRecDepth 100000 in
theorem znX2_countSettled : Cond.instanceMethod yX2_countSettled ∈ z_tb := z_w1 1015 (Eq.refl _) (by decide +kernel)
set_option maxRecDepth 100000 in
theorem zsX2_countSettled : Cond.selects RX2 yX2_countSettled yX2_countSettled ∈ z_tb := z_w1 58 (Eq.refl _) (by decide +kernel)
set_option maxRecDepth 100000 in
theorem zmX2_greatestEarliest : z_me mX2_greatestEarliest 0 := ⟨z_w1 1025 (Eq.refl _) (by decide +kernel), z_w1 107 (Eq.refl _) (by decide +kernel), by decide +kernel, by decide +kernel, by decide +kernel⟩
set_option maxRecDepth 100000 in
theorem znX2_greatestEarliest : Cond.instanceMethod yX2_greatestEarliest ∈ z_tb := z_w1 1024 (Eq.refl _) (by decide +kernel)
set_option maxRecDepth 100000 in
theorem zsX2_greatestEarliest : Cond.selects RX2 yX2_greatestEarliest yX2_greatestEarliest ∈ z_tb := z_w1 60 (Eq.refl _) (by decide +kernel)
set_option maxRecDepth 100000 in
theorem zmX2_room : z_me mX2_room 0 := ⟨z_w1 1030 (Eq.refl _) (by decide +kernel), z_w1 107 (Eq.refl _) (by decide +kernel), by decide +kernel, by decide +kernel, by decide +kernel⟩
set_option maxRecDepth 100000 in
theorem znX2_room : Cond.instanceMethod yX2_room ∈ z_tb := z_w1 1029 (Eq.refl _) (by decide +kernel)
set_option maxRecDepth 100000 in
theorem zsX2_room : Cond.selects RX2 yX2_room yX2_room ∈ z_tb := z_w1 61 (Eq.refl _) (by decide +kernel)
set_option maxRecDepth 100000 in
theorem zmX2_placeByEarliest : z_me mX2_placeByEarliest 1 := ⟨z_w1 1374 (Eq.refl _) (by decide +kernel), z_w1 107 (Eq.refl _) (by decide +kernel), by decide +kernel, by decide +kernel, by decide +kernel⟩
set_option maxRecDepth 100000 in
theorem znX2_placeByEarliest : Cond.instanceMethod yX2_placeByEarliest ∈ z_tb := z_w1 1373 (Eq.refl _) (by decide +kernel)
set_option maxRecDepth 100000 in
theorem zsX2_placeByEarliest : Cond.selects RX2 yX2_placeByEarliest yX2_placeByEarliest ∈ z_tb := z_w1 93 (Eq.refl _) (by decide +kernel)
set_option maxRecDepth 100000 in
theorem zmX2_placeByLatest : z_me mX2_placeByLatest 1 := ⟨z_w1 1386 (Eq.refl _) (by decide +kernel), z_w1 107 (Eq.refl _) (by decide +kernel), by decide +kernel, by decide +kernel, by decide +kernel⟩
set_option maxRecDepth 100000 in
theorem znX2_placeByLatest : Cond.instanceMethod yX2_placeByLatest ∈ z_tb := z_w1 1385 (Eq.refl _) (by decide +kernel)
set_option maxRecDepth 100000 in
theorem zsX2_placeByLatest : Cond.selects RX2 yX2_placeByLatest yX2_placeByLatest ∈ z_tb := z_w1 94 (Eq.refl _) (by decide +kernel)
set_option maxRecDepth 100000 in
theorem zmX2_countOtherBounds : z_me mX2_countOtherBounds 1 := ⟨z_w1 1305 (Eq.refl _) (by decide +kernel), z_w1 107 (Eq.refl _) (by decide +kernel), by decide +kernel, by decide +kernel, by decide +kernel⟩
set_option maxRecDepth 100000 in
theorem znX2_countOtherBounds : Cond.instanceMethod yX2_countOtherBounds ∈ z_tb := z_w1 1304 (Eq.refl _) (by decide +kernel)
set_option maxRecDepth 100000 in
theorem zsX2_countOtherBounds : Cond.selects RX2 yX2_countOtherBounds yX2_countOtherBounds ∈ z_tb := z_w1 89 (Eq.refl _) (by decide +kernel)
set_option maxRecDepth 100000 in
theorem zmX2_countOtherTimes : z_me mX2_countOtherTimes 1 := ⟨z_w1 1309 (Eq.refl _) (by decide +kernel), z_w1 107 (Eq.refl _) (by decide +kernel), by decide +kernel, by decide +kernel, by decide +kernel⟩
set_option maxRecDepth 100000 in
theorem znX2_countOtherTimes : Cond.instanceMethod yX2_countOtherTimes ∈ z_tb := z_w1 1308 (Eq.refl _) (by decide +kernel)
set_option maxRecDepth 100000 in
theorem zsX2_countOtherTimes : Cond.selects RX2 yX2_countOtherTimes yX2_countOtherTimes ∈ z_tb := z_w1 90 (Eq.refl _) (by decide +kernel)
set_option maxRecDepth 100000 in
theorem zmX3_init : z_me mX3_init 0 := ⟨z_w1 136 (Eq.refl _) (by decide +kernel), z_w1 105 (Eq.refl _) (by decide +kernel), by decide +kernel, by decide +kernel, by decide +kernel⟩
set_option maxRecDepth 100000 in
theorem znX3_init : Cond.instanceMethod yX3_init ∈ z_tb := z_w1 135 (Eq.refl _) (by decide +kernel)
set_option maxRecDepth 100000 in
theorem zmX3_clear : z_me mX3_clear 0 := ⟨z_w1 356 (Eq.refl _) (by decide +kernel), z_w1 105 (Eq.refl _) (by decide +kernel), by decide +kernel, by decide +kernel, by decide +kernel⟩
set_option maxRecDepth 100000 in
theorem znX3_clear : Cond.instanceMethod yX3_clear ∈ z_tb := z_w1 355 (Eq.refl _) (by decide +kernel)
set_option maxRecDepth 100000 in
theorem zsX3_clear : Cond.selects RX3 yX3_clear yX3_clear ∈ z_tb := z_w1 0 (Eq.refl _) (by decide +kernel)
set_option maxRecDepth 100000 in
theorem zmX3_addStart : z_me mX3_addStart 0 := ⟨z_w1 364 (Eq.refl _) (by decide +kernel), z_w1 105 (Eq.refl _) (by decide +kernel), by decide +kernel, by decide +kernel, by decide +kernel⟩
set_option maxRecDepth 100000 in
theorem znX3_addStart : Cond.instanceMethod yX3_addStart ∈ z_tb := z_w1 363 (Eq.refl _) (by decide +kernel)
set_option maxRecDepth 100000 in
theorem zsX3_addStart : Cond.selects RX3 yX3_addStart yX3_addStart ∈ z_tb := z_w1 2 (Eq.refl _) (by decide +kernel)
set_option maxRecDepth 100000 in
theorem zmX3_copyFrom : z_me mX3_copyFrom 1 := ⟨z_w1 682 (Eq.refl _) (by decide +kernel), z_w1 105 (Eq.refl _) (by decide +kernel), by decide +kernel, by decide +kernel, by decide +kernel⟩
set_option maxRecDepth 100000 in
theorem znX3_copyFrom : Cond.instanceMethod yX3_copyFrom ∈ z_tb := z_w1 681 (Eq.refl _) (by decide +kernel)
set_option maxRecDepth 100000 in
theorem zsX3_copyFrom : Cond.selects RX3 yX3_copyFrom yX3_copyFrom ∈ z_tb := z_w1 44 (Eq.refl _) (by decide +kernel)
set_option maxRecDepth 100000 in
theorem zmX3_addEvent : z_me mX3_addEvent 3 := ⟨z_w1 611 (Eq.refl _) (by decide +kernel), z_w1 105 (Eq.refl _) (by decide +kernel), by decide +kernel, by decide +kernel, by decide +kernel⟩
set_option maxRecDepth 100000 in
theorem znX3_addEvent : Cond.instanceMethod yX3_addEvent ∈ z_tb := z_w1 610 (Eq.refl _) (by decide +kernel)
set_option maxRecDepth 100000 in
theorem zsX3_addEvent : Cond.selects RX3 yX3_addEvent yX3_addEvent ∈ z_tb := z_w1 29 (Eq.refl _) (by decide +kernel)
set_option maxRecDepth 100000 in
theorem zmX3_nameEvent : z_me mX3_nameEvent 4 := ⟨z_w1 615 (Eq.refl _) (by decide +kernel), z_w1 105 (Eq.refl _) (by decide +kernel), by decide +kernel, by decide +kernel, by decide +kernel⟩
set_option maxRecDepth 100000 in
theorem znX3_nameEvent : Cond.instanceMethod yX3_nameEvent ∈ z_tb := z_w1 614 (Eq.refl _) (by decide +kernel)
set_option maxRecDepth 100000 in
theorem zsX3_nameEvent : Cond.selects RX3 yX3_nameEvent yX3_nameEvent ∈ z_tb := z_w1 30 (Eq.refl _) (by decide +kernel)
set_option maxRecDepth 100000 in
theorem zmX3_letterOf : z_me mX3_letterOf 2 := ⟨z_w1 606 (Eq.refl _) (by decide +kernel), z_w1 105 (Eq.refl _) (by decide +kernel), by decide +kernel, by decide +kernel, by decide +kernel⟩
set_option maxRecDepth 100000 in
theorem znX3_letterOf : Cond.instanceMethod yX3_letterOf ∈ z_tb := z_w1 605 (Eq.refl _) (by decide +kernel)
set_option maxRecDepth 100000 in
theorem zsX3_letterOf : Cond.selects RX3 yX3_letterOf yX3_letterOf ∈ z_tb := z_w1 28 (Eq.refl _) (by decide +kernel)
set_option maxRecDepth 100000 in
theorem zmX3_findEvent : z_me mX3_findEvent 3 := ⟨z_w1 598 (Eq.refl _) (by decide +kernel), z_w1 105 (Eq.refl _) (by decide +kernel), by decide +kernel, by decide +kernel, by decide +kernel⟩
set_option maxRecDepth 100000 in
theorem znX3_findEvent : Cond.instanceMethod yX3_findEvent ∈ z_tb := z_w1 597 (Eq.refl _) (by decide +kernel)
set_option maxRecDepth 100000 in
theorem zsX3_findEvent : Cond.selects RX3 yX3_findEvent yX3_findEvent ∈ z_tb := z_w1 26 (Eq.refl _) (by decide +kernel)
set_option maxRecDepth 100000 in
theorem zmX3_isNamed : z_me mX3_isNamed 4 := ⟨z_w1 602 (Eq.refl _) (by decide +kernel), z_w1 105 (Eq.refl _) (by decide +kernel), by decide +kernel, by decide +kernel, by decide +kernel⟩
set_option maxRecDepth 100000 in
theorem znX3_isNamed : Cond.instanceMethod yX3_isNamed ∈ z_tb := z_w1 601 (Eq.refl _) (by decide +kernel)
set_option maxRecDepth 100000 in
theorem zsX3_isNamed : Cond.selects RX3 yX3_isNamed yX3_isNamed ∈ z_tb := z_w1 27 (Eq.refl _) (by decide +kernel)
set_option maxRecDepth 100000 in
theorem zmX3_addGap : z_me mX3_addGap 5 := ⟨z_w1 644 (Eq.refl _) (by decide +kernel), z_w1 105 (Eq.refl _) (by decide +kernel), by decide +kernel, by decide +kernel, by decide +kernel⟩
set_option maxRecDepth 100000 in
theorem znX3_addGap : Cond.instanceMethod yX3_addGap ∈ z_tb := z_w1 643 (Eq.refl _) (by decide +kernel)
set_option maxRecDepth 100000 in
theorem zsX3_addGap : Cond.selects RX3 yX3_addGap yX3_addGap ∈ z_tb := z_w1 35 (Eq.refl _) (by decide +kernel)
set_option maxRecDepth 100000 in
theorem zmX3_removeGap : z_me mX3_removeGap 1 := ⟨z_w1 1079 (Eq.refl _) (by decide +kernel), z_w1 105 (Eq.refl _) (by decide +kernel), by decide +kernel, by decide +kernel, by decide +kernel⟩
set_option maxRecDepth 100000 in
theorem znX3_removeGap : Cond.instanceMethod yX3_removeGap ∈ z_tb := z_w1 1078 (Eq.refl _) (by decide +kernel)
set_option maxRecDepth 100000 in
theorem zsX3_removeGap : Cond.selects RX3 yX3_removeGap yX3_removeGap ∈ z_tb := z_w1 69 (Eq.refl _) (by decide +kernel)
set_option maxRecDepth 100000 in
theorem zmX3_isPinned : z_me mX3_isPinned 1 := ⟨z_w1 438 (Eq.refl _) (by decide +kernel), z_w1 105 (Eq.refl _) (by decide +kernel), by decide +kernel, by decide +kernel, by decide +kernel⟩
set_option maxRecDepth 100000 in
theorem znX3_isPinned : Cond.instanceMethod yX3_isPinned ∈ z_tb := z_w1 437 (Eq.refl _) (by decide +kernel)
set_option maxRecDepth 100000 in
theorem zsX3_isPinned : Cond.selects RX3 yX3_isPinned yX3_isPinned ∈ z_tb := z_w1 6 (Eq.refl _) (by decide +kernel)
set_option maxRecDepth 100000 in
theorem zmX3_hasEvent : z_me mX3_hasEvent 2 := ⟨z_w1 1195 (Eq.refl _) (by decide +kernel), z_w1 105 (Eq.refl _) (by decide +kernel), by decide +kernel, by decide +kernel, by decide +kernel⟩
set_option maxRecDepth 100000 in
theorem znX3_hasEvent : Cond.instanceMethod yX3_hasEvent ∈ z_tb := z_w1 1194 (Eq.refl _) (by decide +kernel)
set_option maxRecDepth 100000 in
theorem zsX3_hasEvent : Cond.selects RX3 yX3_hasEvent yX3_hasEvent ∈ z_tb := z_w1 80 (Eq.refl _) (by decide +kernel)
set_option maxRecDepth 100000 in
theorem zmX3_countPinned : z_me mX3_countPinned 0 := ⟨z_w1 974 (Eq.refl _) (by decide +kernel), z_w1 105 (Eq.refl _) (by decide +kernel), by decide +kernel, by decide +kernel, by decide +kernel⟩
set_option maxRecDepth 100000 in
theorem znX3_countPinned : Cond.instanceMethod yX3_countPinned ∈ z_tb := z_w1 973 (Eq.refl _) (by decide +kernel)
set_option maxRecDepth 100000 in
theorem zsX3_countPinned : Cond.selects RX3 yX3_countPinned yX3_countPinned ∈ z_tb := z_w1 49 (Eq.refl _) (by decide +kernel)
set_option maxRecDepth 100000 in
theorem zmX3_countOn : z_me mX3_countOn 0 := ⟨z_w1 967 (Eq.refl _) (by decide +kernel), z_w1 105 (Eq.refl _) (by decide +kernel), by decide +kernel, by decide +kernel, by decide +kernel⟩
set_option maxRecDepth 100000 in
theorem znX3_countOn : Cond.instanceMethod yX3_countOn ∈ z_tb := z_w1 966 (Eq.refl _) (by decide +kernel)
set_option maxRecDepth 100000 in
theorem zsX3_countOn : Cond.selects RX3 yX3_countOn yX3_countOn ∈ z_tb := z_w1 48 (Eq.refl _) (by decide +kernel)
set_option maxRecDepth 100000 in
theorem zmX3_countOnOf : z_me mX3_countOnOf 1 := ⟨z_w1 1191 (Eq.refl _) (by decide +kernel), z_w1 105 (Eq.refl _) (by decide +kernel), by decide +kernel, by decide +kernel, by decide +kernel⟩
set_option maxRecDepth 100000 in
theorem znX3_countOnOf : Cond.instanceMethod yX3_countOnOf ∈ z_tb := z_w1 1190 (Eq.refl _) (by decide +kernel)
set_option maxRecDepth 100000 in
theorem zsX3_countOnOf : Cond.selects RX3 yX3_countOnOf yX3_countOnOf ∈ z_tb := z_w1 79 (Eq.refl _) (by decide +kernel)
set_option maxRecDepth 100000 in
theorem zmX4_init : z_me mX4_init 0 := ⟨z_w1 298 (Eq.refl _) (by decide +kernel), z_w1 110 (Eq.refl _) (by decide +kernel), by decide +kernel, by decide +kernel, by decide +kernel⟩
set_option maxRecDepth 100000 in
theorem znX4_init : Cond.instanceMethod yX4_init ∈ z_tb := z_w1 297 (Eq.refl _) (by decide +kernel)
set_option maxRecDepth 100000 in
theorem zmX4_read : z_me mX4_read 0 := ⟨z_w1 510 (Eq.refl _) (by decide +kernel), z_w1 110 (Eq.refl _) (by decide +kernel), by decide +kernel, by decide +kernel, by decide +kernel⟩
set_option maxRecDepth 100000 in
theorem znX4_read : Cond.instanceMethod yX4_read ∈ z_tb := z_w1 509 (Eq.refl _) (by decide +kernel)
set_option maxRecDepth 100000 in
theorem zsX4_read : Cond.selects RX4 yX4_read yX4_read ∈ z_tb := z_w1 10 (Eq.refl _) (by decide +kernel)
set_option maxRecDepth 100000 in
theorem zmX4_position : z_me mX4_position 0 := ⟨z_w1 678 (Eq.refl _) (by decide +kernel), z_w1 110 (Eq.refl _) (by decide +kernel), by decide +kernel, by decide +kernel, by decide +kernel⟩
set_option maxRecDepth 100000 in
theorem znX4_position : Cond.instanceMethod yX4_position ∈ z_tb := z_w1 677 (Eq.refl _) (by decide +kernel)
set_option maxRecDepth 100000 in
theorem zsX4_position : Cond.selects RX4 yX4_position yX4_position ∈ z_tb := z_w1 43 (Eq.refl _) (by decide +kernel)
set_option maxRecDepth 100000 in
theorem zmX4_next : z_me mX4_next 0 := ⟨z_w1 515 (Eq.refl _) (by decide +kernel), z_w1 110 (Eq.refl _) (by decide +kernel), by decide +kernel, by decide +kernel, by decide +kernel⟩
set_option maxRecDepth 100000 in
theorem znX4_next : Cond.instanceMethod yX4_next ∈ z_tb := z_w1 514 (Eq.refl _) (by decide +kernel)
set_option maxRecDepth 100000 in
theorem zsX4_next : Cond.selects RX4 yX4_next yX4_next ∈ z_tb := z_w1 11 (Eq.refl _) (by decide +kernel)
set_option maxRecDepth 100000 in
theorem zmX4_isHere : z_me mX4_isHere 1 := ⟨z_w1 553 (Eq.refl _) (by decide +kernel), z_w1 110 (Eq.refl _) (by decide +kernel), by decide +kernel, by decide +kernel, by decide +kernel⟩
set_option maxRecDepth 100000 in
theorem znX4_isHere : Cond.instanceMethod yX4_isHere ∈ z_tb := z_w1 552 (Eq.refl _) (by decide +kernel)
set_option maxRecDepth 100000 in
theorem zsX4_isHere : Cond.selects RX4 yX4_isHere yX4_isHere ∈ z_tb := z_w1 18 (Eq.refl _) (by decide +kernel)
set_option maxRecDepth 100000 in
theorem zmX4_takeWord : z_me mX4_takeWord 1 := ⟨z_w1 549 (Eq.refl _) (by decide +kernel), z_w1 110 (Eq.refl _) (by decide +kernel), by decide +kernel, by decide +kernel, by decide +kernel⟩
set_option maxRecDepth 100000 in
theorem znX4_takeWord : Cond.instanceMethod yX4_takeWord ∈ z_tb := z_w1 548 (Eq.refl _) (by decide +kernel)
set_option maxRecDepth 100000 in
theorem zsX4_takeWord : Cond.selects RX4 yX4_takeWord yX4_takeWord ∈ z_tb := z_w1 17 (Eq.refl _) (by decide +kernel)
set_option maxRecDepth 100000 in
theorem zmX4_takeSemicolon : z_me mX4_takeSemicolon 0 := ⟨z_w1 567 (Eq.refl _) (by decide +kernel), z_w1 110 (Eq.refl _) (by decide +kernel), by decide +kernel, by decide +kernel, by decide +kernel⟩
set_option maxRecDepth 100000 in
theorem znX4_takeSemicolon : Cond.instanceMethod yX4_takeSemicolon ∈ z_tb := z_w1 566 (Eq.refl _) (by decide +kernel)
set_option maxRecDepth 100000 in
theorem zsX4_takeSemicolon : Cond.selects RX4 yX4_takeSemicolon yX4_takeSemicolon ∈ z_tb := z_w1 21 (Eq.refl _) (by decide +kernel)
set_option maxRecDepth 100000 in
theorem zmX4_numberHere : z_me mX4_numberHere 0 := ⟨z_w1 563 (Eq.refl _) (by decide +kernel), z_w1 110 (Eq.refl _) (by decide +kernel), by decide +kernel, by decide +kernel, by decide +kernel⟩
set_option maxRecDepth 100000 in
theorem znX4_numberHere : Cond.instanceMethod yX4_numberHere ∈ z_tb := z_w1 562 (Eq.refl _) (by decide +kernel)
set_option maxRecDepth 100000 in
theorem zsX4_numberHere : Cond.selects RX4 yX4_numberHere yX4_numberHere ∈ z_tb := z_w1 20 (Eq.refl _) (by decide +kernel)
set_option maxRecDepth 100000 in
theorem zmX4_eventHere : z_me mX4_eventHere 0 := ⟨z_w1 594 (Eq.refl _) (by decide +kernel), z_w1 110 (Eq.refl _) (by decide +kernel), by decide +kernel, by decide +kernel, by decide +kernel⟩
set_option maxRecDepth 100000 in
theorem znX4_eventHere : Cond.instanceMethod yX4_eventHere ∈ z_tb := z_w1 593 (Eq.refl _) (by decide +kernel)
set_option maxRecDepth 100000 in
theorem zsX4_eventHere : Cond.selects RX4 yX4_eventHere yX4_eventHere ∈ z_tb := z_w1 25 (Eq.refl _) (by decide +kernel)
set_option maxRecDepth 100000 in
theorem zmX4_kindHere : z_me mX4_kindHere 0 := ⟨z_w1 626 (Eq.refl _) (by decide +kernel), z_w1 110 (Eq.refl _) (by decide +kernel), by decide +kernel, by decide +kernel, by decide +kernel⟩
set_option maxRecDepth 100000 in
theorem znX4_kindHere : Cond.instanceMethod yX4_kindHere ∈ z_tb := z_w1 625 (Eq.refl _) (by decide +kernel)
set_option maxRecDepth 100000 in
theorem zsX4_kindHere : Cond.selects RX4 yX4_kindHere yX4_kindHere ∈ z_tb := z_w1 32 (Eq.refl _) (by decide +kernel)
set_option maxRecDepth 100000 in
theorem zmX4_readEnd : z_me mX4_readEnd 0 := ⟨z_w1 544 (Eq.refl _) (by decide +kernel), z_w1 110 (Eq.refl _) (by decide +kernel), by decide +kernel, by decide +kernel, by decide +kernel⟩
set_option maxRecDepth 100000 in
theorem znX4_readEnd : Cond.instanceMethod yX4_readEnd ∈ z_tb := z_w1 543 (Eq.refl _) (by decide +kernel)
set_option maxRecDepth 100000 in
theorem zsX4_readEnd : Cond.selects RX4 yX4_readEnd yX4_readEnd ∈ z_tb := z_w1 16 (Eq.refl _) (by decide +kernel)
set_option maxRecDepth 100000 in
theorem zmX4_readEvent : z_me mX4_readEvent 0 := ⟨z_w1 572 (Eq.refl _) (by decide +kernel), z_w1 110 (Eq.refl _) (by decide +kernel), by decide +kernel, by decide +kernel, by decide +kernel⟩
set_option maxRecDepth 100000 in
theorem znX4_readEvent : Cond.instanceMethod yX4_readEvent ∈ z_tb := z_w1 571 (Eq.refl _) (by decide +kernel)
set_option maxRecDepth 100000 in
theorem zsX4_readEvent : Cond.selects RX4 yX4_readEvent yX4_readEvent ∈ z_tb := z_w1 22 (Eq.refl _) (by decide +kernel)
set_option maxRecDepth 100000 in
theorem zmX4_readGap : z_me mX4_readGap 0 := ⟨z_w1 622 (Eq.refl _) (by decide +kernel), z_w1 110 (Eq.refl _) (by decide +kernel), by decide +kernel, by decide +kernel, by decide +kernel⟩
set_option maxRecDepth 100000 in
theorem znX4_readGap : Cond.instanceMethod yX4_readGap ∈ z_tb := z_w1 621 (Eq.refl _) (by decide +kernel)
set_option maxRecDepth 100000 in
theorem zsX4_readGap : Cond.selects RX4 yX4_readGap yX4_readGap ∈ z_tb := z_w1 31 (Eq.refl _) (by decide +kernel)
set_option maxRecDepth 100000 in
theorem zmX4_readPin : z_me mX4_readPin 0 := ⟨z_w1 657 (Eq.refl _) (by decide +kernel), z_w1 110 (Eq.refl _) (by decide +kernel), by decide +kernel, by decide +kernel, by decide +kernel⟩
set_option maxRecDepth 100000 in
theorem znX4_readPin : Cond.instanceMethod yX4_readPin ∈ z_tb := z_w1 656 (Eq.refl _) (by decide +kernel)
set_option maxRecDepth 100000 in
theorem zsX4_readPin : Cond.selects RX4 yX4_readPin yX4_readPin ∈ z_tb := z_w1 38 (Eq.refl _) (by decide +kernel)
set_option maxRecDepth 100000 in
theorem zmX5_init : z_me mX5_init 0 := ⟨z_w1 281 (Eq.refl _) (by decide +kernel), z_w1 109 (Eq.refl _) (by decide +kernel), by decide +kernel, by decide +kernel, by decide +kernel⟩
set_option maxRecDepth 100000 in
theorem znX5_init : Cond.instanceMethod yX5_init ∈ z_tb := z_w1 280 (Eq.refl _) (by decide +kernel)
set_option maxRecDepth 100000 in
theorem zmX5_clear : z_me mX5_clear 0 := ⟨z_w1 694 (Eq.refl _) (by decide +kernel), z_w1 109 (Eq.refl _) (by decide +kernel), by decide +kernel, by decide +kernel, by decide +kernel⟩
set_option maxRecDepth 100000 in
theorem znX5_clear : Cond.instanceMethod yX5_clear ∈ z_tb := z_w1 693 (Eq.refl _) (by decide +kernel)
set_option maxRecDepth 100000 in
theorem zsX5_clear : Cond.selects RX5 yX5_clear yX5_clear ∈ z_tb := z_w1 46 (Eq.refl _) (by decide +kernel)
set_option maxRecDepth 100000 in
theorem zmX6_init : z_me mX6_init 0 := ⟨z_w1 304 (Eq.refl _) (by decide +kernel), z_w1 111 (Eq.refl _) (by decide +kernel), by decide +kernel, by decide +kernel, by decide +kernel⟩
set_option maxRecDepth 100000 in
theorem znX6_init : Cond.instanceMethod yX6_init ∈ z_tb := z_w1 303 (Eq.refl _) (by decide +kernel)
set_option maxRecDepth 100000 in
theorem zmX6_putFourBytes : z_me mX6_putFourBytes 1 := ⟨z_w1 502 (Eq.refl _) (by decide +kernel), z_w1 111 (Eq.refl _) (by decide +kernel), by decide +kernel, by decide +kernel, by decide +kernel⟩
set_option maxRecDepth 100000 in
theorem znX6_putFourBytes : Cond.instanceMethod yX6_putFourBytes ∈ z_tb := z_w1 501 (Eq.refl _) (by decide +kernel)
set_option maxRecDepth 100000 in
theorem zsX6_putFourBytes : Cond.selects RX6 yX6_putFourBytes yX6_putFourBytes ∈ z_tb := z_w1 9 (Eq.refl _) (by decide +kernel)
set_option maxRecDepth 100000 in
theorem zmX6_byteAt : z_me mX6_byteAt 1 := ⟨z_w1 523 (Eq.refl _) (by decide +kernel), z_w1 111 (Eq.refl _) (by decide +kernel), by decide +kernel, by decide +kernel, by decide +kernel⟩
set_option maxRecDepth 100000 in
theorem znX6_byteAt : Cond.instanceMethod yX6_byteAt ∈ z_tb := z_w1 522 (Eq.refl _) (by decide +kernel)
set_option maxRecDepth 100000 in
theorem zsX6_byteAt : Cond.selects RX6 yX6_byteAt yX6_byteAt ∈ z_tb := z_w1 13 (Eq.refl _) (by decide +kernel)
set_option maxRecDepth 100000 in
theorem zmX6_isName : z_me mX6_isName 2 := ⟨z_w1 576 (Eq.refl _) (by decide +kernel), z_w1 111 (Eq.refl _) (by decide +kernel), by decide +kernel, by decide +kernel, by decide +kernel⟩
set_option maxRecDepth 100000 in
theorem znX6_isName : Cond.instanceMethod yX6_isName ∈ z_tb := z_w1 575 (Eq.refl _) (by decide +kernel)
set_option maxRecDepth 100000 in
theorem zsX6_isName : Cond.selects RX6 yX6_isName yX6_isName ∈ z_tb := z_w1 23 (Eq.refl _) (by decide +kernel)
set_option maxRecDepth 100000 in
theorem zmX6_isKeyword : z_me mX6_isKeyword 2 := ⟨z_w1 581 (Eq.refl _) (by decide +kernel), z_w1 111 (Eq.refl _) (by decide +kernel), by decide +kernel, by decide +kernel, by decide +kernel⟩
set_option maxRecDepth 100000 in
theorem znX6_isKeyword : Cond.instanceMethod yX6_isKeyword ∈ z_tb := z_w1 580 (Eq.refl _) (by decide +kernel)
set_option maxRecDepth 100000 in
theorem zsX6_isKeyword : Cond.selects RX6 yX6_isKeyword yX6_isKeyword ∈ z_tb := z_w1 24 (Eq.refl _) (by decide +kernel)
set_option maxRecDepth 100000 in
theorem zmX6_spells : z_me mX6_spells 3 := ⟨z_w1 557 (Eq.refl _) (by decide +kernel), z_w1 111 (Eq.refl _) (by decide +kernel), by decide +kernel, by decide +kernel, by decide +kernel⟩
set_option maxRecDepth 100000 in
theorem znX6_spells : Cond.instanceMethod yX6_spells ∈ z_tb := z_w1 556 (Eq.refl _) (by decide +kernel)
set_option maxRecDepth 100000 in
theorem zsX6_spells : Cond.selects RX6 yX6_spells yX6_spells ∈ z_tb := z_w1 19 (Eq.refl _) (by decide +kernel)
set_option maxRecDepth 100000 in
theorem zmX6_countLetters : z_me mX6_countLetters 1 := ⟨z_w1 531 (Eq.refl _) (by decide +kernel), z_w1 111 (Eq.refl _) (by decide +kernel), by decide +kernel, by decide +kernel, by decide +kernel⟩
set_option maxRecDepth 100000 in
theorem znX6_countLetters : Cond.instanceMethod yX6_countLetters ∈ z_tb := z_w1 530 (Eq.refl _) (by decide +kernel)
set_option maxRecDepth 100000 in
theorem zsX6_countLetters : Cond.selects RX6 yX6_countLetters yX6_countLetters ∈ z_tb := z_w1 14 (Eq.refl _) (by decide +kernel)
set_option maxRecDepth 100000 in
theorem zmX6_countDigits : z_me mX6_countDigits 1 := ⟨z_w1 539 (Eq.refl _) (by decide +kernel), z_w1 111 (Eq.refl _) (by decide +kernel), by decide +kernel, by decide +kernel, by decide +kernel⟩
set_option maxRecDepth 100000 in
theorem znX6_countDigits : Cond.instanceMethod yX6_countDigits ∈ z_tb := z_w1 538 (Eq.refl _) (by decide +kernel)
set_option maxRecDepth 100000 in
theorem zsX6_countDigits : Cond.selects RX6 yX6_countDigits yX6_countDigits ∈ z_tb := z_w1 15 (Eq.refl _) (by decide +kernel)
set_option maxRecDepth 100000 in
theorem zmX6_countSpaces : z_me mX6_countSpaces 1 := ⟨z_w1 519 (Eq.refl _) (by decide +kernel), z_w1 111 (Eq.refl _) (by decide +kernel), by decide +kernel, by decide +kernel, by decide +kernel⟩
set_option maxRecDepth 100000 in
theorem znX6_countSpaces : Cond.instanceMethod yX6_countSpaces ∈ z_tb := z_w1 518 (Eq.refl _) (by decide +kernel)
set_option maxRecDepth 100000 in
theorem zsX6_countSpaces : Cond.selects RX6 yX6_countSpaces yX6_countSpaces ∈ z_tb := z_w1 12 (Eq.refl _) (by decide +kernel)
set_option maxRecDepth 100000 in
theorem zmX6_isLetter : z_me mX6_isLetter 1 := ⟨z_w1 527 (Eq.refl _) (by decide +kernel), z_w1 111 (Eq.refl _) (by decide +kernel), by decide +kernel, by decide +kernel, by decide +kernel⟩
set_option maxRecDepth 100000 in
theorem ztX6_isLetter : Cond.static yX6_isLetter ∈ z_tb := z_w1 526 (Eq.refl _) (by decide +kernel)
set_option maxRecDepth 100000 in
theorem zmX6_isDigit : z_me mX6_isDigit 1 := ⟨z_w1 535 (Eq.refl _) (by decide +kernel), z_w1 111 (Eq.refl _) (by decide +kernel), by decide +kernel, by decide +kernel, by decide +kernel⟩
set_option maxRecDepth 100000 in
theorem ztX6_isDigit : Cond.static yX6_isDigit ∈ z_tb := z_w1 534 (Eq.refl _) (by decide +kernel)
set_option maxRecDepth 100000 in
theorem zmX7_init : z_me mX7_init 0 := ⟨z_w1 343 (Eq.refl _) (by decide +kernel), z_w1 112 (Eq.refl _) (by decide +kernel), by decide +kernel, by decide +kernel, by decide +kernel⟩
set_option maxRecDepth 100000 in
theorem znX7_init : Cond.instanceMethod yX7_init ∈ z_tb := z_w1 342 (Eq.refl _) (by decide +kernel)
set_option maxRecDepth 100000 in
theorem zmX7_byteAt : z_me mX7_byteAt 1 := ⟨z_w1 1470 (Eq.refl _) (by decide +kernel), z_w1 112 (Eq.refl _) (by decide +kernel), by decide +kernel, by decide +kernel, by decide +kernel⟩
set_option maxRecDepth 100000 in
theorem znX7_byteAt : Cond.instanceMethod yX7_byteAt ∈ z_tb := z_w1 1469 (Eq.refl _) (by decide +kernel)
set_option maxRecDepth 100000 in
theorem zsX7_byteAt : Cond.selects RX7 yX7_byteAt yX7_byteAt ∈ z_tb := z_w1 102 (Eq.refl _) (by decide +kernel)
set_option maxRecDepth 100000 in
theorem zmX7_writeList : z_me mX7_writeList 2 := ⟨z_w1 1421 (Eq.refl _) (by decide +kernel), z_w1 112 (Eq.refl _) (by decide +kernel), by decide +kernel, by decide +kernel, by decide +kernel⟩
set_option maxRecDepth 100000 in
theorem znX7_writeList : Cond.instanceMethod yX7_writeList ∈ z_tb := z_w1 1420 (Eq.refl _) (by decide +kernel)
set_option maxRecDepth 100000 in
theorem zsX7_writeList : Cond.selects RX7 yX7_writeList yX7_writeList ∈ z_tb := z_w1 95 (Eq.refl _) (by decide +kernel)
set_option maxRecDepth 100000 in
theorem zmX7_writeSetup : z_me mX7_writeSetup 1 := ⟨z_w1 1445 (Eq.refl _) (by decide +kernel), z_w1 112 (Eq.refl _) (by decide +kernel), by decide +kernel, by decide +kernel, by decide +kernel⟩
set_option maxRecDepth 100000 in
theorem znX7_writeSetup : Cond.instanceMethod yX7_writeSetup ∈ z_tb := z_w1 1444 (Eq.refl _) (by decide +kernel)
set_option maxRecDepth 100000 in
theorem zsX7_writeSetup : Cond.selects RX7 yX7_writeSetup yX7_writeSetup ∈ z_tb := z_w1 99 (Eq.refl _) (by decide +kernel)
set_option maxRecDepth 100000 in
theorem zmX7_putGap : z_me mX7_putGap 2 := ⟨z_w1 1457 (Eq.refl _) (by decide +kernel), z_w1 112 (Eq.refl _) (by decide +kernel), by decide +kernel, by decide +kernel, by decide +kernel⟩
set_option maxRecDepth 100000 in
theorem znX7_putGap : Cond.instanceMethod yX7_putGap ∈ z_tb := z_w1 1456 (Eq.refl _) (by decide +kernel)
set_option maxRecDepth 100000 in
theorem zsX7_putGap : Cond.selects RX7 yX7_putGap yX7_putGap ∈ z_tb := z_w1 101 (Eq.refl _) (by decide +kernel)
set_option maxRecDepth 100000 in
theorem zmX7_putName : z_me mX7_putName 2 := ⟨z_w1 1425 (Eq.refl _) (by decide +kernel), z_w1 112 (Eq.refl _) (by decide +kernel), by decide +kernel, by decide +kernel, by decide +kernel⟩
set_option maxRecDepth 100000 in
theorem znX7_putName : Cond.instanceMethod yX7_putName ∈ z_tb := z_w1 1424 (Eq.refl _) (by decide +kernel)
set_option maxRecDepth 100000 in
theorem zsX7_putName : Cond.selects RX7 yX7_putName yX7_putName ∈ z_tb := z_w1 96 (Eq.refl _) (by decide +kernel)
set_option maxRecDepth 100000 in
theorem zmX7_putWord : z_me mX7_putWord 1 := ⟨z_w1 1450 (Eq.refl _) (by decide +kernel), z_w1 112 (Eq.refl _) (by decide +kernel), by decide +kernel, by decide +kernel, by decide +kernel⟩
set_option maxRecDepth 100000 in
theorem znX7_putWord : Cond.instanceMethod yX7_putWord ∈ z_tb := z_w1 1449 (Eq.refl _) (by decide +kernel)
set_option maxRecDepth 100000 in
theorem zsX7_putWord : Cond.selects RX7 yX7_putWord yX7_putWord ∈ z_tb := z_w1 100 (Eq.refl _) (by decide +kernel)
set_option maxRecDepth 100000 in
theorem zmX7_putNumber : z_me mX7_putNumber 1 := ⟨z_w1 1435 (Eq.refl _) (by decide +kernel), z_w1 112 (Eq.refl _) (by decide +kernel), by decide +kernel, by decide +kernel, by decide +kernel⟩
set_option maxRecDepth 100000 in
theorem znX7_putNumber : Cond.instanceMethod yX7_putNumber ∈ z_tb := z_w1 1434 (Eq.refl _) (by decide +kernel)
set_option maxRecDepth 100000 in
theorem zsX7_putNumber : Cond.selects RX7 yX7_putNumber yX7_putNumber ∈ z_tb := z_w1 98 (Eq.refl _) (by decide +kernel)
set_option maxRecDepth 100000 in
theorem zmX7_put : z_me mX7_put 1 := ⟨z_w1 1430 (Eq.refl _) (by decide +kernel), z_w1 112 (Eq.refl _) (by decide +kernel), by decide +kernel, by decide +kernel, by decide +kernel⟩
set_option maxRecDepth 100000 in
theorem znX7_put : Cond.instanceMethod yX7_put ∈ z_tb := z_w1 1429 (Eq.refl _) (by decide +kernel)
set_option maxRecDepth 100000 in
theorem zsX7_put : Cond.selects RX7 yX7_put yX7_put ∈ z_tb := z_w1 97 (Eq.refl _) (by decide +kernel)
set_option maxRecDepth 100000 in
theorem zmX8_init : z_me mX8_init 0 := ⟨z_w1 128 (Eq.refl _) (by decide +kernel), z_w1 104 (Eq.refl _) (by decide +kernel), by decide +kernel, by decide +kernel, by decide +kernel⟩
set_option maxRecDepth 100000 in
theorem znX8_init : Cond.instanceMethod yX8_init ∈ z_tb := z_w1 127 (Eq.refl _) (by decide +kernel)
set_option maxRecDepth 100000 in
theorem zmX8_append : z_me mX8_append 5 := ⟨z_w1 498 (Eq.refl _) (by decide +kernel), z_w1 104 (Eq.refl _) (by decide +kernel), by decide +kernel, by decide +kernel, by decide +kernel⟩
set_option maxRecDepth 100000 in
theorem znX8_append : Cond.instanceMethod yX8_append ∈ z_tb := z_w1 496 (Eq.refl _) (by decide +kernel)
set_option maxRecDepth 100000 in
theorem zsX8_append : Cond.selects RX8 yX8_append yX8_append ∈ z_tb := z_w1 497 (Eq.refl _) (by decide +kernel)
set_option maxRecDepth 100000 in
theorem zmX8_truncate : z_me mX8_truncate 1 := ⟨z_w1 492 (Eq.refl _) (by decide +kernel), z_w1 104 (Eq.refl _) (by decide +kernel), by decide +kernel, by decide +kernel, by decide +kernel⟩
set_option maxRecDepth 100000 in
theorem znX8_truncate : Cond.instanceMethod yX8_truncate ∈ z_tb := z_w1 490 (Eq.refl _) (by decide +kernel)
set_option maxRecDepth 100000 in
theorem zsX8_truncate : Cond.selects RX8 yX8_truncate yX8_truncate ∈ z_tb := z_w1 491 (Eq.refl _) (by decide +kernel)
set_option maxRecDepth 100000 in
theorem zmX8_load : z_me mX8_load 0 := ⟨z_w1 506 (Eq.refl _) (by decide +kernel), z_w1 104 (Eq.refl _) (by decide +kernel), by decide +kernel, by decide +kernel, by decide +kernel⟩
set_option maxRecDepth 100000 in
theorem znX8_load : Cond.instanceMethod yX8_load ∈ z_tb := z_w1 504 (Eq.refl _) (by decide +kernel)
set_option maxRecDepth 100000 in
theorem zsX8_load : Cond.selects RX8 yX8_load yX8_load ∈ z_tb := z_w1 505 (Eq.refl _) (by decide +kernel)
set_option maxRecDepth 100000 in
theorem zmX8_errorPosition : z_me mX8_errorPosition 0 := ⟨z_w1 702 (Eq.refl _) (by decide +kernel), z_w1 104 (Eq.refl _) (by decide +kernel), by decide +kernel, by decide +kernel, by decide +kernel⟩
set_option maxRecDepth 100000 in
theorem znX8_errorPosition : Cond.instanceMethod yX8_errorPosition ∈ z_tb := z_w1 700 (Eq.refl _) (by decide +kernel)
set_option maxRecDepth 100000 in
theorem zsX8_errorPosition : Cond.selects RX8 yX8_errorPosition yX8_errorPosition ∈ z_tb := z_w1 701 (Eq.refl _) (by decide +kernel)
