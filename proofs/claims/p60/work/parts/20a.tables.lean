set_option maxRecDepth 100000 in
theorem zmX8_open : z_me mX8_open 0 := ⟨z_w1 1156 (Eq.refl _) (by decide +kernel), z_w1 104 (Eq.refl _) (by decide +kernel), by decide +kernel, by decide +kernel, by decide +kernel⟩
set_option maxRecDepth 100000 in
theorem znX8_open : Cond.instanceMethod yX8_open ∈ z_tb := z_w1 1154 (Eq.refl _) (by decide +kernel)
set_option maxRecDepth 100000 in
theorem zsX8_open : Cond.selects RX8 yX8_open yX8_open ∈ z_tb := z_w1 1155 (Eq.refl _) (by decide +kernel)
set_option maxRecDepth 100000 in
theorem zmX8_tell : z_me mX8_tell 4 := ⟨z_w1 1034 (Eq.refl _) (by decide +kernel), z_w1 104 (Eq.refl _) (by decide +kernel), by decide +kernel, by decide +kernel, by decide +kernel⟩
set_option maxRecDepth 100000 in
theorem znX8_tell : Cond.instanceMethod yX8_tell ∈ z_tb := z_w1 1032 (Eq.refl _) (by decide +kernel)
set_option maxRecDepth 100000 in
theorem zsX8_tell : Cond.selects RX8 yX8_tell yX8_tell ∈ z_tb := z_w1 1033 (Eq.refl _) (by decide +kernel)
set_option maxRecDepth 100000 in
theorem zmX8_drop : z_me mX8_drop 1 := ⟨z_w1 1071 (Eq.refl _) (by decide +kernel), z_w1 104 (Eq.refl _) (by decide +kernel), by decide +kernel, by decide +kernel, by decide +kernel⟩
set_option maxRecDepth 100000 in
theorem znX8_drop : Cond.instanceMethod yX8_drop ∈ z_tb := z_w1 1069 (Eq.refl _) (by decide +kernel)
set_option maxRecDepth 100000 in
theorem zsX8_drop : Cond.selects RX8 yX8_drop yX8_drop ∈ z_tb := z_w1 1070 (Eq.refl _) (by decide +kernel)
set_option maxRecDepth 100000 in
theorem zmX8_set : z_me mX8_set 2 := ⟨z_w1 1083 (Eq.refl _) (by decide +kernel), z_w1 104 (Eq.refl _) (by decide +kernel), by decide +kernel, by decide +kernel, by decide +kernel⟩
set_option maxRecDepth 100000 in
theorem znX8_set : Cond.instanceMethod yX8_set ∈ z_tb := z_w1 1081 (Eq.refl _) (by decide +kernel)
set_option maxRecDepth 100000 in
theorem zsX8_set : Cond.selects RX8 yX8_set yX8_set ∈ z_tb := z_w1 1082 (Eq.refl _) (by decide +kernel)
set_option maxRecDepth 100000 in
theorem zmX8_turn : z_me mX8_turn 1 := ⟨z_w1 1091 (Eq.refl _) (by decide +kernel), z_w1 104 (Eq.refl _) (by decide +kernel), by decide +kernel, by decide +kernel, by decide +kernel⟩
set_option maxRecDepth 100000 in
theorem znX8_turn : Cond.instanceMethod yX8_turn ∈ z_tb := z_w1 1089 (Eq.refl _) (by decide +kernel)
set_option maxRecDepth 100000 in
theorem zsX8_turn : Cond.selects RX8 yX8_turn yX8_turn ∈ z_tb := z_w1 1090 (Eq.refl _) (by decide +kernel)
set_option maxRecDepth 100000 in
theorem zmX8_pin : z_me mX8_pin 2 := ⟨z_w1 1095 (Eq.refl _) (by decide +kernel), z_w1 104 (Eq.refl _) (by decide +kernel), by decide +kernel, by decide +kernel, by decide +kernel⟩
set_option maxRecDepth 100000 in
theorem znX8_pin : Cond.instanceMethod yX8_pin ∈ z_tb := z_w1 1093 (Eq.refl _) (by decide +kernel)
set_option maxRecDepth 100000 in
theorem zsX8_pin : Cond.selects RX8 yX8_pin yX8_pin ∈ z_tb := z_w1 1094 (Eq.refl _) (by decide +kernel)
set_option maxRecDepth 100000 in
theorem zmX8_unpin : z_me mX8_unpin 1 := ⟨z_w1 1109 (Eq.refl _) (by decide +kernel), z_w1 104 (Eq.refl _) (by decide +kernel), by decide +kernel, by decide +kernel, by decide +kernel⟩
set_option maxRecDepth 100000 in
theorem znX8_unpin : Cond.instanceMethod yX8_unpin ∈ z_tb := z_w1 1107 (Eq.refl _) (by decide +kernel)
set_option maxRecDepth 100000 in
theorem zsX8_unpin : Cond.selects RX8 yX8_unpin yX8_unpin ∈ z_tb := z_w1 1108 (Eq.refl _) (by decide +kernel)
set_option maxRecDepth 100000 in
theorem zmX8_end : z_me mX8_end 1 := ⟨z_w1 1113 (Eq.refl _) (by decide +kernel), z_w1 104 (Eq.refl _) (by decide +kernel), by decide +kernel, by decide +kernel, by decide +kernel⟩
set_option maxRecDepth 100000 in
theorem znX8_end : Cond.instanceMethod yX8_end ∈ z_tb := z_w1 1111 (Eq.refl _) (by decide +kernel)
set_option maxRecDepth 100000 in
theorem zsX8_end : Cond.selects RX8 yX8_end yX8_end ∈ z_tb := z_w1 1112 (Eq.refl _) (by decide +kernel)
set_option maxRecDepth 100000 in
theorem zmX8_rename : z_me mX8_rename 1 := ⟨z_w1 1167 (Eq.refl _) (by decide +kernel), z_w1 104 (Eq.refl _) (by decide +kernel), by decide +kernel, by decide +kernel, by decide +kernel⟩
set_option maxRecDepth 100000 in
theorem znX8_rename : Cond.instanceMethod yX8_rename ∈ z_tb := z_w1 1165 (Eq.refl _) (by decide +kernel)
set_option maxRecDepth 100000 in
theorem zsX8_rename : Cond.selects RX8 yX8_rename yX8_rename ∈ z_tb := z_w1 1166 (Eq.refl _) (by decide +kernel)
set_option maxRecDepth 100000 in
theorem zmX8_reverse : z_me mX8_reverse 1 := ⟨z_w1 1117 (Eq.refl _) (by decide +kernel), z_w1 104 (Eq.refl _) (by decide +kernel), by decide +kernel, by decide +kernel, by decide +kernel⟩
set_option maxRecDepth 100000 in
theorem znX8_reverse : Cond.instanceMethod yX8_reverse ∈ z_tb := z_w1 1115 (Eq.refl _) (by decide +kernel)
set_option maxRecDepth 100000 in
theorem zsX8_reverse : Cond.selects RX8 yX8_reverse yX8_reverse ∈ z_tb := z_w1 1116 (Eq.refl _) (by decide +kernel)
set_option maxRecDepth 100000 in
theorem zmX8_tighten : z_me mX8_tighten 0 := ⟨z_w1 1130 (Eq.refl _) (by decide +kernel), z_w1 104 (Eq.refl _) (by decide +kernel), by decide +kernel, by decide +kernel, by decide +kernel⟩
set_option maxRecDepth 100000 in
theorem znX8_tighten : Cond.instanceMethod yX8_tighten ∈ z_tb := z_w1 1128 (Eq.refl _) (by decide +kernel)
set_option maxRecDepth 100000 in
theorem zsX8_tighten : Cond.selects RX8 yX8_tighten yX8_tighten ∈ z_tb := z_w1 1129 (Eq.refl _) (by decide +kernel)
set_option maxRecDepth 100000 in
theorem zmX8_thin : z_me mX8_thin 0 := ⟨z_w1 1142 (Eq.refl _) (by decide +kernel), z_w1 104 (Eq.refl _) (by decide +kernel), by decide +kernel, by decide +kernel, by decide +kernel⟩
set_option maxRecDepth 100000 in
theorem znX8_thin : Cond.instanceMethod yX8_thin ∈ z_tb := z_w1 1140 (Eq.refl _) (by decide +kernel)
set_option maxRecDepth 100000 in
theorem zsX8_thin : Cond.selects RX8 yX8_thin yX8_thin ∈ z_tb := z_w1 1141 (Eq.refl _) (by decide +kernel)
set_option maxRecDepth 100000 in
theorem zmX8_pinAll : z_me mX8_pinAll 0 := ⟨z_w1 1150 (Eq.refl _) (by decide +kernel), z_w1 104 (Eq.refl _) (by decide +kernel), by decide +kernel, by decide +kernel, by decide +kernel⟩
set_option maxRecDepth 100000 in
theorem znX8_pinAll : Cond.instanceMethod yX8_pinAll ∈ z_tb := z_w1 1148 (Eq.refl _) (by decide +kernel)
set_option maxRecDepth 100000 in
theorem zsX8_pinAll : Cond.selects RX8 yX8_pinAll yX8_pinAll ∈ z_tb := z_w1 1149 (Eq.refl _) (by decide +kernel)
set_option maxRecDepth 100000 in
theorem zmX8_keep : z_me mX8_keep 1 := ⟨z_w1 1393 (Eq.refl _) (by decide +kernel), z_w1 104 (Eq.refl _) (by decide +kernel), by decide +kernel, by decide +kernel, by decide +kernel⟩
set_option maxRecDepth 100000 in
theorem znX8_keep : Cond.instanceMethod yX8_keep ∈ z_tb := z_w1 1391 (Eq.refl _) (by decide +kernel)
set_option maxRecDepth 100000 in
theorem zsX8_keep : Cond.selects RX8 yX8_keep yX8_keep ∈ z_tb := z_w1 1392 (Eq.refl _) (by decide +kernel)
set_option maxRecDepth 100000 in
theorem zmX8_restore : z_me mX8_restore 1 := ⟨z_w1 1400 (Eq.refl _) (by decide +kernel), z_w1 104 (Eq.refl _) (by decide +kernel), by decide +kernel, by decide +kernel, by decide +kernel⟩
set_option maxRecDepth 100000 in
theorem znX8_restore : Cond.instanceMethod yX8_restore ∈ z_tb := z_w1 1398 (Eq.refl _) (by decide +kernel)
set_option maxRecDepth 100000 in
theorem zsX8_restore : Cond.selects RX8 yX8_restore yX8_restore ∈ z_tb := z_w1 1399 (Eq.refl _) (by decide +kernel)
set_option maxRecDepth 100000 in
theorem zmX8_undo : z_me mX8_undo 0 := ⟨z_w1 1334 (Eq.refl _) (by decide +kernel), z_w1 104 (Eq.refl _) (by decide +kernel), by decide +kernel, by decide +kernel, by decide +kernel⟩
set_option maxRecDepth 100000 in
theorem znX8_undo : Cond.instanceMethod yX8_undo ∈ z_tb := z_w1 1332 (Eq.refl _) (by decide +kernel)
set_option maxRecDepth 100000 in
theorem zsX8_undo : Cond.selects RX8 yX8_undo yX8_undo ∈ z_tb := z_w1 1333 (Eq.refl _) (by decide +kernel)
set_option maxRecDepth 100000 in
theorem zmX8_value : z_me mX8_value 1 := ⟨z_w1 963 (Eq.refl _) (by decide +kernel), z_w1 104 (Eq.refl _) (by decide +kernel), by decide +kernel, by decide +kernel, by decide +kernel⟩
set_option maxRecDepth 100000 in
theorem znX8_value : Cond.instanceMethod yX8_value ∈ z_tb := z_w1 961 (Eq.refl _) (by decide +kernel)
set_option maxRecDepth 100000 in
theorem zsX8_value : Cond.selects RX8 yX8_value yX8_value ∈ z_tb := z_w1 962 (Eq.refl _) (by decide +kernel)
set_option maxRecDepth 100000 in
theorem zmX8_letter : z_me mX8_letter 2 := ⟨z_w1 1265 (Eq.refl _) (by decide +kernel), z_w1 104 (Eq.refl _) (by decide +kernel), by decide +kernel, by decide +kernel, by decide +kernel⟩
set_option maxRecDepth 100000 in
theorem znX8_letter : Cond.instanceMethod yX8_letter ∈ z_tb := z_w1 1263 (Eq.refl _) (by decide +kernel)
set_option maxRecDepth 100000 in
theorem zsX8_letter : Cond.selects RX8 yX8_letter yX8_letter ∈ z_tb := z_w1 1264 (Eq.refl _) (by decide +kernel)
set_option maxRecDepth 100000 in
theorem zmX8_gap : z_me mX8_gap 2 := ⟨z_w1 1178 (Eq.refl _) (by decide +kernel), z_w1 104 (Eq.refl _) (by decide +kernel), by decide +kernel, by decide +kernel, by decide +kernel⟩
set_option maxRecDepth 100000 in
theorem znX8_gap : Cond.instanceMethod yX8_gap ∈ z_tb := z_w1 1176 (Eq.refl _) (by decide +kernel)
set_option maxRecDepth 100000 in
theorem zsX8_gap : Cond.selects RX8 yX8_gap yX8_gap ∈ z_tb := z_w1 1177 (Eq.refl _) (by decide +kernel)
set_option maxRecDepth 100000 in
theorem zmX8_event : z_me mX8_event 2 := ⟨z_w1 1185 (Eq.refl _) (by decide +kernel), z_w1 104 (Eq.refl _) (by decide +kernel), by decide +kernel, by decide +kernel, by decide +kernel⟩
set_option maxRecDepth 100000 in
theorem znX8_event : Cond.instanceMethod yX8_event ∈ z_tb := z_w1 1183 (Eq.refl _) (by decide +kernel)
set_option maxRecDepth 100000 in
theorem zsX8_event : Cond.selects RX8 yX8_event yX8_event ∈ z_tb := z_w1 1184 (Eq.refl _) (by decide +kernel)
set_option maxRecDepth 100000 in
theorem zmX8_bound : z_me mX8_bound 2 := ⟨z_w1 1208 (Eq.refl _) (by decide +kernel), z_w1 104 (Eq.refl _) (by decide +kernel), by decide +kernel, by decide +kernel, by decide +kernel⟩
set_option maxRecDepth 100000 in
theorem znX8_bound : Cond.instanceMethod yX8_bound ∈ z_tb := z_w1 1206 (Eq.refl _) (by decide +kernel)
set_option maxRecDepth 100000 in
theorem zsX8_bound : Cond.selects RX8 yX8_bound yX8_bound ∈ z_tb := z_w1 1207 (Eq.refl _) (by decide +kernel)
set_option maxRecDepth 100000 in
theorem zmX8_way : z_me mX8_way 3 := ⟨z_w1 1224 (Eq.refl _) (by decide +kernel), z_w1 104 (Eq.refl _) (by decide +kernel), by decide +kernel, by decide +kernel, by decide +kernel⟩
set_option maxRecDepth 100000 in
theorem znX8_way : Cond.instanceMethod yX8_way ∈ z_tb := z_w1 1222 (Eq.refl _) (by decide +kernel)
set_option maxRecDepth 100000 in
theorem zsX8_way : Cond.selects RX8 yX8_way yX8_way ∈ z_tb := z_w1 1223 (Eq.refl _) (by decide +kernel)
set_option maxRecDepth 100000 in
theorem zmX8_wayLength : z_me mX8_wayLength 2 := ⟨z_w1 1213 (Eq.refl _) (by decide +kernel), z_w1 104 (Eq.refl _) (by decide +kernel), by decide +kernel, by decide +kernel, by decide +kernel⟩
set_option maxRecDepth 100000 in
theorem znX8_wayLength : Cond.instanceMethod yX8_wayLength ∈ z_tb := z_w1 1211 (Eq.refl _) (by decide +kernel)
set_option maxRecDepth 100000 in
theorem zsX8_wayLength : Cond.selects RX8 yX8_wayLength yX8_wayLength ∈ z_tb := z_w1 1212 (Eq.refl _) (by decide +kernel)
set_option maxRecDepth 100000 in
theorem zmX8_relation : z_me mX8_relation 2 := ⟨z_w1 1239 (Eq.refl _) (by decide +kernel), z_w1 104 (Eq.refl _) (by decide +kernel), by decide +kernel, by decide +kernel, by decide +kernel⟩
set_option maxRecDepth 100000 in
theorem znX8_relation : Cond.instanceMethod yX8_relation ∈ z_tb := z_w1 1237 (Eq.refl _) (by decide +kernel)
set_option maxRecDepth 100000 in
theorem zsX8_relation : Cond.selects RX8 yX8_relation yX8_relation ∈ z_tb := z_w1 1238 (Eq.refl _) (by decide +kernel)
set_option maxRecDepth 100000 in
theorem zmX8_play : z_me mX8_play 2 := ⟨z_w1 1247 (Eq.refl _) (by decide +kernel), z_w1 104 (Eq.refl _) (by decide +kernel), by decide +kernel, by decide +kernel, by decide +kernel⟩
set_option maxRecDepth 100000 in
theorem znX8_play : Cond.instanceMethod yX8_play ∈ z_tb := z_w1 1245 (Eq.refl _) (by decide +kernel)
set_option maxRecDepth 100000 in
theorem zsX8_play : Cond.selects RX8 yX8_play yX8_play ∈ z_tb := z_w1 1246 (Eq.refl _) (by decide +kernel)
set_option maxRecDepth 100000 in
theorem zmX8_pairs : z_me mX8_pairs 1 := ⟨z_w1 1405 (Eq.refl _) (by decide +kernel), z_w1 104 (Eq.refl _) (by decide +kernel), by decide +kernel, by decide +kernel, by decide +kernel⟩
set_option maxRecDepth 100000 in
theorem znX8_pairs : Cond.instanceMethod yX8_pairs ∈ z_tb := z_w1 1403 (Eq.refl _) (by decide +kernel)
set_option maxRecDepth 100000 in
theorem zsX8_pairs : Cond.selects RX8 yX8_pairs yX8_pairs ∈ z_tb := z_w1 1404 (Eq.refl _) (by decide +kernel)
set_option maxRecDepth 100000 in
theorem zmX8_ordered : z_me mX8_ordered 1 := ⟨z_w1 1370 (Eq.refl _) (by decide +kernel), z_w1 104 (Eq.refl _) (by decide +kernel), by decide +kernel, by decide +kernel, by decide +kernel⟩
set_option maxRecDepth 100000 in
theorem znX8_ordered : Cond.instanceMethod yX8_ordered ∈ z_tb := z_w1 1368 (Eq.refl _) (by decide +kernel)
set_option maxRecDepth 100000 in
theorem zsX8_ordered : Cond.selects RX8 yX8_ordered yX8_ordered ∈ z_tb := z_w1 1369 (Eq.refl _) (by decide +kernel)
set_option maxRecDepth 100000 in
theorem zmX8_middle : z_me mX8_middle 1 := ⟨z_w1 1199 (Eq.refl _) (by decide +kernel), z_w1 104 (Eq.refl _) (by decide +kernel), by decide +kernel, by decide +kernel, by decide +kernel⟩
set_option maxRecDepth 100000 in
theorem znX8_middle : Cond.instanceMethod yX8_middle ∈ z_tb := z_w1 1197 (Eq.refl _) (by decide +kernel)
set_option maxRecDepth 100000 in
theorem zsX8_middle : Cond.selects RX8 yX8_middle yX8_middle ∈ z_tb := z_w1 1198 (Eq.refl _) (by decide +kernel)
set_option maxRecDepth 100000 in
theorem zmX8_lastly : z_me mX8_lastly 1 := ⟨z_w1 1382 (Eq.refl _) (by decide +kernel), z_w1 104 (Eq.refl _) (by decide +kernel), by decide +kernel, by decide +kernel, by decide +kernel⟩
set_option maxRecDepth 100000 in
theorem znX8_lastly : Cond.instanceMethod yX8_lastly ∈ z_tb := z_w1 1380 (Eq.refl _) (by decide +kernel)
set_option maxRecDepth 100000 in
theorem zsX8_lastly : Cond.selects RX8 yX8_lastly yX8_lastly ∈ z_tb := z_w1 1381 (Eq.refl _) (by decide +kernel)
set_option maxRecDepth 100000 in
theorem zmX8_can : z_me mX8_can 2 := ⟨z_w1 1204 (Eq.refl _) (by decide +kernel), z_w1 104 (Eq.refl _) (by decide +kernel), by decide +kernel, by decide +kernel, by decide +kernel⟩
set_option maxRecDepth 100000 in
theorem znX8_can : Cond.instanceMethod yX8_can ∈ z_tb := z_w1 1202 (Eq.refl _) (by decide +kernel)
set_option maxRecDepth 100000 in
theorem zsX8_can : Cond.selects RX8 yX8_can yX8_can ∈ z_tb := z_w1 1203 (Eq.refl _) (by decide +kernel)
set_option maxRecDepth 100000 in
theorem zmX8_freest : z_me mX8_freest 0 := ⟨z_w1 1378 (Eq.refl _) (by decide +kernel), z_w1 104 (Eq.refl _) (by decide +kernel), by decide +kernel, by decide +kernel, by decide +kernel⟩
set_option maxRecDepth 100000 in
theorem znX8_freest : Cond.instanceMethod yX8_freest ∈ z_tb := z_w1 1376 (Eq.refl _) (by decide +kernel)
set_option maxRecDepth 100000 in
theorem zsX8_freest : Cond.selects RX8 yX8_freest yX8_freest ∈ z_tb := z_w1 1377 (Eq.refl _) (by decide +kernel)
set_option maxRecDepth 100000 in
theorem zmX8_why : z_me mX8_why 5 := ⟨z_w1 1281 (Eq.refl _) (by decide +kernel), z_w1 104 (Eq.refl _) (by decide +kernel), by decide +kernel, by decide +kernel, by decide +kernel⟩
set_option maxRecDepth 100000 in
theorem znX8_why : Cond.instanceMethod yX8_why ∈ z_tb := z_w1 1279 (Eq.refl _) (by decide +kernel)
set_option maxRecDepth 100000 in
theorem zsX8_why : Cond.selects RX8 yX8_why yX8_why ∈ z_tb := z_w1 1280 (Eq.refl _) (by decide +kernel)
set_option maxRecDepth 100000 in
theorem zmX8_ring : z_me mX8_ring 5 := ⟨z_w1 1330 (Eq.refl _) (by decide +kernel), z_w1 104 (Eq.refl _) (by decide +kernel), by decide +kernel, by decide +kernel, by decide +kernel⟩
set_option maxRecDepth 100000 in
theorem znX8_ring : Cond.instanceMethod yX8_ring ∈ z_tb := z_w1 1328 (Eq.refl _) (by decide +kernel)
set_option maxRecDepth 100000 in
theorem zsX8_ring : Cond.selects RX8 yX8_ring yX8_ring ∈ z_tb := z_w1 1329 (Eq.refl _) (by decide +kernel)
set_option maxRecDepth 100000 in
theorem zmX8_culprit : z_me mX8_culprit 4 := ⟨z_w1 1313 (Eq.refl _) (by decide +kernel), z_w1 104 (Eq.refl _) (by decide +kernel), by decide +kernel, by decide +kernel, by decide +kernel⟩
set_option maxRecDepth 100000 in
theorem znX8_culprit : Cond.instanceMethod yX8_culprit ∈ z_tb := z_w1 1311 (Eq.refl _) (by decide +kernel)
set_option maxRecDepth 100000 in
theorem zsX8_culprit : Cond.selects RX8 yX8_culprit yX8_culprit ∈ z_tb := z_w1 1312 (Eq.refl _) (by decide +kernel)
set_option maxRecDepth 100000 in
theorem zmX8_tightest : z_me mX8_tightest 3 := ⟨z_w1 1317 (Eq.refl _) (by decide +kernel), z_w1 104 (Eq.refl _) (by decide +kernel), by decide +kernel, by decide +kernel, by decide +kernel⟩
set_option maxRecDepth 100000 in
theorem znX8_tightest : Cond.instanceMethod yX8_tightest ∈ z_tb := z_w1 1315 (Eq.refl _) (by decide +kernel)
set_option maxRecDepth 100000 in
theorem zsX8_tightest : Cond.selects RX8 yX8_tightest yX8_tightest ∈ z_tb := z_w1 1316 (Eq.refl _) (by decide +kernel)
set_option maxRecDepth 100000 in
theorem zmX8_spare : z_me mX8_spare 1 := ⟨z_w1 1342 (Eq.refl _) (by decide +kernel), z_w1 104 (Eq.refl _) (by decide +kernel), by decide +kernel, by decide +kernel, by decide +kernel⟩
set_option maxRecDepth 100000 in
theorem znX8_spare : Cond.instanceMethod yX8_spare ∈ z_tb := z_w1 1340 (Eq.refl _) (by decide +kernel)
set_option maxRecDepth 100000 in
theorem zsX8_spare : Cond.selects RX8 yX8_spare yX8_spare ∈ z_tb := z_w1 1341 (Eq.refl _) (by decide +kernel)
set_option maxRecDepth 100000 in
theorem zmX8_needless : z_me mX8_needless 0 := ⟨z_w1 1366 (Eq.refl _) (by decide +kernel), z_w1 104 (Eq.refl _) (by decide +kernel), by decide +kernel, by decide +kernel, by decide +kernel⟩
set_option maxRecDepth 100000 in
theorem znX8_needless : Cond.instanceMethod yX8_needless ∈ z_tb := z_w1 1364 (Eq.refl _) (by decide +kernel)
set_option maxRecDepth 100000 in
theorem zsX8_needless : Cond.selects RX8 yX8_needless yX8_needless ∈ z_tb := z_w1 1365 (Eq.refl _) (by decide +kernel)
set_option maxRecDepth 100000 in
theorem zmX8_needs : z_me mX8_needs 1 := ⟨z_w1 1409 (Eq.refl _) (by decide +kernel), z_w1 104 (Eq.refl _) (by decide +kernel), by decide +kernel, by decide +kernel, by decide +kernel⟩
set_option maxRecDepth 100000 in
theorem znX8_needs : Cond.instanceMethod yX8_needs ∈ z_tb := z_w1 1407 (Eq.refl _) (by decide +kernel)
set_option maxRecDepth 100000 in
theorem zsX8_needs : Cond.selects RX8 yX8_needs yX8_needs ∈ z_tb := z_w1 1408 (Eq.refl _) (by decide +kernel)
set_option maxRecDepth 100000 in
theorem zmX8_ifTold : z_me mX8_ifTold 5 := ⟨z_w1 1293 (Eq.refl _) (by decide +kernel), z_w1 104 (Eq.refl _) (by decide +kernel), by decide +kernel, by decide +kernel, by decide +kernel⟩
set_option maxRecDepth 100000 in
theorem znX8_ifTold : Cond.instanceMethod yX8_ifTold ∈ z_tb := z_w1 1291 (Eq.refl _) (by decide +kernel)
set_option maxRecDepth 100000 in
theorem zsX8_ifTold : Cond.selects RX8 yX8_ifTold yX8_ifTold ∈ z_tb := z_w1 1292 (Eq.refl _) (by decide +kernel)
set_option maxRecDepth 100000 in
theorem zmX8_ifDropped : z_me mX8_ifDropped 2 := ⟨z_w1 1362 (Eq.refl _) (by decide +kernel), z_w1 104 (Eq.refl _) (by decide +kernel), by decide +kernel, by decide +kernel, by decide +kernel⟩
set_option maxRecDepth 100000 in
theorem znX8_ifDropped : Cond.instanceMethod yX8_ifDropped ∈ z_tb := z_w1 1360 (Eq.refl _) (by decide +kernel)
set_option maxRecDepth 100000 in
theorem zsX8_ifDropped : Cond.selects RX8 yX8_ifDropped yX8_ifDropped ∈ z_tb := z_w1 1361 (Eq.refl _) (by decide +kernel)
set_option maxRecDepth 100000 in
theorem zmX8_ifTurned : z_me mX8_ifTurned 2 := ⟨z_w1 1357 (Eq.refl _) (by decide +kernel), z_w1 104 (Eq.refl _) (by decide +kernel), by decide +kernel, by decide +kernel, by decide +kernel⟩
set_option maxRecDepth 100000 in
theorem znX8_ifTurned : Cond.instanceMethod yX8_ifTurned ∈ z_tb := z_w1 1355 (Eq.refl _) (by decide +kernel)
set_option maxRecDepth 100000 in
theorem zsX8_ifTurned : Cond.selects RX8 yX8_ifTurned yX8_ifTurned ∈ z_tb := z_w1 1356 (Eq.refl _) (by decide +kernel)
set_option maxRecDepth 100000 in
theorem zmX8_ifPinned : z_me mX8_ifPinned 3 := ⟨z_w1 1353 (Eq.refl _) (by decide +kernel), z_w1 104 (Eq.refl _) (by decide +kernel), by decide +kernel, by decide +kernel, by decide +kernel⟩
set_option maxRecDepth 100000 in
theorem znX8_ifPinned : Cond.instanceMethod yX8_ifPinned ∈ z_tb := z_w1 1351 (Eq.refl _) (by decide +kernel)
set_option maxRecDepth 100000 in
theorem zsX8_ifPinned : Cond.selects RX8 yX8_ifPinned yX8_ifPinned ∈ z_tb := z_w1 1352 (Eq.refl _) (by decide +kernel)
set_option maxRecDepth 100000 in
theorem zmX8_leastEnd : z_me mX8_leastEnd 0 := ⟨z_w1 1349 (Eq.refl _) (by decide +kernel), z_w1 104 (Eq.refl _) (by decide +kernel), by decide +kernel, by decide +kernel, by decide +kernel⟩
set_option maxRecDepth 100000 in
theorem znX8_leastEnd : Cond.instanceMethod yX8_leastEnd ∈ z_tb := z_w1 1347 (Eq.refl _) (by decide +kernel)
set_option maxRecDepth 100000 in
theorem zsX8_leastEnd : Cond.selects RX8 yX8_leastEnd yX8_leastEnd ∈ z_tb := z_w1 1348 (Eq.refl _) (by decide +kernel)
set_option maxRecDepth 100000 in
theorem zmX8_log : z_me mX8_log 2 := ⟨z_w1 1270 (Eq.refl _) (by decide +kernel), z_w1 104 (Eq.refl _) (by decide +kernel), by decide +kernel, by decide +kernel, by decide +kernel⟩
set_option maxRecDepth 100000 in
theorem znX8_log : Cond.instanceMethod yX8_log ∈ z_tb := z_w1 1268 (Eq.refl _) (by decide +kernel)
set_option maxRecDepth 100000 in
theorem zsX8_log : Cond.selects RX8 yX8_log yX8_log ∈ z_tb := z_w1 1269 (Eq.refl _) (by decide +kernel)
set_option maxRecDepth 100000 in
theorem zmX8_tightShare : z_me mX8_tightShare 0 := ⟨z_w1 1255 (Eq.refl _) (by decide +kernel), z_w1 104 (Eq.refl _) (by decide +kernel), by decide +kernel, by decide +kernel, by decide +kernel⟩
set_option maxRecDepth 100000 in
theorem znX8_tightShare : Cond.instanceMethod yX8_tightShare ∈ z_tb := z_w1 1253 (Eq.refl _) (by decide +kernel)
set_option maxRecDepth 100000 in
theorem zsX8_tightShare : Cond.selects RX8 yX8_tightShare yX8_tightShare ∈ z_tb := z_w1 1254 (Eq.refl _) (by decide +kernel)
set_option maxRecDepth 100000 in
theorem zmX8_meanRoom : z_me mX8_meanRoom 0 := ⟨z_w1 1251 (Eq.refl _) (by decide +kernel), z_w1 104 (Eq.refl _) (by decide +kernel), by decide +kernel, by decide +kernel, by decide +kernel⟩
set_option maxRecDepth 100000 in
theorem znX8_meanRoom : Cond.instanceMethod yX8_meanRoom ∈ z_tb := z_w1 1249 (Eq.refl _) (by decide +kernel)
set_option maxRecDepth 100000 in
theorem zsX8_meanRoom : Cond.selects RX8 yX8_meanRoom yX8_meanRoom ∈ z_tb := z_w1 1250 (Eq.refl _) (by decide +kernel)
set_option maxRecDepth 100000 in
theorem zmX8_listLength : z_me mX8_listLength 0 := ⟨z_w1 1417 (Eq.refl _) (by decide +kernel), z_w1 104 (Eq.refl _) (by decide +kernel), by decide +kernel, by decide +kernel, by decide +kernel⟩
set_option maxRecDepth 100000 in
theorem znX8_listLength : Cond.instanceMethod yX8_listLength ∈ z_tb := z_w1 1415 (Eq.refl _) (by decide +kernel)
set_option maxRecDepth 100000 in
theorem zsX8_listLength : Cond.selects RX8 yX8_listLength yX8_listLength ∈ z_tb := z_w1 1416 (Eq.refl _) (by decide +kernel)
set_option maxRecDepth 100000 in
theorem zmX8_listByte : z_me mX8_listByte 1 := ⟨z_w1 1466 (Eq.refl _) (by decide +kernel), z_w1 104 (Eq.refl _) (by decide +kernel), by decide +kernel, by decide +kernel, by decide +kernel⟩
set_option maxRecDepth 100000 in
theorem znX8_listByte : Cond.instanceMethod yX8_listByte ∈ z_tb := z_w1 1464 (Eq.refl _) (by decide +kernel)
set_option maxRecDepth 100000 in
theorem zsX8_listByte : Cond.selects RX8 yX8_listByte yX8_listByte ∈ z_tb := z_w1 1465 (Eq.refl _) (by decide +kernel)
set_option maxRecDepth 100000 in
theorem zmX8_setupLength : z_me mX8_setupLength 0 := ⟨z_w1 1441 (Eq.refl _) (by decide +kernel), z_w1 104 (Eq.refl _) (by decide +kernel), by decide +kernel, by decide +kernel, by decide +kernel⟩
set_option maxRecDepth 100000 in
theorem znX8_setupLength : Cond.instanceMethod yX8_setupLength ∈ z_tb := z_w1 1439 (Eq.refl _) (by decide +kernel)
set_option maxRecDepth 100000 in
theorem zsX8_setupLength : Cond.selects RX8 yX8_setupLength yX8_setupLength ∈ z_tb := z_w1 1440 (Eq.refl _) (by decide +kernel)
set_option maxRecDepth 100000 in
theorem zmX8_setupByte : z_me mX8_setupByte 1 := ⟨z_w1 1474 (Eq.refl _) (by decide +kernel), z_w1 104 (Eq.refl _) (by decide +kernel), by decide +kernel, by decide +kernel, by decide +kernel⟩
set_option maxRecDepth 100000 in
theorem znX8_setupByte : Cond.instanceMethod yX8_setupByte ∈ z_tb := z_w1 1472 (Eq.refl _) (by decide +kernel)
set_option maxRecDepth 100000 in
theorem zsX8_setupByte : Cond.selects RX8 yX8_setupByte yX8_setupByte ∈ z_tb := z_w1 1473 (Eq.refl _) (by decide +kernel)
set_option maxRecDepth 100000 in
theorem zmX8_isEvent : z_me mX8_isEvent 1 := ⟨z_w1 1046 (Eq.refl _) (by decide +kernel), z_w1 104 (Eq.refl _) (by decide +kernel), by decide +kernel, by decide +kernel, by decide +kernel⟩
set_option maxRecDepth 100000 in
theorem znX8_isEvent : Cond.instanceMethod yX8_isEvent ∈ z_tb := z_w1 1045 (Eq.refl _) (by decide +kernel)
set_option maxRecDepth 100000 in
theorem zsX8_isEvent : Cond.selects RX8 yX8_isEvent yX8_isEvent ∈ z_tb := z_w1 64 (Eq.refl _) (by decide +kernel)
set_option maxRecDepth 100000 in
theorem zmX8_areTwoEvents : z_me mX8_areTwoEvents 2 := ⟨z_w1 1042 (Eq.refl _) (by decide +kernel), z_w1 104 (Eq.refl _) (by decide +kernel), by decide +kernel, by decide +kernel, by decide +kernel⟩
set_option maxRecDepth 100000 in
theorem znX8_areTwoEvents : Cond.instanceMethod yX8_areTwoEvents ∈ z_tb := z_w1 1041 (Eq.refl _) (by decide +kernel)
set_option maxRecDepth 100000 in
theorem zsX8_areTwoEvents : Cond.selects RX8 yX8_areTwoEvents yX8_areTwoEvents ∈ z_tb := z_w1 63 (Eq.refl _) (by decide +kernel)
set_option maxRecDepth 100000 in
theorem zmX8_isGap : z_me mX8_isGap 1 := ⟨z_w1 1075 (Eq.refl _) (by decide +kernel), z_w1 104 (Eq.refl _) (by decide +kernel), by decide +kernel, by decide +kernel, by decide +kernel⟩
set_option maxRecDepth 100000 in
theorem znX8_isGap : Cond.instanceMethod yX8_isGap ∈ z_tb := z_w1 1074 (Eq.refl _) (by decide +kernel)
set_option maxRecDepth 100000 in
theorem zsX8_isGap : Cond.selects RX8 yX8_isGap yX8_isGap ∈ z_tb := z_w1 68 (Eq.refl _) (by decide +kernel)
set_option maxRecDepth 100000 in
theorem zmX8_isTellable : z_me mX8_isTellable 4 := ⟨z_w1 1038 (Eq.refl _) (by decide +kernel), z_w1 104 (Eq.refl _) (by decide +kernel), by decide +kernel, by decide +kernel, by decide +kernel⟩
set_option maxRecDepth 100000 in
theorem znX8_isTellable : Cond.instanceMethod yX8_isTellable ∈ z_tb := z_w1 1037 (Eq.refl _) (by decide +kernel)
set_option maxRecDepth 100000 in
theorem zsX8_isTellable : Cond.selects RX8 yX8_isTellable yX8_isTellable ∈ z_tb := z_w1 62 (Eq.refl _) (by decide +kernel)
set_option maxRecDepth 100000 in
theorem zmX8_isTime : z_me mX8_isTime 1 := ⟨z_w1 1099 (Eq.refl _) (by decide +kernel), z_w1 104 (Eq.refl _) (by decide +kernel), by decide +kernel, by decide +kernel, by decide +kernel⟩
set_option maxRecDepth 100000 in
theorem znX8_isTime : Cond.instanceMethod yX8_isTime ∈ z_tb := z_w1 1098 (Eq.refl _) (by decide +kernel)
set_option maxRecDepth 100000 in
theorem zsX8_isTime : Cond.selects RX8 yX8_isTime yX8_isTime ∈ z_tb := z_w1 71 (Eq.refl _) (by decide +kernel)
set_option maxRecDepth 100000 in
theorem zmX8_isPinnable : z_me mX8_isPinnable 1 := ⟨z_w1 1103 (Eq.refl _) (by decide +kernel), z_w1 104 (Eq.refl _) (by decide +kernel), by decide +kernel, by decide +kernel, by decide +kernel⟩
set_option maxRecDepth 100000 in
theorem znX8_isPinnable : Cond.instanceMethod yX8_isPinnable ∈ z_tb := z_w1 1102 (Eq.refl _) (by decide +kernel)
set_option maxRecDepth 100000 in
theorem zsX8_isPinnable : Cond.selects RX8 yX8_isPinnable yX8_isPinnable ∈ z_tb := z_w1 72 (Eq.refl _) (by decide +kernel)
set_option maxRecDepth 100000 in
theorem zmX8_isNewNameOnTape : z_me mX8_isNewNameOnTape 0 := ⟨z_w1 1160 (Eq.refl _) (by decide +kernel), z_w1 104 (Eq.refl _) (by decide +kernel), by decide +kernel, by decide +kernel, by decide +kernel⟩
set_option maxRecDepth 100000 in
theorem znX8_isNewNameOnTape : Cond.instanceMethod yX8_isNewNameOnTape ∈ z_tb := z_w1 1159 (Eq.refl _) (by decide +kernel)
set_option maxRecDepth 100000 in
theorem zsX8_isNewNameOnTape : Cond.selects RX8 yX8_isNewNameOnTape yX8_isNewNameOnTape ∈ z_tb := z_w1 78 (Eq.refl _) (by decide +kernel)
set_option maxRecDepth 100000 in
theorem zmX8_isKind : z_me mX8_isKind 1 := ⟨z_w1 1049 (Eq.refl _) (by decide +kernel), z_w1 104 (Eq.refl _) (by decide +kernel), by decide +kernel, by decide +kernel, by decide +kernel⟩
set_option maxRecDepth 100000 in
theorem ztX8_isKind : Cond.static yX8_isKind ∈ z_tb := z_w1 1048 (Eq.refl _) (by decide +kernel)
set_option maxRecDepth 100000 in
theorem zmX8_isNumber : z_me mX8_isNumber 1 := ⟨z_w1 1052 (Eq.refl _) (by decide +kernel), z_w1 104 (Eq.refl _) (by decide +kernel), by decide +kernel, by decide +kernel, by decide +kernel⟩
set_option maxRecDepth 100000 in
theorem ztX8_isNumber : Cond.static yX8_isNumber ∈ z_tb := z_w1 1051 (Eq.refl _) (by decide +kernel)
set_option maxRecDepth 100000 in
theorem zmX8_isSlot : z_me mX8_isSlot 1 := ⟨z_w1 1396 (Eq.refl _) (by decide +kernel), z_w1 104 (Eq.refl _) (by decide +kernel), by decide +kernel, by decide +kernel, by decide +kernel⟩
set_option maxRecDepth 100000 in
theorem ztX8_isSlot : Cond.static yX8_isSlot ∈ z_tb := z_w1 1395 (Eq.refl _) (by decide +kernel)
set_option maxRecDepth 100000 in
theorem zmX8_isChange : z_me mX8_isChange 1 := ⟨z_w1 1296 (Eq.refl _) (by decide +kernel), z_w1 104 (Eq.refl _) (by decide +kernel), by decide +kernel, by decide +kernel, by decide +kernel⟩
set_option maxRecDepth 100000 in
theorem ztX8_isChange : Cond.static yX8_isChange ∈ z_tb := z_w1 1295 (Eq.refl _) (by decide +kernel)
set_option maxRecDepth 100000 in
theorem zmX8_asNumber : z_me mX8_asNumber 1 := ⟨z_w1 970 (Eq.refl _) (by decide +kernel), z_w1 104 (Eq.refl _) (by decide +kernel), by decide +kernel, by decide +kernel, by decide +kernel⟩
set_option maxRecDepth 100000 in
theorem ztX8_asNumber : Cond.static yX8_asNumber ∈ z_tb := z_w1 969 (Eq.refl _) (by decide +kernel)
set_option maxRecDepth 100000 in
theorem zmX8_finish : z_me mX8_finish 3 := ⟨z_w1 1067 (Eq.refl _) (by decide +kernel), z_w1 104 (Eq.refl _) (by decide +kernel), by decide +kernel, by decide +kernel, by decide +kernel⟩
set_option maxRecDepth 100000 in
theorem znX8_finish : Cond.instanceMethod yX8_finish ∈ z_tb := z_w1 1066 (Eq.refl _) (by decide +kernel)
set_option maxRecDepth 100000 in
theorem zsX8_finish : Cond.selects RX8 yX8_finish yX8_finish ∈ z_tb := z_w1 67 (Eq.refl _) (by decide +kernel)
set_option maxRecDepth 100000 in
theorem zmX8_beginOf : z_me mX8_beginOf 1 := ⟨z_w1 996 (Eq.refl _) (by decide +kernel), z_w1 104 (Eq.refl _) (by decide +kernel), by decide +kernel, by decide +kernel, by decide +kernel⟩
set_option maxRecDepth 100000 in
theorem znX8_beginOf : Cond.instanceMethod yX8_beginOf ∈ z_tb := z_w1 995 (Eq.refl _) (by decide +kernel)
set_option maxRecDepth 100000 in
theorem zsX8_beginOf : Cond.selects RX8 yX8_beginOf yX8_beginOf ∈ z_tb := z_w1 54 (Eq.refl _) (by decide +kernel)
set_option maxRecDepth 100000 in
theorem zmX8_finishOf : z_me mX8_finishOf 1 := ⟨z_w1 1001 (Eq.refl _) (by decide +kernel), z_w1 104 (Eq.refl _) (by decide +kernel), by decide +kernel, by decide +kernel, by decide +kernel⟩
set_option maxRecDepth 100000 in
theorem znX8_finishOf : Cond.instanceMethod yX8_finishOf ∈ z_tb := z_w1 1000 (Eq.refl _) (by decide +kernel)
set_option maxRecDepth 100000 in
theorem zsX8_finishOf : Cond.selects RX8 yX8_finishOf yX8_finishOf ∈ z_tb := z_w1 55 (Eq.refl _) (by decide +kernel)
set_option maxRecDepth 100000 in
theorem zmX8_lengthOf : z_me mX8_lengthOf 1 := ⟨z_w1 987 (Eq.refl _) (by decide +kernel), z_w1 104 (Eq.refl _) (by decide +kernel), by decide +kernel, by decide +kernel, by decide +kernel⟩
set_option maxRecDepth 100000 in
theorem znX8_lengthOf : Cond.instanceMethod yX8_lengthOf ∈ z_tb := z_w1 986 (Eq.refl _) (by decide +kernel)
set_option maxRecDepth 100000 in
theorem zsX8_lengthOf : Cond.selects RX8 yX8_lengthOf yX8_lengthOf ∈ z_tb := z_w1 52 (Eq.refl _) (by decide +kernel)
set_option maxRecDepth 100000 in
theorem zmX8_boundOf : z_me mX8_boundOf 1 := ⟨z_w1 992 (Eq.refl _) (by decide +kernel), z_w1 104 (Eq.refl _) (by decide +kernel), by decide +kernel, by decide +kernel, by decide +kernel⟩
set_option maxRecDepth 100000 in
theorem znX8_boundOf : Cond.instanceMethod yX8_boundOf ∈ z_tb := z_w1 991 (Eq.refl _) (by decide +kernel)
set_option maxRecDepth 100000 in
theorem zsX8_boundOf : Cond.selects RX8 yX8_boundOf yX8_boundOf ∈ z_tb := z_w1 53 (Eq.refl _) (by decide +kernel)
set_option maxRecDepth 100000 in
theorem zmX8_ringOfGap : z_me mX8_ringOfGap 2 := ⟨z_w1 1087 (Eq.refl _) (by decide +kernel), z_w1 104 (Eq.refl _) (by decide +kernel), by decide +kernel, by decide +kernel, by decide +kernel⟩
set_option maxRecDepth 100000 in
theorem znX8_ringOfGap : Cond.instanceMethod yX8_ringOfGap ∈ z_tb := z_w1 1086 (Eq.refl _) (by decide +kernel)
set_option maxRecDepth 100000 in
theorem zsX8_ringOfGap : Cond.selects RX8 yX8_ringOfGap yX8_ringOfGap ∈ z_tb := z_w1 70 (Eq.refl _) (by decide +kernel)
set_option maxRecDepth 100000 in
theorem zmX8_isTight : z_me mX8_isTight 1 := ⟨z_w1 983 (Eq.refl _) (by decide +kernel), z_w1 104 (Eq.refl _) (by decide +kernel), by decide +kernel, by decide +kernel, by decide +kernel⟩
set_option maxRecDepth 100000 in
theorem znX8_isTight : Cond.instanceMethod yX8_isTight ∈ z_tb := z_w1 982 (Eq.refl _) (by decide +kernel)
set_option maxRecDepth 100000 in
theorem zsX8_isTight : Cond.selects RX8 yX8_isTight yX8_isTight ∈ z_tb := z_w1 51 (Eq.refl _) (by decide +kernel)
set_option maxRecDepth 100000 in
theorem zmX8_isNeeded : z_me mX8_isNeeded 1 := ⟨z_w1 1012 (Eq.refl _) (by decide +kernel), z_w1 104 (Eq.refl _) (by decide +kernel), by decide +kernel, by decide +kernel, by decide +kernel⟩
set_option maxRecDepth 100000 in
theorem znX8_isNeeded : Cond.instanceMethod yX8_isNeeded ∈ z_tb := z_w1 1011 (Eq.refl _) (by decide +kernel)
set_option maxRecDepth 100000 in
theorem zsX8_isNeeded : Cond.selects RX8 yX8_isNeeded yX8_isNeeded ∈ z_tb := z_w1 57 (Eq.refl _) (by decide +kernel)
set_option maxRecDepth 100000 in
theorem zmX8_isLoose : z_me mX8_isLoose 1 := ⟨z_w1 1134 (Eq.refl _) (by decide +kernel), z_w1 104 (Eq.refl _) (by decide +kernel), by decide +kernel, by decide +kernel, by decide +kernel⟩
set_option maxRecDepth 100000 in
theorem znX8_isLoose : Cond.instanceMethod yX8_isLoose ∈ z_tb := z_w1 1133 (Eq.refl _) (by decide +kernel)
set_option maxRecDepth 100000 in
theorem zsX8_isLoose : Cond.selects RX8 yX8_isLoose yX8_isLoose ∈ z_tb := z_w1 75 (Eq.refl _) (by decide +kernel)
set_option maxRecDepth 100000 in
theorem zmX8_tightNumber : z_me mX8_tightNumber 1 := ⟨z_w1 1138 (Eq.refl _) (by decide +kernel), z_w1 104 (Eq.refl _) (by decide +kernel), by decide +kernel, by decide +kernel, by decide +kernel⟩
set_option maxRecDepth 100000 in
theorem znX8_tightNumber : Cond.instanceMethod yX8_tightNumber ∈ z_tb := z_w1 1137 (Eq.refl _) (by decide +kernel)
set_option maxRecDepth 100000 in
theorem zsX8_tightNumber : Cond.selects RX8 yX8_tightNumber yX8_tightNumber ∈ z_tb := z_w1 76 (Eq.refl _) (by decide +kernel)
set_option maxRecDepth 100000 in
theorem zmX8_tightestNumber : z_me mX8_tightestNumber 3 := ⟨z_w1 1321 (Eq.refl _) (by decide +kernel), z_w1 104 (Eq.refl _) (by decide +kernel), by decide +kernel, by decide +kernel, by decide +kernel⟩
set_option maxRecDepth 100000 in
theorem znX8_tightestNumber : Cond.instanceMethod yX8_tightestNumber ∈ z_tb := z_w1 1320 (Eq.refl _) (by decide +kernel)
set_option maxRecDepth 100000 in
theorem zsX8_tightestNumber : Cond.selects RX8 yX8_tightestNumber yX8_tightestNumber ∈ z_tb := z_w1 91 (Eq.refl _) (by decide +kernel)
set_option maxRecDepth 100000 in
theorem zmX8_countTight : z_me mX8_countTight 0 := ⟨z_w1 979 (Eq.refl _) (by decide +kernel), z_w1 104 (Eq.refl _) (by decide +kernel), by decide +kernel, by decide +kernel, by decide +kernel⟩
set_option maxRecDepth 100000 in
theorem znX8_countTight : Cond.instanceMethod yX8_countTight ∈ z_tb := z_w1 978 (Eq.refl _) (by decide +kernel)
set_option maxRecDepth 100000 in
theorem zsX8_countTight : Cond.selects RX8 yX8_countTight yX8_countTight ∈ z_tb := z_w1 50 (Eq.refl _) (by decide +kernel)
set_option maxRecDepth 100000 in
theorem zmX8_countNeeded : z_me mX8_countNeeded 0 := ⟨z_w1 1008 (Eq.refl _) (by decide +kernel), z_w1 104 (Eq.refl _) (by decide +kernel), by decide +kernel, by decide +kernel, by decide +kernel⟩
set_option maxRecDepth 100000 in
theorem znX8_countNeeded : Cond.instanceMethod yX8_countNeeded ∈ z_tb := z_w1 1007 (Eq.refl _) (by decide +kernel)
set_option maxRecDepth 100000 in
theorem zsX8_countNeeded : Cond.selects RX8 yX8_countNeeded yX8_countNeeded ∈ z_tb := z_w1 56 (Eq.refl _) (by decide +kernel)
set_option maxRecDepth 100000 in
theorem zmX8_firstNeedless : z_me mX8_firstNeedless 1 := ⟨z_w1 1146 (Eq.refl _) (by decide +kernel), z_w1 104 (Eq.refl _) (by decide +kernel), by decide +kernel, by decide +kernel, by decide +kernel⟩
set_option maxRecDepth 100000 in
theorem znX8_firstNeedless : Cond.instanceMethod yX8_firstNeedless ∈ z_tb := z_w1 1145 (Eq.refl _) (by decide +kernel)
set_option maxRecDepth 100000 in
theorem zsX8_firstNeedless : Cond.selects RX8 yX8_firstNeedless yX8_firstNeedless ∈ z_tb := z_w1 77 (Eq.refl _) (by decide +kernel)
set_option maxRecDepth 100000 in
theorem zmX8_relationOf : z_me mX8_relationOf 2 := ⟨z_w1 1243 (Eq.refl _) (by decide +kernel), z_w1 104 (Eq.refl _) (by decide +kernel), by decide +kernel, by decide +kernel, by decide +kernel⟩
set_option maxRecDepth 100000 in
theorem znX8_relationOf : Cond.instanceMethod yX8_relationOf ∈ z_tb := z_w1 1242 (Eq.refl _) (by decide +kernel)
set_option maxRecDepth 100000 in
theorem zsX8_relationOf : Cond.selects RX8 yX8_relationOf yX8_relationOf ∈ z_tb := z_w1 84 (Eq.refl _) (by decide +kernel)
set_option maxRecDepth 100000 in
theorem zmX8_stepOfRing : z_me mX8_stepOfRing 4 := ⟨z_w1 1289 (Eq.refl _) (by decide +kernel), z_w1 104 (Eq.refl _) (by decide +kernel), by decide +kernel, by decide +kernel, by decide +kernel⟩
set_option maxRecDepth 100000 in
theorem znX8_stepOfRing : Cond.instanceMethod yX8_stepOfRing ∈ z_tb := z_w1 1288 (Eq.refl _) (by decide +kernel)
set_option maxRecDepth 100000 in
theorem zsX8_stepOfRing : Cond.selects RX8 yX8_stepOfRing yX8_stepOfRing ∈ z_tb := z_w1 87 (Eq.refl _) (by decide +kernel)
set_option maxRecDepth 100000 in
theorem zmX8_tryWithout : z_me mX8_tryWithout 1 := ⟨z_w1 1121 (Eq.refl _) (by decide +kernel), z_w1 104 (Eq.refl _) (by decide +kernel), by decide +kernel, by decide +kernel, by decide +kernel⟩
set_option maxRecDepth 100000 in
theorem znX8_tryWithout : Cond.instanceMethod yX8_tryWithout ∈ z_tb := z_w1 1120 (Eq.refl _) (by decide +kernel)
set_option maxRecDepth 100000 in
theorem zsX8_tryWithout : Cond.selects RX8 yX8_tryWithout yX8_tryWithout ∈ z_tb := z_w1 73 (Eq.refl _) (by decide +kernel)
set_option maxRecDepth 100000 in
theorem zmX8_changeOnTrial : z_me mX8_changeOnTrial 1 := ⟨z_w1 1301 (Eq.refl _) (by decide +kernel), z_w1 104 (Eq.refl _) (by decide +kernel), by decide +kernel, by decide +kernel, by decide +kernel⟩
set_option maxRecDepth 100000 in
theorem znX8_changeOnTrial : Cond.instanceMethod yX8_changeOnTrial ∈ z_tb := z_w1 1300 (Eq.refl _) (by decide +kernel)
set_option maxRecDepth 100000 in
theorem zsX8_changeOnTrial : Cond.selects RX8 yX8_changeOnTrial yX8_changeOnTrial ∈ z_tb := z_w1 88 (Eq.refl _) (by decide +kernel)
set_option maxRecDepth 100000 in
theorem zmX8_stepBegin : z_me mX8_stepBegin 3 := ⟨z_w1 424 (Eq.refl _) (by decide +kernel), z_w1 104 (Eq.refl _) (by decide +kernel), by decide +kernel, by decide +kernel, by decide +kernel⟩
set_option maxRecDepth 100000 in
theorem ztX8_stepBegin : Cond.static yX8_stepBegin ∈ z_tb := z_w1 423 (Eq.refl _) (by decide +kernel)
set_option maxRecDepth 100000 in
theorem zmX8_stepFinish : z_me mX8_stepFinish 3 := ⟨z_w1 427 (Eq.refl _) (by decide +kernel), z_w1 104 (Eq.refl _) (by decide +kernel), by decide +kernel, by decide +kernel, by decide +kernel⟩
set_option maxRecDepth 100000 in
theorem ztX8_stepFinish : Cond.static yX8_stepFinish ∈ z_tb := z_w1 426 (Eq.refl _) (by decide +kernel)
set_option maxRecDepth 100000 in
theorem zmX8_stepLength : z_me mX8_stepLength 2 := ⟨z_w1 430 (Eq.refl _) (by decide +kernel), z_w1 104 (Eq.refl _) (by decide +kernel), by decide +kernel, by decide +kernel, by decide +kernel⟩
set_option maxRecDepth 100000 in
theorem ztX8_stepLength : Cond.static yX8_stepLength ∈ z_tb := z_w1 429 (Eq.refl _) (by decide +kernel)
set_option maxRecDepth 100000 in
theorem zwJ5_init_d00df : z_me (mJ5_init_d00df 0) 1 := ⟨z_w1 893 (Eq.refl _) (by decide +kernel), z_w1 118 (Eq.refl _) (by decide +kernel), by decide +kernel, by decide +kernel, by decide +kernel⟩
theorem zmJ5_init_d00df {k : Nat} : z_me (mJ5_init_d00df k) 1 := zwJ5_init_d00df
set_option maxRecDepth 100000 in
theorem znJ5_init_d00df : Cond.instanceMethod yJ5_init_d00df ∈ z_tb := z_w1 892 (Eq.refl _) (by decide +kernel)
set_option maxRecDepth 100000 in
theorem zwJ5_init_a7421 : z_me (mJ5_init_a7421 0) 1 := ⟨z_w1 718 (Eq.refl _) (by decide +kernel), z_w1 118 (Eq.refl _) (by decide +kernel), by decide +kernel, by decide +kernel, by decide +kernel⟩
theorem zmJ5_init_a7421 {k : Nat} : z_me (mJ5_init_a7421 k) 1 := zwJ5_init_a7421
set_option maxRecDepth 100000 in
theorem znJ5_init_a7421 : Cond.instanceMethod yJ5_init_a7421 ∈ z_tb := z_w1 717 (Eq.refl _) (by decide +kernel)
set_option maxRecDepth 100000 in
theorem zmJ5_length_8abf5 : z_me mJ5_length_8abf5 0 := ⟨z_w1 920 (Eq.refl _) (by decide +kernel), z_w1 118 (Eq.refl _) (by decide +kernel), by decide +kernel, by decide +kernel, by decide +kernel⟩
set_option maxRecDepth 100000 in
theorem znJ5_length_8abf5 : Cond.instanceMethod yJ5_length_8abf5 ∈ z_tb := z_w1 914 (Eq.refl _) (by decide +kernel)
set_option maxRecDepth 100000 in
theorem zwJ5_ensureCapacityInternal_d00df : z_me (mJ5_ensureCapacityInternal_d00df 0) 1 := ⟨z_w1 751 (Eq.refl _) (by decide +kernel), z_w1 118 (Eq.refl _) (by decide +kernel), by decide +kernel, by decide +kernel, by decide +kernel⟩
theorem zmJ5_ensureCapacityInternal_d00df {k : Nat} : z_me (mJ5_ensureCapacityInternal_d00df k) 1 := zwJ5_ensureCapacityInternal_d00df
set_option maxRecDepth 100000 in
theorem znJ5_ensureCapacityInternal_d00df : Cond.instanceMethod yJ5_ensureCapacityInternal_d00df ∈ z_tb := z_w1 750 (Eq.refl _) (by decide +kernel)
set_option maxRecDepth 100000 in
theorem zsJ5_ensureCapacityInternal_d00df : Cond.selects RJ4 yJ5_ensureCapacityInternal_d00df yJ5_ensureCapacityInternal_d00df ∈ z_tb := z_w1 1483 (Eq.refl _) (by decide +kernel)
set_option maxRecDepth 100000 in
theorem zmJ5_newCapacity_0f7a4 : z_me mJ5_newCapacity_0f7a4 1 := ⟨z_w1 755 (Eq.refl _) (by decide +kernel), z_w1 118 (Eq.refl _) (by decide +kernel), by decide +kernel, by decide +kernel, by decide +kernel⟩
set_option maxRecDepth 100000 in
theorem znJ5_newCapacity_0f7a4 : Cond.instanceMethod yJ5_newCapacity_0f7a4 ∈ z_tb := z_w1 754 (Eq.refl _) (by decide +kernel)
set_option maxRecDepth 100000 in
theorem zsJ5_newCapacity_0f7a4 : Cond.selects RJ4 yJ5_newCapacity_0f7a4 yJ5_newCapacity_0f7a4 ∈ z_tb := z_w1 1484 (Eq.refl _) (by decide +kernel)
set_option maxRecDepth 100000 in
theorem zmJ5_inflate_da8c8 : z_me mJ5_inflate_da8c8 0 := ⟨z_w1 810 (Eq.refl _) (by decide +kernel), z_w1 118 (Eq.refl _) (by decide +kernel), by decide +kernel, by decide +kernel, by decide +kernel⟩
set_option maxRecDepth 100000 in
theorem znJ5_inflate_da8c8 : Cond.instanceMethod yJ5_inflate_da8c8 ∈ z_tb := z_w1 809 (Eq.refl _) (by decide +kernel)
set_option maxRecDepth 100000 in
theorem zwJ5_append_cf1ce : z_me (mJ5_append_cf1ce 0) 1 := ⟨z_w1 743 (Eq.refl _) (by decide +kernel), z_w1 118 (Eq.refl _) (by decide +kernel), by decide +kernel, by decide +kernel, by decide +kernel⟩
theorem zmJ5_append_cf1ce {k : Nat} : z_me (mJ5_append_cf1ce k) 1 := zwJ5_append_cf1ce
set_option maxRecDepth 100000 in
theorem znJ5_append_cf1ce : Cond.instanceMethod yJ5_append_cf1ce ∈ z_tb := z_w1 732 (Eq.refl _) (by decide +kernel)
set_option maxRecDepth 100000 in
theorem zmJ5_appendNull_278bc : z_me mJ5_appendNull_278bc 0 := ⟨z_w1 747 (Eq.refl _) (by decide +kernel), z_w1 118 (Eq.refl _) (by decide +kernel), by decide +kernel, by decide +kernel, by decide +kernel⟩
set_option maxRecDepth 100000 in
theorem znJ5_appendNull_278bc : Cond.instanceMethod yJ5_appendNull_278bc ∈ z_tb := z_w1 746 (Eq.refl _) (by decide +kernel)
set_option maxRecDepth 100000 in
theorem zwJ5_append_3fe6f : z_me (mJ5_append_3fe6f 0) 1 := ⟨z_w1 878 (Eq.refl _) (by decide +kernel), z_w1 118 (Eq.refl _) (by decide +kernel), by decide +kernel, by decide +kernel, by decide +kernel⟩
theorem zmJ5_append_3fe6f {k : Nat} : z_me (mJ5_append_3fe6f k) 1 := zwJ5_append_3fe6f
set_option maxRecDepth 100000 in
theorem znJ5_append_3fe6f : Cond.instanceMethod yJ5_append_3fe6f ∈ z_tb := z_w1 877 (Eq.refl _) (by decide +kernel)
set_option maxRecDepth 100000 in
theorem zwJ5_append_c97b9 : z_me (mJ5_append_c97b9 0) 1 := ⟨z_w1 850 (Eq.refl _) (by decide +kernel), z_w1 118 (Eq.refl _) (by decide +kernel), by decide +kernel, by decide +kernel, by decide +kernel⟩
theorem zmJ5_append_c97b9 {k : Nat} : z_me (mJ5_append_c97b9 k) 1 := zwJ5_append_c97b9
set_option maxRecDepth 100000 in
theorem znJ5_append_c97b9 : Cond.instanceMethod yJ5_append_c97b9 ∈ z_tb := z_w1 849 (Eq.refl _) (by decide +kernel)
set_option maxRecDepth 100000 in
theorem zmJ5_getValue_6d5f1 : z_me mJ5_getValue_6d5f1 0 := ⟨z_w1 912 (Eq.refl _) (by decide +kernel), z_w1 118 (Eq.refl _) (by decide +kernel), by decide +kernel, by decide +kernel, by decide +kernel⟩
set_option maxRecDepth 100000 in
theorem znJ5_getValue_6d5f1 : Cond.instanceMethod yJ5_getValue_6d5f1 ∈ z_tb := z_w1 909 (Eq.refl _) (by decide +kernel)
set_option maxRecDepth 100000 in
theorem zsJ5_getValue_6d5f1 : Cond.selects RJ4 yJ5_getValue_6d5f1 yJ5_getValue_6d5f1 ∈ z_tb := z_w1 911 (Eq.refl _) (by decide +kernel)
set_option maxRecDepth 100000 in
theorem zmJ5_isLatin1_aae02 : z_me mJ5_isLatin1_aae02 0 := ⟨z_w1 782 (Eq.refl _) (by decide +kernel), z_w1 118 (Eq.refl _) (by decide +kernel), by decide +kernel, by decide +kernel, by decide +kernel⟩
set_option maxRecDepth 100000 in
theorem znJ5_isLatin1_aae02 : Cond.instanceMethod yJ5_isLatin1_aae02 ∈ z_tb := z_w1 779 (Eq.refl _) (by decide +kernel)
set_option maxRecDepth 100000 in
theorem zsJ5_isLatin1_aae02 : Cond.selects RJ4 yJ5_isLatin1_aae02 yJ5_isLatin1_aae02 ∈ z_tb := z_w1 781 (Eq.refl _) (by decide +kernel)
set_option maxRecDepth 100000 in
theorem zmJ5_inflateIfNeededFor_a7421 : z_me mJ5_inflateIfNeededFor_a7421 1 := ⟨z_w1 806 (Eq.refl _) (by decide +kernel), z_w1 118 (Eq.refl _) (by decide +kernel), by decide +kernel, by decide +kernel, by decide +kernel⟩
set_option maxRecDepth 100000 in
theorem znJ5_inflateIfNeededFor_a7421 : Cond.instanceMethod yJ5_inflateIfNeededFor_a7421 ∈ z_tb := z_w1 805 (Eq.refl _) (by decide +kernel)
set_option maxRecDepth 100000 in
theorem zsJ5_inflateIfNeededFor_a7421 : Cond.selects RJ4 yJ5_inflateIfNeededFor_a7421 yJ5_inflateIfNeededFor_a7421 ∈ z_tb := z_w1 1486 (Eq.refl _) (by decide +kernel)
set_option maxRecDepth 100000 in
theorem zmJ5_putStringAt_47b60 : z_me mJ5_putStringAt_47b60 2 := ⟨z_w1 802 (Eq.refl _) (by decide +kernel), z_w1 118 (Eq.refl _) (by decide +kernel), by decide +kernel, by decide +kernel, by decide +kernel⟩
set_option maxRecDepth 100000 in
theorem znJ5_putStringAt_47b60 : Cond.instanceMethod yJ5_putStringAt_47b60 ∈ z_tb := z_w1 801 (Eq.refl _) (by decide +kernel)
set_option maxRecDepth 100000 in
theorem zsJ5_putStringAt_47b60 : Cond.selects RJ4 yJ5_putStringAt_47b60 yJ5_putStringAt_47b60 ∈ z_tb := z_w1 1485 (Eq.refl _) (by decide +kernel)
set_option maxRecDepth 100000 in
theorem zmJ6_getChars_ba4f3 : z_me mJ6_getChars_ba4f3 3 := ⟨z_w1 856 (Eq.refl _) (by decide +kernel), z_w1 123 (Eq.refl _) (by decide +kernel), by decide +kernel, by decide +kernel, by decide +kernel⟩
set_option maxRecDepth 100000 in
theorem ztJ6_getChars_ba4f3 : Cond.static yJ6_getChars_ba4f3 ∈ z_tb := z_w1 855 (Eq.refl _) (by decide +kernel)
set_option maxRecDepth 100000 in
theorem zmJ6_stringSize_0f7a4 : z_me mJ6_stringSize_0f7a4 1 := ⟨z_w1 853 (Eq.refl _) (by decide +kernel), z_w1 123 (Eq.refl _) (by decide +kernel), by decide +kernel, by decide +kernel, by decide +kernel⟩
set_option maxRecDepth 100000 in
theorem ztJ6_stringSize_0f7a4 : Cond.static yJ6_stringSize_0f7a4 ∈ z_tb := z_w1 852 (Eq.refl _) (by decide +kernel)
set_option maxRecDepth 100000 in
theorem zmJ9_floorDiv_7cf53 : z_me mJ9_floorDiv_7cf53 2 := ⟨z_w1 640 (Eq.refl _) (by decide +kernel), z_w1 117 (Eq.refl _) (by decide +kernel), by decide +kernel, by decide +kernel, by decide +kernel⟩
set_option maxRecDepth 100000 in
theorem ztJ9_floorDiv_7cf53 : Cond.static yJ9_floorDiv_7cf53 ∈ z_tb := z_w1 639 (Eq.refl _) (by decide +kernel)
set_option maxRecDepth 100000 in
theorem zmJ9_floorMod_7cf53 : z_me mJ9_floorMod_7cf53 2 := ⟨z_w1 1220 (Eq.refl _) (by decide +kernel), z_w1 117 (Eq.refl _) (by decide +kernel), by decide +kernel, by decide +kernel, by decide +kernel⟩
set_option maxRecDepth 100000 in
theorem ztJ9_floorMod_7cf53 : Cond.static yJ9_floorMod_7cf53 ∈ z_tb := z_w1 1219 (Eq.refl _) (by decide +kernel)
set_option maxRecDepth 100000 in
theorem zmJ9_abs_0f7a4 : z_me mJ9_abs_0f7a4 1 := ⟨z_w1 1345 (Eq.refl _) (by decide +kernel), z_w1 117 (Eq.refl _) (by decide +kernel), by decide +kernel, by decide +kernel, by decide +kernel⟩
set_option maxRecDepth 100000 in
theorem ztJ9_abs_0f7a4 : Cond.static yJ9_abs_0f7a4 ∈ z_tb := z_w1 1344 (Eq.refl _) (by decide +kernel)
set_option maxRecDepth 100000 in
theorem zmJ9_max_7cf53 : z_me mJ9_max_7cf53 2 := ⟨z_w1 761 (Eq.refl _) (by decide +kernel), z_w1 117 (Eq.refl _) (by decide +kernel), by decide +kernel, by decide +kernel, by decide +kernel⟩
set_option maxRecDepth 100000 in
theorem ztJ9_max_7cf53 : Cond.static yJ9_max_7cf53 ∈ z_tb := z_w1 760 (Eq.refl _) (by decide +kernel)
set_option maxRecDepth 100000 in
theorem zmJ9_min_7cf53 : z_me mJ9_min_7cf53 2 := ⟨z_w1 449 (Eq.refl _) (by decide +kernel), z_w1 117 (Eq.refl _) (by decide +kernel), by decide +kernel, by decide +kernel, by decide +kernel⟩
set_option maxRecDepth 100000 in
theorem ztJ9_min_7cf53 : Cond.static yJ9_min_7cf53 ∈ z_tb := z_w1 448 (Eq.refl _) (by decide +kernel)
set_option maxRecDepth 100000 in
theorem zwJ0_init_81219 : z_me (mJ0_init_81219 0) 1 := ⟨z_w1 903 (Eq.refl _) (by decide +kernel), z_w1 113 (Eq.refl _) (by decide +kernel), by decide +kernel, by decide +kernel, by decide +kernel⟩
theorem zmJ0_init_81219 {k : Nat} : z_me (mJ0_init_81219 k) 1 := zwJ0_init_81219
set_option maxRecDepth 100000 in
theorem znJ0_init_81219 : Cond.instanceMethod yJ0_init_81219 ∈ z_tb := z_w1 902 (Eq.refl _) (by decide +kernel)
set_option maxRecDepth 100000 in
theorem zmJ0_length_8abf5 : z_me mJ0_length_8abf5 0 := ⟨z_w1 369 (Eq.refl _) (by decide +kernel), z_w1 113 (Eq.refl _) (by decide +kernel), by decide +kernel, by decide +kernel, by decide +kernel⟩
set_option maxRecDepth 100000 in
theorem znJ0_length_8abf5 : Cond.instanceMethod yJ0_length_8abf5 ∈ z_tb := z_w1 367 (Eq.refl _) (by decide +kernel)
set_option maxRecDepth 100000 in
theorem zsJ0_length_8abf5 : Cond.selects RJ0 yJ0_length_8abf5 yJ0_length_8abf5 ∈ z_tb := z_w1 368 (Eq.refl _) (by decide +kernel)
set_option maxRecDepth 100000 in
theorem zmJ0_charAt_5068e : z_me mJ0_charAt_5068e 1 := ⟨z_w1 379 (Eq.refl _) (by decide +kernel), z_w1 113 (Eq.refl _) (by decide +kernel), by decide +kernel, by decide +kernel, by decide +kernel⟩
set_option maxRecDepth 100000 in
theorem znJ0_charAt_5068e : Cond.instanceMethod yJ0_charAt_5068e ∈ z_tb := z_w1 377 (Eq.refl _) (by decide +kernel)
set_option maxRecDepth 100000 in
theorem zsJ0_charAt_5068e : Cond.selects RJ0 yJ0_charAt_5068e yJ0_charAt_5068e ∈ z_tb := z_w1 378 (Eq.refl _) (by decide +kernel)
set_option maxRecDepth 100000 in
theorem zmJ0_getBytes_840e7 : z_me mJ0_getBytes_840e7 3 := ⟨z_w1 829 (Eq.refl _) (by decide +kernel), z_w1 113 (Eq.refl _) (by decide +kernel), by decide +kernel, by decide +kernel, by decide +kernel⟩
set_option maxRecDepth 100000 in
theorem znJ0_getBytes_840e7 : Cond.instanceMethod yJ0_getBytes_840e7 ∈ z_tb := z_w1 827 (Eq.refl _) (by decide +kernel)
set_option maxRecDepth 100000 in
theorem zsJ0_getBytes_840e7 : Cond.selects RJ0 yJ0_getBytes_840e7 yJ0_getBytes_840e7 ∈ z_tb := z_w1 828 (Eq.refl _) (by decide +kernel)
set_option maxRecDepth 100000 in
theorem zwJ0_init_db425 : z_me (mJ0_init_db425 0) 2 := ⟨z_w1 906 (Eq.refl _) (by decide +kernel), z_w1 113 (Eq.refl _) (by decide +kernel), by decide +kernel, by decide +kernel, by decide +kernel⟩
theorem zmJ0_init_db425 {k : Nat} : z_me (mJ0_init_db425 k) 2 := zwJ0_init_db425
set_option maxRecDepth 100000 in
theorem znJ0_init_db425 : Cond.instanceMethod yJ0_init_db425 ∈ z_tb := z_w1 905 (Eq.refl _) (by decide +kernel)
set_option maxRecDepth 100000 in
theorem zmJ0_coder_7d493 : z_me mJ0_coder_7d493 0 := ⟨z_w1 373 (Eq.refl _) (by decide +kernel), z_w1 113 (Eq.refl _) (by decide +kernel), by decide +kernel, by decide +kernel, by decide +kernel⟩
set_option maxRecDepth 100000 in
theorem znJ0_coder_7d493 : Cond.instanceMethod yJ0_coder_7d493 ∈ z_tb := z_w1 371 (Eq.refl _) (by decide +kernel)
set_option maxRecDepth 100000 in
theorem zsJ0_coder_7d493 : Cond.selects RJ0 yJ0_coder_7d493 yJ0_coder_7d493 ∈ z_tb := z_w1 372 (Eq.refl _) (by decide +kernel)
set_option maxRecDepth 100000 in
theorem zmJ0_isLatin1_aae02 : z_me mJ0_isLatin1_aae02 0 := ⟨z_w1 383 (Eq.refl _) (by decide +kernel), z_w1 113 (Eq.refl _) (by decide +kernel), by decide +kernel, by decide +kernel, by decide +kernel⟩
set_option maxRecDepth 100000 in
theorem znJ0_isLatin1_aae02 : Cond.instanceMethod yJ0_isLatin1_aae02 ∈ z_tb := z_w1 381 (Eq.refl _) (by decide +kernel)
set_option maxRecDepth 100000 in
theorem zsJ0_isLatin1_aae02 : Cond.selects RJ0 yJ0_isLatin1_aae02 yJ0_isLatin1_aae02 ∈ z_tb := z_w1 382 (Eq.refl _) (by decide +kernel)
set_option maxRecDepth 100000 in
theorem zmJ0_checkIndex_df160 : z_me mJ0_checkIndex_df160 2 := ⟨z_w1 389 (Eq.refl _) (by decide +kernel), z_w1 113 (Eq.refl _) (by decide +kernel), by decide +kernel, by decide +kernel, by decide +kernel⟩
set_option maxRecDepth 100000 in
theorem ztJ0_checkIndex_df160 : Cond.static yJ0_checkIndex_df160 ∈ z_tb := z_w1 388 (Eq.refl _) (by decide +kernel)
set_option maxRecDepth 100000 in
theorem zmJ0_checkBoundsOffCount_cabcc : z_me mJ0_checkBoundsOffCount_cabcc 3 := ⟨z_w1 822 (Eq.refl _) (by decide +kernel), z_w1 113 (Eq.refl _) (by decide +kernel), by decide +kernel, by decide +kernel, by decide +kernel⟩
set_option maxRecDepth 100000 in
theorem ztJ0_checkBoundsOffCount_cabcc : Cond.static yJ0_checkBoundsOffCount_cabcc ∈ z_tb := z_w1 821 (Eq.refl _) (by decide +kernel)
set_option maxRecDepth 100000 in
theorem zmJ0_checkBoundsBeginEnd_23922 : z_me mJ0_checkBoundsBeginEnd_23922 3 := ⟨z_w1 792 (Eq.refl _) (by decide +kernel), z_w1 113 (Eq.refl _) (by decide +kernel), by decide +kernel, by decide +kernel, by decide +kernel⟩
set_option maxRecDepth 100000 in
theorem ztJ0_checkBoundsBeginEnd_23922 : Cond.static yJ0_checkBoundsBeginEnd_23922 ∈ z_tb := z_w1 791 (Eq.refl _) (by decide +kernel)
set_option maxRecDepth 100000 in
theorem zwJ4_init_da8c8 : z_me (mJ4_init_da8c8 0) 0 := ⟨z_w1 890 (Eq.refl _) (by decide +kernel), z_w1 119 (Eq.refl _) (by decide +kernel), by decide +kernel, by decide +kernel, by decide +kernel⟩
theorem zmJ4_init_da8c8 {k : Nat} : z_me (mJ4_init_da8c8 k) 0 := zwJ4_init_da8c8
set_option maxRecDepth 100000 in
theorem znJ4_init_da8c8 : Cond.instanceMethod yJ4_init_da8c8 ∈ z_tb := z_w1 889 (Eq.refl _) (by decide +kernel)
set_option maxRecDepth 100000 in
theorem zwJ4_init_a7421 : z_me (mJ4_init_a7421 0) 1 := ⟨z_w1 715 (Eq.refl _) (by decide +kernel), z_w1 119 (Eq.refl _) (by decide +kernel), by decide +kernel, by decide +kernel, by decide +kernel⟩
theorem zmJ4_init_a7421 {k : Nat} : z_me (mJ4_init_a7421 k) 1 := zwJ4_init_a7421
set_option maxRecDepth 100000 in
theorem znJ4_init_a7421 : Cond.instanceMethod yJ4_init_a7421 ∈ z_tb := z_w1 714 (Eq.refl _) (by decide +kernel)
set_option maxRecDepth 100000 in
theorem zwJ4_append_15ec4 : z_me (mJ4_append_15ec4 0) 1 := ⟨z_w1 740 (Eq.refl _) (by decide +kernel), z_w1 119 (Eq.refl _) (by decide +kernel), by decide +kernel, by decide +kernel, by decide +kernel⟩
theorem zmJ4_append_15ec4 {k : Nat} : z_me (mJ4_append_15ec4 k) 1 := zwJ4_append_15ec4
set_option maxRecDepth 100000 in
theorem znJ4_append_15ec4 : Cond.instanceMethod yJ4_append_15ec4 ∈ z_tb := z_w1 738 (Eq.refl _) (by decide +kernel)
set_option maxRecDepth 100000 in
theorem zsJ4_append_15ec4 : Cond.selects RJ4 yJ4_append_15ec4 yJ4_append_15ec4 ∈ z_tb := z_w1 739 (Eq.refl _) (by decide +kernel)
set_option maxRecDepth 100000 in
theorem zwJ4_append_cf468 : z_me (mJ4_append_cf468 0) 1 := ⟨z_w1 875 (Eq.refl _) (by decide +kernel), z_w1 119 (Eq.refl _) (by decide +kernel), by decide +kernel, by decide +kernel, by decide +kernel⟩
theorem zmJ4_append_cf468 {k : Nat} : z_me (mJ4_append_cf468 k) 1 := zwJ4_append_cf468
set_option maxRecDepth 100000 in
theorem znJ4_append_cf468 : Cond.instanceMethod yJ4_append_cf468 ∈ z_tb := z_w1 873 (Eq.refl _) (by decide +kernel)
set_option maxRecDepth 100000 in
theorem zsJ4_append_cf468 : Cond.selects RJ4 yJ4_append_cf468 yJ4_append_cf468 ∈ z_tb := z_w1 874 (Eq.refl _) (by decide +kernel)
set_option maxRecDepth 100000 in
theorem zwJ4_append_bf812 : z_me (mJ4_append_bf812 0) 1 := ⟨z_w1 847 (Eq.refl _) (by decide +kernel), z_w1 119 (Eq.refl _) (by decide +kernel), by decide +kernel, by decide +kernel, by decide +kernel⟩
theorem zmJ4_append_bf812 {k : Nat} : z_me (mJ4_append_bf812 k) 1 := zwJ4_append_bf812
set_option maxRecDepth 100000 in
theorem znJ4_append_bf812 : Cond.instanceMethod yJ4_append_bf812 ∈ z_tb := z_w1 845 (Eq.refl _) (by decide +kernel)
set_option maxRecDepth 100000 in
theorem zsJ4_append_bf812 : Cond.selects RJ4 yJ4_append_bf812 yJ4_append_bf812 ∈ z_tb := z_w1 846 (Eq.refl _) (by decide +kernel)
set_option maxRecDepth 100000 in
theorem zwJ4_toString_0e30d : z_me (mJ4_toString_0e30d 0) 0 := ⟨z_w1 898 (Eq.refl _) (by decide +kernel), z_w1 119 (Eq.refl _) (by decide +kernel), by decide +kernel, by decide +kernel, by decide +kernel⟩
theorem zmJ4_toString_0e30d {k : Nat} : z_me (mJ4_toString_0e30d k) 0 := zwJ4_toString_0e30d
set_option maxRecDepth 100000 in
theorem znJ4_toString_0e30d : Cond.instanceMethod yJ4_toString_0e30d ∈ z_tb := z_w1 896 (Eq.refl _) (by decide +kernel)
set_option maxRecDepth 100000 in
theorem zsJ4_toString_0e30d : Cond.selects RJ4 yJ4_toString_0e30d yJ4_toString_0e30d ∈ z_tb := z_w1 897 (Eq.refl _) (by decide +kernel)
set_option maxRecDepth 100000 in
theorem zwJ4_append_cf1ce : z_me (mJ4_append_cf1ce 0) 1 := ⟨z_w1 736 (Eq.refl _) (by decide +kernel), z_w1 119 (Eq.refl _) (by decide +kernel), by decide +kernel, by decide +kernel, by decide +kernel⟩
theorem zmJ4_append_cf1ce {k : Nat} : z_me (mJ4_append_cf1ce k) 1 := zwJ4_append_cf1ce
set_option maxRecDepth 100000 in
theorem znJ4_append_cf1ce : Cond.instanceMethod yJ4_append_cf1ce ∈ z_tb := z_w1 735 (Eq.refl _) (by decide +kernel)
set_option maxRecDepth 100000 in
theorem zmJ4_length_8abf5 : z_me mJ4_length_8abf5 0 := ⟨z_w1 918 (Eq.refl _) (by decide +kernel), z_w1 119 (Eq.refl _) (by decide +kernel), by decide +kernel, by decide +kernel, by decide +kernel⟩
set_option maxRecDepth 100000 in
theorem znJ4_length_8abf5 : Cond.instanceMethod yJ4_length_8abf5 ∈ z_tb := z_w1 917 (Eq.refl _) (by decide +kernel)
set_option maxRecDepth 100000 in
theorem zmJ1_charAt_3b067 : z_me mJ1_charAt_3b067 2 := ⟨z_w1 386 (Eq.refl _) (by decide +kernel), z_w1 114 (Eq.refl _) (by decide +kernel), by decide +kernel, by decide +kernel, by decide +kernel⟩
set_option maxRecDepth 100000 in
theorem ztJ1_charAt_3b067 : Cond.static yJ1_charAt_3b067 ∈ z_tb := z_w1 385 (Eq.refl _) (by decide +kernel)
set_option maxRecDepth 100000 in
theorem zmJ1_canEncode_fc78d : z_me mJ1_canEncode_fc78d 1 := ⟨z_w1 881 (Eq.refl _) (by decide +kernel), z_w1 114 (Eq.refl _) (by decide +kernel), by decide +kernel, by decide +kernel, by decide +kernel⟩
set_option maxRecDepth 100000 in
theorem ztJ1_canEncode_fc78d : Cond.static yJ1_canEncode_fc78d ∈ z_tb := z_w1 880 (Eq.refl _) (by decide +kernel)
set_option maxRecDepth 100000 in
theorem zmJ1_inflate_0e8fd : z_me mJ1_inflate_0e8fd 5 := ⟨z_w1 813 (Eq.refl _) (by decide +kernel), z_w1 114 (Eq.refl _) (by decide +kernel), by decide +kernel, by decide +kernel, by decide +kernel⟩
set_option maxRecDepth 100000 in
theorem ztJ1_inflate_0e8fd : Cond.static yJ1_inflate_0e8fd ∈ z_tb := z_w1 812 (Eq.refl _) (by decide +kernel)
set_option maxRecDepth 100000 in
theorem zwJ7_copyOf_9075b : z_me (mJ7_copyOf_9075b 0) 2 := ⟨z_w1 768 (Eq.refl _) (by decide +kernel), z_w1 121 (Eq.refl _) (by decide +kernel), by decide +kernel, by decide +kernel, by decide +kernel⟩
theorem zmJ7_copyOf_9075b {k : Nat} : z_me (mJ7_copyOf_9075b k) 2 := zwJ7_copyOf_9075b
set_option maxRecDepth 100000 in
theorem ztJ7_copyOf_9075b : Cond.static yJ7_copyOf_9075b ∈ z_tb := z_w1 767 (Eq.refl _) (by decide +kernel)
set_option maxRecDepth 100000 in
theorem zmJ7_checkLength_df160 : z_me mJ7_checkLength_df160 2 := ⟨z_w1 930 (Eq.refl _) (by decide +kernel), z_w1 121 (Eq.refl _) (by decide +kernel), by decide +kernel, by decide +kernel, by decide +kernel⟩
set_option maxRecDepth 100000 in
theorem ztJ7_checkLength_df160 : Cond.static yJ7_checkLength_df160 ∈ z_tb := z_w1 929 (Eq.refl _) (by decide +kernel)
set_option maxRecDepth 100000 in
theorem zwJ7_copyOfRange_39247 : z_me (mJ7_copyOfRange_39247 0) 3 := ⟨z_w1 924 (Eq.refl _) (by decide +kernel), z_w1 121 (Eq.refl _) (by decide +kernel), by decide +kernel, by decide +kernel, by decide +kernel⟩
theorem zmJ7_copyOfRange_39247 {k : Nat} : z_me (mJ7_copyOfRange_39247 k) 3 := zwJ7_copyOfRange_39247
set_option maxRecDepth 100000 in
theorem ztJ7_copyOfRange_39247 : Cond.static yJ7_copyOfRange_39247 ∈ z_tb := z_w1 923 (Eq.refl _) (by decide +kernel)
set_option maxRecDepth 100000 in
theorem zwJ7_copyOfRangeByte_39247 : z_me (mJ7_copyOfRangeByte_39247 0) 3 := ⟨z_w1 927 (Eq.refl _) (by decide +kernel), z_w1 121 (Eq.refl _) (by decide +kernel), by decide +kernel, by decide +kernel, by decide +kernel⟩
theorem zmJ7_copyOfRangeByte_39247 {k : Nat} : z_me (mJ7_copyOfRangeByte_39247 k) 3 := zwJ7_copyOfRangeByte_39247
set_option maxRecDepth 100000 in
theorem ztJ7_copyOfRangeByte_39247 : Cond.static yJ7_copyOfRangeByte_39247 ∈ z_tb := z_w1 926 (Eq.refl _) (by decide +kernel)
set_option maxRecDepth 100000 in
theorem zmJ8_newLength_cabcc : z_me mJ8_newLength_cabcc 3 := ⟨z_w1 758 (Eq.refl _) (by decide +kernel), z_w1 120 (Eq.refl _) (by decide +kernel), by decide +kernel, by decide +kernel, by decide +kernel⟩
set_option maxRecDepth 100000 in
theorem ztJ8_newLength_cabcc : Cond.static yJ8_newLength_cabcc ∈ z_tb := z_w1 757 (Eq.refl _) (by decide +kernel)
set_option maxRecDepth 100000 in
theorem zmJ8_hugeLength_7cf53 : z_me mJ8_hugeLength_7cf53 2 := ⟨z_w1 765 (Eq.refl _) (by decide +kernel), z_w1 120 (Eq.refl _) (by decide +kernel), by decide +kernel, by decide +kernel, by decide +kernel⟩
set_option maxRecDepth 100000 in
theorem ztJ8_hugeLength_7cf53 : Cond.static yJ8_hugeLength_7cf53 ∈ z_tb := z_w1 764 (Eq.refl _) (by decide +kernel)
set_option maxRecDepth 100000 in
theorem zmJ3_checkIndex_8e157 : z_me mJ3_checkIndex_8e157 3 := ⟨z_w1 394 (Eq.refl _) (by decide +kernel), z_w1 115 (Eq.refl _) (by decide +kernel), by decide +kernel, by decide +kernel, by decide +kernel⟩
set_option maxRecDepth 100000 in
theorem ztJ3_checkIndex_8e157 : Cond.static yJ3_checkIndex_8e157 ∈ z_tb := z_w1 393 (Eq.refl _) (by decide +kernel)
set_option maxRecDepth 100000 in
theorem zmL_draw : z_me mL_draw 1 := ⟨z_w1 708 (Eq.refl _) (by decide +kernel), z_w1 103 (Eq.refl _) (by decide +kernel), by decide +kernel, by decide +kernel, by decide +kernel⟩
set_option maxRecDepth 100000 in
theorem ztL_draw : Cond.static yL_draw ∈ z_tb := z_w1 707 (Eq.refl _) (by decide +kernel)
set_option maxRecDepth 100000 in
theorem zmL_write : z_me mL_write 2 := ⟨z_w1 488 (Eq.refl _) (by decide +kernel), z_w1 103 (Eq.refl _) (by decide +kernel), by decide +kernel, by decide +kernel, by decide +kernel⟩
set_option maxRecDepth 100000 in
theorem ztL_write : Cond.static yL_write ∈ z_tb := z_w1 487 (Eq.refl _) (by decide +kernel)
set_option maxRecDepth 100000 in
theorem zmL_loads : z_me mL_loads 2 := ⟨z_w1 485 (Eq.refl _) (by decide +kernel), z_w1 103 (Eq.refl _) (by decide +kernel), by decide +kernel, by decide +kernel, by decide +kernel⟩
set_option maxRecDepth 100000 in
theorem ztL_loads : Cond.static yL_loads ∈ z_tb := z_w1 484 (Eq.refl _) (by decide +kernel)
set_option maxRecDepth 100000 in
theorem zmL_text : z_me mL_text 2 := ⟨z_w1 1413 (Eq.refl _) (by decide +kernel), z_w1 103 (Eq.refl _) (by decide +kernel), by decide +kernel, by decide +kernel, by decide +kernel⟩
set_option maxRecDepth 100000 in
theorem ztL_text : Cond.static yL_text ∈ z_tb := z_w1 1412 (Eq.refl _) (by decide +kernel)
set_option maxRecDepth 100000 in
theorem zmL_setup : z_me mL_setup 1 := ⟨z_w1 705 (Eq.refl _) (by decide +kernel), z_w1 103 (Eq.refl _) (by decide +kernel), by decide +kernel, by decide +kernel, by decide +kernel⟩
set_option maxRecDepth 100000 in
theorem ztL_setup : Cond.static yL_setup ∈ z_tb := z_w1 704 (Eq.refl _) (by decide +kernel)
set_option maxRecDepth 100000 in
theorem zmL_acts : z_me mL_acts 2 := ⟨z_w1 959 (Eq.refl _) (by decide +kernel), z_w1 103 (Eq.refl _) (by decide +kernel), by decide +kernel, by decide +kernel, by decide +kernel⟩
set_option maxRecDepth 100000 in
theorem ztL_acts : Cond.static yL_acts ∈ z_tb := z_w1 958 (Eq.refl _) (by decide +kernel)
set_option maxRecDepth 100000 in
theorem zmL_tells : z_me mL_tells 2 := ⟨z_w1 1261 (Eq.refl _) (by decide +kernel), z_w1 103 (Eq.refl _) (by decide +kernel), by decide +kernel, by decide +kernel, by decide +kernel⟩
set_option maxRecDepth 100000 in
theorem ztL_tells : Cond.static yL_tells ∈ z_tb := z_w1 1260 (Eq.refl _) (by decide +kernel)
set_option maxRecDepth 100000 in
theorem zmL_isAs : z_me mL_isAs 4 := ⟨z_w1 1326 (Eq.refl _) (by decide +kernel), z_w1 103 (Eq.refl _) (by decide +kernel), by decide +kernel, by decide +kernel, by decide +kernel⟩
set_option maxRecDepth 100000 in
theorem ztL_isAs : Cond.static yL_isAs ∈ z_tb := z_w1 1325 (Eq.refl _) (by decide +kernel)
set_option maxRecDepth 100000 in
theorem zmL_bear : z_me mL_bear 2 := ⟨z_w1 1174 (Eq.refl _) (by decide +kernel), z_w1 103 (Eq.refl _) (by decide +kernel), by decide +kernel, by decide +kernel, by decide +kernel⟩
set_option maxRecDepth 100000 in
theorem ztL_bear : Cond.static yL_bear ∈ z_tb := z_w1 1173 (Eq.refl _) (by decide +kernel)
set_option maxRecDepth 100000 in
theorem zmL_time : z_me mL_time 3 := ⟨z_w1 1181 (Eq.refl _) (by decide +kernel), z_w1 103 (Eq.refl _) (by decide +kernel), by decide +kernel, by decide +kernel, by decide +kernel⟩
set_option maxRecDepth 100000 in
theorem ztL_time : Cond.static yL_time ∈ z_tb := z_w1 1180 (Eq.refl _) (by decide +kernel)
set_option maxRecDepth 100000 in
theorem zmL_lengthOf : z_me mL_lengthOf 2 := ⟨z_w1 1235 (Eq.refl _) (by decide +kernel), z_w1 103 (Eq.refl _) (by decide +kernel), by decide +kernel, by decide +kernel, by decide +kernel⟩
set_option maxRecDepth 100000 in
theorem ztL_lengthOf : Cond.static yL_lengthOf ∈ z_tb := z_w1 1234 (Eq.refl _) (by decide +kernel)
set_option maxRecDepth 100000 in
theorem zmL_bounds : z_me mL_bounds 1 := ⟨z_w1 1171 (Eq.refl _) (by decide +kernel), z_w1 103 (Eq.refl _) (by decide +kernel), by decide +kernel, by decide +kernel, by decide +kernel⟩
set_option maxRecDepth 100000 in
theorem ztL_bounds : Cond.static yL_bounds ∈ z_tb := z_w1 1170 (Eq.refl _) (by decide +kernel)
set_option maxRecDepth 100000 in
theorem zmL_gaps : z_me mL_gaps 4 := ⟨z_w1 1277 (Eq.refl _) (by decide +kernel), z_w1 103 (Eq.refl _) (by decide +kernel), by decide +kernel, by decide +kernel, by decide +kernel⟩
set_option maxRecDepth 100000 in
theorem ztL_gaps : Cond.static yL_gaps ∈ z_tb := z_w1 1276 (Eq.refl _) (by decide +kernel)
set_option maxRecDepth 100000 in
theorem zmL_foretold : z_me mL_foretold 4 := ⟨z_w1 1258 (Eq.refl _) (by decide +kernel), z_w1 103 (Eq.refl _) (by decide +kernel), by decide +kernel, by decide +kernel, by decide +kernel⟩
set_option maxRecDepth 100000 in
theorem ztL_foretold : Cond.static yL_foretold ∈ z_tb := z_w1 1257 (Eq.refl _) (by decide +kernel)
set_option maxRecDepth 100000 in
theorem zmL_undone : z_me mL_undone 4 := ⟨z_w1 1389 (Eq.refl _) (by decide +kernel), z_w1 103 (Eq.refl _) (by decide +kernel), by decide +kernel, by decide +kernel, by decide +kernel⟩
set_option maxRecDepth 100000 in
theorem ztL_undone : Cond.static yL_undone ∈ z_tb := z_w1 1388 (Eq.refl _) (by decide +kernel)
