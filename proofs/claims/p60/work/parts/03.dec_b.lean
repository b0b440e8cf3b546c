theorem dX4_next_129 : decode cX4_next 129 = .ok (.getfield 39, 3) := by decide +kernel
theorem dX4_next_132 : decode cX4_next 132 = .ok (.iconst 3, 1) := by decide +kernel
theorem dX4_next_133 : decode cX4_next 133 = .ok (.if_icmp .gt 7, 3) := by decide +kernel
theorem dX4_next_136 : decode cX4_next 136 = .ok (.iconst 3, 1) := by decide +kernel
theorem dX4_next_137 : decode cX4_next 137 = .ok (.goto 4, 3) := by decide +kernel
theorem dX4_next_140 : decode cX4_next 140 = .ok (.iconst 1, 1) := by decide +kernel
theorem dX4_next_141 : decode cX4_next 141 = .ok (.putfield 72, 3) := by decide +kernel
theorem dX4_next_144 : decode cX4_next 144 = .ok (.goto 23, 3) := by decide +kernel
theorem dX4_next_147 : decode cX4_next 147 = .ok (.aload_n 0, 1) := by decide +kernel
theorem dX4_next_148 : decode cX4_next 148 = .ok (.iconst 1, 1) := by decide +kernel
theorem dX4_next_149 : decode cX4_next 149 = .ok (.putfield 39, 3) := by decide +kernel
theorem dX4_next_152 : decode cX4_next 152 = .ok (.aload_n 0, 1) := by decide +kernel
theorem dX4_next_153 : decode cX4_next 153 = .ok (.iload_n 1, 1) := by decide +kernel
theorem dX4_next_154 : decode cX4_next 154 = .ok (.bipush 59, 2) := by decide +kernel
theorem dX4_next_156 : decode cX4_next 156 = .ok (.if_icmp .ne 7, 3) := by decide +kernel
theorem dX4_next_159 : decode cX4_next 159 = .ok (.iconst 4, 1) := by decide +kernel
theorem dX4_next_160 : decode cX4_next 160 = .ok (.goto 4, 3) := by decide +kernel
theorem dX4_next_163 : decode cX4_next 163 = .ok (.iconst 1, 1) := by decide +kernel
theorem dX4_next_164 : decode cX4_next 164 = .ok (.putfield 72, 3) := by decide +kernel
theorem dX4_next_167 : decode cX4_next 167 = .ok (.return_, 1) := by decide +kernel
theorem dX4_isHere_0 : decode cX4_isHere 0 = .ok (.aload_n 0, 1) := by decide +kernel
theorem dX4_isHere_1 : decode cX4_isHere 1 = .ok (.getfield 72, 3) := by decide +kernel
theorem dX4_isHere_4 : decode cX4_isHere 4 = .ok (.iconst 2, 1) := by decide +kernel
theorem dX4_isHere_5 : decode cX4_isHere 5 = .ok (.if_icmp .ne 26, 3) := by decide +kernel
theorem dX4_isHere_8 : decode cX4_isHere 8 = .ok (.aload_n 0, 1) := by decide +kernel
theorem dX4_isHere_9 : decode cX4_isHere 9 = .ok (.getfield 12, 3) := by decide +kernel
theorem dX4_isHere_12 : decode cX4_isHere 12 = .ok (.aload_n 0, 1) := by decide +kernel
theorem dX4_isHere_13 : decode cX4_isHere 13 = .ok (.getfield 35, 3) := by decide +kernel
theorem dX4_isHere_16 : decode cX4_isHere 16 = .ok (.aload_n 0, 1) := by decide +kernel
theorem dX4_isHere_17 : decode cX4_isHere 17 = .ok (.getfield 39, 3) := by decide +kernel
theorem dX4_isHere_20 : decode cX4_isHere 20 = .ok (.aload_n 1, 1) := by decide +kernel
theorem dX4_isHere_21 : decode cX4_isHere 21 = .ok (.invokevirtual 95, 3) := by decide +kernel
theorem dX4_isHere_24 : decode cX4_isHere 24 = .ok (.ifCond .eq 7, 3) := by decide +kernel
theorem dX4_isHere_27 : decode cX4_isHere 27 = .ok (.iconst 1, 1) := by decide +kernel
theorem dX4_isHere_28 : decode cX4_isHere 28 = .ok (.goto 4, 3) := by decide +kernel
theorem dX4_isHere_31 : decode cX4_isHere 31 = .ok (.iconst 0, 1) := by decide +kernel
theorem dX4_isHere_32 : decode cX4_isHere 32 = .ok (.ireturn, 1) := by decide +kernel
theorem dX4_takeWord_0 : decode cX4_takeWord 0 = .ok (.aload_n 0, 1) := by decide +kernel
theorem dX4_takeWord_1 : decode cX4_takeWord 1 = .ok (.aload_n 1, 1) := by decide +kernel
theorem dX4_takeWord_2 : decode cX4_takeWord 2 = .ok (.invokevirtual 51, 3) := by decide +kernel
theorem dX4_takeWord_5 : decode cX4_takeWord 5 = .ok (.istore_n 2, 1) := by decide +kernel
theorem dX4_takeWord_6 : decode cX4_takeWord 6 = .ok (.iload_n 2, 1) := by decide +kernel
theorem dX4_takeWord_7 : decode cX4_takeWord 7 = .ok (.ifCond .eq 7, 3) := by decide +kernel
theorem dX4_takeWord_10 : decode cX4_takeWord 10 = .ok (.aload_n 0, 1) := by decide +kernel
theorem dX4_takeWord_11 : decode cX4_takeWord 11 = .ok (.invokevirtual 42, 3) := by decide +kernel
theorem dX4_takeWord_14 : decode cX4_takeWord 14 = .ok (.iload_n 2, 1) := by decide +kernel
theorem dX4_takeWord_15 : decode cX4_takeWord 15 = .ok (.ireturn, 1) := by decide +kernel
theorem dX4_takeSemicolon_0 : decode cX4_takeSemicolon 0 = .ok (.aload_n 0, 1) := by decide +kernel
theorem dX4_takeSemicolon_1 : decode cX4_takeSemicolon 1 = .ok (.getfield 72, 3) := by decide +kernel
theorem dX4_takeSemicolon_4 : decode cX4_takeSemicolon 4 = .ok (.iconst 4, 1) := by decide +kernel
theorem dX4_takeSemicolon_5 : decode cX4_takeSemicolon 5 = .ok (.if_icmp .ne 7, 3) := by decide +kernel
theorem dX4_takeSemicolon_8 : decode cX4_takeSemicolon 8 = .ok (.iconst 1, 1) := by decide +kernel
theorem dX4_takeSemicolon_9 : decode cX4_takeSemicolon 9 = .ok (.goto 4, 3) := by decide +kernel
theorem dX4_takeSemicolon_12 : decode cX4_takeSemicolon 12 = .ok (.iconst 0, 1) := by decide +kernel
theorem dX4_takeSemicolon_13 : decode cX4_takeSemicolon 13 = .ok (.istore_n 1, 1) := by decide +kernel
theorem dX4_takeSemicolon_14 : decode cX4_takeSemicolon 14 = .ok (.iload_n 1, 1) := by decide +kernel
theorem dX4_takeSemicolon_15 : decode cX4_takeSemicolon 15 = .ok (.ifCond .eq 7, 3) := by decide +kernel
theorem dX4_takeSemicolon_18 : decode cX4_takeSemicolon 18 = .ok (.aload_n 0, 1) := by decide +kernel
theorem dX4_takeSemicolon_19 : decode cX4_takeSemicolon 19 = .ok (.invokevirtual 42, 3) := by decide +kernel
theorem dX4_takeSemicolon_22 : decode cX4_takeSemicolon 22 = .ok (.iload_n 1, 1) := by decide +kernel
theorem dX4_takeSemicolon_23 : decode cX4_takeSemicolon 23 = .ok (.ireturn, 1) := by decide +kernel
theorem dX4_numberHere_0 : decode cX4_numberHere 0 = .ok (.aload_n 0, 1) := by decide +kernel
theorem dX4_numberHere_1 : decode cX4_numberHere 1 = .ok (.getfield 72, 3) := by decide +kernel
theorem dX4_numberHere_4 : decode cX4_numberHere 4 = .ok (.iconst 3, 1) := by decide +kernel
theorem dX4_numberHere_5 : decode cX4_numberHere 5 = .ok (.if_icmp .eq 5, 3) := by decide +kernel
theorem dX4_numberHere_8 : decode cX4_numberHere 8 = .ok (.iconst (-1), 1) := by decide +kernel
theorem dX4_numberHere_9 : decode cX4_numberHere 9 = .ok (.ireturn, 1) := by decide +kernel
theorem dX4_numberHere_10 : decode cX4_numberHere 10 = .ok (.iconst 0, 1) := by decide +kernel
theorem dX4_numberHere_11 : decode cX4_numberHere 11 = .ok (.istore_n 1, 1) := by decide +kernel
theorem dX4_numberHere_12 : decode cX4_numberHere 12 = .ok (.iconst 0, 1) := by decide +kernel
theorem dX4_numberHere_13 : decode cX4_numberHere 13 = .ok (.istore_n 2, 1) := by decide +kernel
theorem dX4_numberHere_14 : decode cX4_numberHere 14 = .ok (.iload_n 2, 1) := by decide +kernel
theorem dX4_numberHere_15 : decode cX4_numberHere 15 = .ok (.aload_n 0, 1) := by decide +kernel
theorem dX4_numberHere_16 : decode cX4_numberHere 16 = .ok (.getfield 39, 3) := by decide +kernel
theorem dX4_numberHere_19 : decode cX4_numberHere 19 = .ok (.if_icmp .ge 31, 3) := by decide +kernel
theorem dX4_numberHere_22 : decode cX4_numberHere 22 = .ok (.iload_n 1, 1) := by decide +kernel
theorem dX4_numberHere_23 : decode cX4_numberHere 23 = .ok (.bipush 10, 2) := by decide +kernel
theorem dX4_numberHere_25 : decode cX4_numberHere 25 = .ok (.imul, 1) := by decide +kernel
theorem dX4_numberHere_26 : decode cX4_numberHere 26 = .ok (.aload_n 0, 1) := by decide +kernel
theorem dX4_numberHere_27 : decode cX4_numberHere 27 = .ok (.getfield 12, 3) := by decide +kernel
theorem dX4_numberHere_30 : decode cX4_numberHere 30 = .ok (.aload_n 0, 1) := by decide +kernel
theorem dX4_numberHere_31 : decode cX4_numberHere 31 = .ok (.getfield 35, 3) := by decide +kernel
theorem dX4_numberHere_34 : decode cX4_numberHere 34 = .ok (.iload_n 2, 1) := by decide +kernel
theorem dX4_numberHere_35 : decode cX4_numberHere 35 = .ok (.iadd, 1) := by decide +kernel
theorem dX4_numberHere_36 : decode cX4_numberHere 36 = .ok (.invokevirtual 79, 3) := by decide +kernel
theorem dX4_numberHere_39 : decode cX4_numberHere 39 = .ok (.iadd, 1) := by decide +kernel
theorem dX4_numberHere_40 : decode cX4_numberHere 40 = .ok (.bipush 48, 2) := by decide +kernel
theorem dX4_numberHere_42 : decode cX4_numberHere 42 = .ok (.isub, 1) := by decide +kernel
theorem dX4_numberHere_43 : decode cX4_numberHere 43 = .ok (.istore_n 1, 1) := by decide +kernel
theorem dX4_numberHere_44 : decode cX4_numberHere 44 = .ok (.iinc 2 1, 3) := by decide +kernel
theorem dX4_numberHere_47 : decode cX4_numberHere 47 = .ok (.goto (-33), 3) := by decide +kernel
theorem dX4_numberHere_50 : decode cX4_numberHere 50 = .ok (.iload_n 1, 1) := by decide +kernel
theorem dX4_numberHere_51 : decode cX4_numberHere 51 = .ok (.ireturn, 1) := by decide +kernel
theorem dX4_eventHere_0 : decode cX4_eventHere 0 = .ok (.aload_n 0, 1) := by decide +kernel
theorem dX4_eventHere_1 : decode cX4_eventHere 1 = .ok (.getfield 72, 3) := by decide +kernel
theorem dX4_eventHere_4 : decode cX4_eventHere 4 = .ok (.iconst 2, 1) := by decide +kernel
theorem dX4_eventHere_5 : decode cX4_eventHere 5 = .ok (.if_icmp .ne 25, 3) := by decide +kernel
theorem dX4_eventHere_8 : decode cX4_eventHere 8 = .ok (.aload_n 0, 1) := by decide +kernel
theorem dX4_eventHere_9 : decode cX4_eventHere 9 = .ok (.getfield 21, 3) := by decide +kernel
theorem dX4_eventHere_12 : decode cX4_eventHere 12 = .ok (.aload_n 0, 1) := by decide +kernel
theorem dX4_eventHere_13 : decode cX4_eventHere 13 = .ok (.getfield 12, 3) := by decide +kernel
theorem dX4_eventHere_16 : decode cX4_eventHere 16 = .ok (.aload_n 0, 1) := by decide +kernel
theorem dX4_eventHere_17 : decode cX4_eventHere 17 = .ok (.getfield 35, 3) := by decide +kernel
theorem dX4_eventHere_20 : decode cX4_eventHere 20 = .ok (.aload_n 0, 1) := by decide +kernel
theorem dX4_eventHere_21 : decode cX4_eventHere 21 = .ok (.getfield 39, 3) := by decide +kernel
theorem dX4_eventHere_24 : decode cX4_eventHere 24 = .ok (.invokevirtual 99, 3) := by decide +kernel
theorem dX4_eventHere_27 : decode cX4_eventHere 27 = .ok (.goto 4, 3) := by decide +kernel
theorem dX4_eventHere_30 : decode cX4_eventHere 30 = .ok (.iconst (-1), 1) := by decide +kernel
theorem dX4_eventHere_31 : decode cX4_eventHere 31 = .ok (.ireturn, 1) := by decide +kernel
theorem dX4_kindHere_0 : decode cX4_kindHere 0 = .ok (.aload_n 0, 1) := by decide +kernel
theorem dX4_kindHere_1 : decode cX4_kindHere 1 = .ok (.ldc 103, 2) := by decide +kernel
theorem dX4_kindHere_3 : decode cX4_kindHere 3 = .ok (.invokevirtual 51, 3) := by decide +kernel
theorem dX4_kindHere_6 : decode cX4_kindHere 6 = .ok (.ifCond .eq 5, 3) := by decide +kernel
theorem dX4_kindHere_9 : decode cX4_kindHere 9 = .ok (.iconst 0, 1) := by decide +kernel
theorem dX4_kindHere_10 : decode cX4_kindHere 10 = .ok (.ireturn, 1) := by decide +kernel
theorem dX4_kindHere_11 : decode cX4_kindHere 11 = .ok (.aload_n 0, 1) := by decide +kernel
theorem dX4_kindHere_12 : decode cX4_kindHere 12 = .ok (.ldc 105, 2) := by decide +kernel
theorem dX4_kindHere_14 : decode cX4_kindHere 14 = .ok (.invokevirtual 51, 3) := by decide +kernel
theorem dX4_kindHere_17 : decode cX4_kindHere 17 = .ok (.ifCond .eq 7, 3) := by decide +kernel
theorem dX4_kindHere_20 : decode cX4_kindHere 20 = .ok (.iconst 1, 1) := by decide +kernel
theorem dX4_kindHere_21 : decode cX4_kindHere 21 = .ok (.goto 4, 3) := by decide +kernel
theorem dX4_kindHere_24 : decode cX4_kindHere 24 = .ok (.iconst (-1), 1) := by decide +kernel
theorem dX4_kindHere_25 : decode cX4_kindHere 25 = .ok (.ireturn, 1) := by decide +kernel
theorem dX4_readEnd_0 : decode cX4_readEnd 0 = .ok (.aload_n 0, 1) := by decide +kernel
theorem dX4_readEnd_1 : decode cX4_readEnd 1 = .ok (.ldc 107, 2) := by decide +kernel
theorem dX4_readEnd_3 : decode cX4_readEnd 3 = .ok (.invokevirtual 109, 3) := by decide +kernel
theorem dX4_readEnd_6 : decode cX4_readEnd 6 = .ok (.ifCond .ne 5, 3) := by decide +kernel
theorem dX4_readEnd_9 : decode cX4_readEnd 9 = .ok (.iconst 0, 1) := by decide +kernel
theorem dX4_readEnd_10 : decode cX4_readEnd 10 = .ok (.ireturn, 1) := by decide +kernel
theorem dX4_readEnd_11 : decode cX4_readEnd 11 = .ok (.aload_n 0, 1) := by decide +kernel
theorem dX4_readEnd_12 : decode cX4_readEnd 12 = .ok (.invokevirtual 112, 3) := by decide +kernel
theorem dX4_readEnd_15 : decode cX4_readEnd 15 = .ok (.istore_n 1, 1) := by decide +kernel
theorem dX4_readEnd_16 : decode cX4_readEnd 16 = .ok (.iload_n 1, 1) := by decide +kernel
theorem dX4_readEnd_17 : decode cX4_readEnd 17 = .ok (.iconst 1, 1) := by decide +kernel
theorem dX4_readEnd_18 : decode cX4_readEnd 18 = .ok (.if_icmp .ge 5, 3) := by decide +kernel
theorem dX4_readEnd_21 : decode cX4_readEnd 21 = .ok (.iconst 0, 1) := by decide +kernel
theorem dX4_readEnd_22 : decode cX4_readEnd 22 = .ok (.ireturn, 1) := by decide +kernel
theorem dX4_readEnd_23 : decode cX4_readEnd 23 = .ok (.aload_n 0, 1) := by decide +kernel
theorem dX4_readEnd_24 : decode cX4_readEnd 24 = .ok (.getfield 21, 3) := by decide +kernel
theorem dX4_readEnd_27 : decode cX4_readEnd 27 = .ok (.iload_n 1, 1) := by decide +kernel
theorem dX4_readEnd_28 : decode cX4_readEnd 28 = .ok (.putfield 116, 3) := by decide +kernel
theorem dX4_readEnd_31 : decode cX4_readEnd 31 = .ok (.aload_n 0, 1) := by decide +kernel
theorem dX4_readEnd_32 : decode cX4_readEnd 32 = .ok (.invokevirtual 42, 3) := by decide +kernel
theorem dX4_readEnd_35 : decode cX4_readEnd 35 = .ok (.aload_n 0, 1) := by decide +kernel
theorem dX4_readEnd_36 : decode cX4_readEnd 36 = .ok (.invokevirtual 119, 3) := by decide +kernel
theorem dX4_readEnd_39 : decode cX4_readEnd 39 = .ok (.ireturn, 1) := by decide +kernel
theorem dX4_readEvent_0 : decode cX4_readEvent 0 = .ok (.aload_n 0, 1) := by decide +kernel
theorem dX4_readEvent_1 : decode cX4_readEvent 1 = .ok (.getfield 21, 3) := by decide +kernel
theorem dX4_readEvent_4 : decode cX4_readEvent 4 = .ok (.getfield 122, 3) := by decide +kernel
theorem dX4_readEvent_7 : decode cX4_readEvent 7 = .ok (.bipush 10, 2) := by decide +kernel
theorem dX4_readEvent_9 : decode cX4_readEvent 9 = .ok (.if_icmp .ne 5, 3) := by decide +kernel
theorem dX4_readEvent_12 : decode cX4_readEvent 12 = .ok (.iconst 0, 1) := by decide +kernel
theorem dX4_readEvent_13 : decode cX4_readEvent 13 = .ok (.ireturn, 1) := by decide +kernel
theorem dX4_readEvent_14 : decode cX4_readEvent 14 = .ok (.aload_n 0, 1) := by decide +kernel
theorem dX4_readEvent_15 : decode cX4_readEvent 15 = .ok (.invokevirtual 42, 3) := by decide +kernel
theorem dX4_readEvent_18 : decode cX4_readEvent 18 = .ok (.aload_n 0, 1) := by decide +kernel
theorem dX4_readEvent_19 : decode cX4_readEvent 19 = .ok (.getfield 72, 3) := by decide +kernel
theorem dX4_readEvent_22 : decode cX4_readEvent 22 = .ok (.iconst 2, 1) := by decide +kernel
theorem dX4_readEvent_23 : decode cX4_readEvent 23 = .ok (.if_icmp .ne 29, 3) := by decide +kernel
theorem dX4_readEvent_26 : decode cX4_readEvent 26 = .ok (.aload_n 0, 1) := by decide +kernel
theorem dX4_readEvent_27 : decode cX4_readEvent 27 = .ok (.getfield 12, 3) := by decide +kernel
theorem dX4_readEvent_30 : decode cX4_readEvent 30 = .ok (.aload_n 0, 1) := by decide +kernel
theorem dX4_readEvent_31 : decode cX4_readEvent 31 = .ok (.getfield 35, 3) := by decide +kernel
theorem dX4_readEvent_34 : decode cX4_readEvent 34 = .ok (.aload_n 0, 1) := by decide +kernel
theorem dX4_readEvent_35 : decode cX4_readEvent 35 = .ok (.getfield 39, 3) := by decide +kernel
theorem dX4_readEvent_38 : decode cX4_readEvent 38 = .ok (.invokevirtual 125, 3) := by decide +kernel
theorem dX4_readEvent_41 : decode cX4_readEvent 41 = .ok (.ifCond .eq 11, 3) := by decide +kernel
theorem dX4_readEvent_44 : decode cX4_readEvent 44 = .ok (.aload_n 0, 1) := by decide +kernel
theorem dX4_readEvent_45 : decode cX4_readEvent 45 = .ok (.invokevirtual 129, 3) := by decide +kernel
theorem dX4_readEvent_48 : decode cX4_readEvent 48 = .ok (.iconst (-1), 1) := by decide +kernel
theorem dX4_readEvent_49 : decode cX4_readEvent 49 = .ok (.if_icmp .eq 5, 3) := by decide +kernel
theorem dX4_readEvent_52 : decode cX4_readEvent 52 = .ok (.iconst 0, 1) := by decide +kernel
theorem dX4_readEvent_53 : decode cX4_readEvent 53 = .ok (.ireturn, 1) := by decide +kernel
theorem dX4_readEvent_54 : decode cX4_readEvent 54 = .ok (.aload_n 0, 1) := by decide +kernel
theorem dX4_readEvent_55 : decode cX4_readEvent 55 = .ok (.getfield 21, 3) := by decide +kernel
theorem dX4_readEvent_58 : decode cX4_readEvent 58 = .ok (.aload_n 0, 1) := by decide +kernel
theorem dX4_readEvent_59 : decode cX4_readEvent 59 = .ok (.getfield 12, 3) := by decide +kernel
theorem dX4_readEvent_62 : decode cX4_readEvent 62 = .ok (.aload_n 0, 1) := by decide +kernel
theorem dX4_readEvent_63 : decode cX4_readEvent 63 = .ok (.getfield 35, 3) := by decide +kernel
theorem dX4_readEvent_66 : decode cX4_readEvent 66 = .ok (.aload_n 0, 1) := by decide +kernel
theorem dX4_readEvent_67 : decode cX4_readEvent 67 = .ok (.getfield 39, 3) := by decide +kernel
theorem dX4_readEvent_70 : decode cX4_readEvent 70 = .ok (.invokevirtual 132, 3) := by decide +kernel
theorem dX4_readEvent_73 : decode cX4_readEvent 73 = .ok (.pop, 1) := by decide +kernel
theorem dX4_readEvent_74 : decode cX4_readEvent 74 = .ok (.aload_n 0, 1) := by decide +kernel
theorem dX4_readEvent_75 : decode cX4_readEvent 75 = .ok (.invokevirtual 42, 3) := by decide +kernel
theorem dX4_readEvent_78 : decode cX4_readEvent 78 = .ok (.aload_n 0, 1) := by decide +kernel
theorem dX4_readEvent_79 : decode cX4_readEvent 79 = .ok (.invokevirtual 119, 3) := by decide +kernel
theorem dX4_readEvent_82 : decode cX4_readEvent 82 = .ok (.ireturn, 1) := by decide +kernel
theorem dX4_readGap_0 : decode cX4_readGap 0 = .ok (.aload_n 0, 1) := by decide +kernel
theorem dX4_readGap_1 : decode cX4_readGap 1 = .ok (.getfield 21, 3) := by decide +kernel
theorem dX4_readGap_4 : decode cX4_readGap 4 = .ok (.getfield 135, 3) := by decide +kernel
theorem dX4_readGap_7 : decode cX4_readGap 7 = .ok (.bipush 24, 2) := by decide +kernel
theorem dX4_readGap_9 : decode cX4_readGap 9 = .ok (.if_icmp .ne 5, 3) := by decide +kernel
theorem dX4_readGap_12 : decode cX4_readGap 12 = .ok (.iconst 0, 1) := by decide +kernel
theorem dX4_readGap_13 : decode cX4_readGap 13 = .ok (.ireturn, 1) := by decide +kernel
theorem dX4_readGap_14 : decode cX4_readGap 14 = .ok (.aload_n 0, 1) := by decide +kernel
theorem dX4_readGap_15 : decode cX4_readGap 15 = .ok (.invokevirtual 42, 3) := by decide +kernel
theorem dX4_readGap_18 : decode cX4_readGap 18 = .ok (.aload_n 0, 1) := by decide +kernel
theorem dX4_readGap_19 : decode cX4_readGap 19 = .ok (.invokevirtual 129, 3) := by decide +kernel
theorem dX4_readGap_22 : decode cX4_readGap 22 = .ok (.istore_n 1, 1) := by decide +kernel
theorem dX4_readGap_23 : decode cX4_readGap 23 = .ok (.iload_n 1, 1) := by decide +kernel
theorem dX4_readGap_24 : decode cX4_readGap 24 = .ok (.iconst (-1), 1) := by decide +kernel
theorem dX4_readGap_25 : decode cX4_readGap 25 = .ok (.if_icmp .ne 5, 3) := by decide +kernel
theorem dX4_readGap_28 : decode cX4_readGap 28 = .ok (.iconst 0, 1) := by decide +kernel
theorem dX4_readGap_29 : decode cX4_readGap 29 = .ok (.ireturn, 1) := by decide +kernel
theorem dX4_readGap_30 : decode cX4_readGap 30 = .ok (.aload_n 0, 1) := by decide +kernel
theorem dX4_readGap_31 : decode cX4_readGap 31 = .ok (.invokevirtual 42, 3) := by decide +kernel
theorem dX4_readGap_34 : decode cX4_readGap 34 = .ok (.aload_n 0, 1) := by decide +kernel
theorem dX4_readGap_35 : decode cX4_readGap 35 = .ok (.invokevirtual 129, 3) := by decide +kernel
theorem dX4_readGap_38 : decode cX4_readGap 38 = .ok (.istore_n 2, 1) := by decide +kernel
theorem dX4_readGap_39 : decode cX4_readGap 39 = .ok (.iload_n 2, 1) := by decide +kernel
theorem dX4_readGap_40 : decode cX4_readGap 40 = .ok (.iconst (-1), 1) := by decide +kernel
theorem dX4_readGap_41 : decode cX4_readGap 41 = .ok (.if_icmp .eq 8, 3) := by decide +kernel
theorem dX4_readGap_44 : decode cX4_readGap 44 = .ok (.iload_n 2, 1) := by decide +kernel
theorem dX4_readGap_45 : decode cX4_readGap 45 = .ok (.iload_n 1, 1) := by decide +kernel
theorem dX4_readGap_46 : decode cX4_readGap 46 = .ok (.if_icmp .ne 5, 3) := by decide +kernel
theorem dX4_readGap_49 : decode cX4_readGap 49 = .ok (.iconst 0, 1) := by decide +kernel
theorem dX4_readGap_50 : decode cX4_readGap 50 = .ok (.ireturn, 1) := by decide +kernel
theorem dX4_readGap_51 : decode cX4_readGap 51 = .ok (.aload_n 0, 1) := by decide +kernel
theorem dX4_readGap_52 : decode cX4_readGap 52 = .ok (.invokevirtual 42, 3) := by decide +kernel
theorem dX4_readGap_55 : decode cX4_readGap 55 = .ok (.aload_n 0, 1) := by decide +kernel
theorem dX4_readGap_56 : decode cX4_readGap 56 = .ok (.invokevirtual 138, 3) := by decide +kernel
theorem dX4_readGap_59 : decode cX4_readGap 59 = .ok (.istore_n 3, 1) := by decide +kernel
theorem dX4_readGap_60 : decode cX4_readGap 60 = .ok (.iload_n 3, 1) := by decide +kernel
theorem dX4_readGap_61 : decode cX4_readGap 61 = .ok (.iconst (-1), 1) := by decide +kernel
theorem dX4_readGap_62 : decode cX4_readGap 62 = .ok (.if_icmp .ne 5, 3) := by decide +kernel
theorem dX4_readGap_65 : decode cX4_readGap 65 = .ok (.iconst 0, 1) := by decide +kernel
theorem dX4_readGap_66 : decode cX4_readGap 66 = .ok (.ireturn, 1) := by decide +kernel
theorem dX4_readGap_67 : decode cX4_readGap 67 = .ok (.aload_n 0, 1) := by decide +kernel
theorem dX4_readGap_68 : decode cX4_readGap 68 = .ok (.invokevirtual 42, 3) := by decide +kernel
theorem dX4_readGap_71 : decode cX4_readGap 71 = .ok (.aload_n 0, 1) := by decide +kernel
theorem dX4_readGap_72 : decode cX4_readGap 72 = .ok (.invokevirtual 112, 3) := by decide +kernel
theorem dX4_readGap_75 : decode cX4_readGap 75 = .ok (.istore 4, 2) := by decide +kernel
theorem dX4_readGap_77 : decode cX4_readGap 77 = .ok (.iload 4, 2) := by decide +kernel
theorem dX4_readGap_79 : decode cX4_readGap 79 = .ok (.iconst (-1), 1) := by decide +kernel
theorem dX4_readGap_80 : decode cX4_readGap 80 = .ok (.if_icmp .ne 5, 3) := by decide +kernel
theorem dX4_readGap_83 : decode cX4_readGap 83 = .ok (.iconst 0, 1) := by decide +kernel
theorem dX4_readGap_84 : decode cX4_readGap 84 = .ok (.ireturn, 1) := by decide +kernel
theorem dX4_readGap_85 : decode cX4_readGap 85 = .ok (.aload_n 0, 1) := by decide +kernel
theorem dX4_readGap_86 : decode cX4_readGap 86 = .ok (.invokevirtual 42, 3) := by decide +kernel
theorem dX4_readGap_89 : decode cX4_readGap 89 = .ok (.aload_n 0, 1) := by decide +kernel
theorem dX4_readGap_90 : decode cX4_readGap 90 = .ok (.ldc 141, 2) := by decide +kernel
theorem dX4_readGap_92 : decode cX4_readGap 92 = .ok (.invokevirtual 109, 3) := by decide +kernel
theorem dX4_readGap_95 : decode cX4_readGap 95 = .ok (.ifCond .ne 7, 3) := by decide +kernel
theorem dX4_readGap_98 : decode cX4_readGap 98 = .ok (.iconst 1, 1) := by decide +kernel
theorem dX4_readGap_99 : decode cX4_readGap 99 = .ok (.goto 4, 3) := by decide +kernel
theorem dX4_readGap_102 : decode cX4_readGap 102 = .ok (.iconst 0, 1) := by decide +kernel
theorem dX4_readGap_103 : decode cX4_readGap 103 = .ok (.istore 5, 2) := by decide +kernel
theorem dX4_readGap_105 : decode cX4_readGap 105 = .ok (.aload_n 0, 1) := by decide +kernel
theorem dX4_readGap_106 : decode cX4_readGap 106 = .ok (.getfield 72, 3) := by decide +kernel
theorem dX4_readGap_109 : decode cX4_readGap 109 = .ok (.iconst 4, 1) := by decide +kernel
theorem dX4_readGap_110 : decode cX4_readGap 110 = .ok (.if_icmp .ne 23, 3) := by decide +kernel
theorem dX4_readGap_113 : decode cX4_readGap 113 = .ok (.iload 5, 2) := by decide +kernel
theorem dX4_readGap_115 : decode cX4_readGap 115 = .ok (.ifCond .eq 20, 3) := by decide +kernel
theorem dX4_readGap_118 : decode cX4_readGap 118 = .ok (.aload_n 0, 1) := by decide +kernel
theorem dX4_readGap_119 : decode cX4_readGap 119 = .ok (.getfield 28, 3) := by decide +kernel
theorem dX4_readGap_122 : decode cX4_readGap 122 = .ok (.iload_n 1, 1) := by decide +kernel
theorem dX4_readGap_123 : decode cX4_readGap 123 = .ok (.iload_n 2, 1) := by decide +kernel
theorem dX4_readGap_124 : decode cX4_readGap 124 = .ok (.iload_n 3, 1) := by decide +kernel
theorem dX4_readGap_125 : decode cX4_readGap 125 = .ok (.iload 4, 2) := by decide +kernel
theorem dX4_readGap_127 : decode cX4_readGap 127 = .ok (.invokevirtual 143, 3) := by decide +kernel
theorem dX4_readGap_130 : decode cX4_readGap 130 = .ok (.ifCond .ge 5, 3) := by decide +kernel
theorem dX4_readGap_133 : decode cX4_readGap 133 = .ok (.iconst 0, 1) := by decide +kernel
theorem dX4_readGap_134 : decode cX4_readGap 134 = .ok (.ireturn, 1) := by decide +kernel
theorem dX4_readGap_135 : decode cX4_readGap 135 = .ok (.aload_n 0, 1) := by decide +kernel
theorem dX4_readGap_136 : decode cX4_readGap 136 = .ok (.getfield 21, 3) := by decide +kernel
theorem dX4_readGap_139 : decode cX4_readGap 139 = .ok (.iload_n 1, 1) := by decide +kernel
theorem dX4_readGap_140 : decode cX4_readGap 140 = .ok (.iload_n 2, 1) := by decide +kernel
theorem dX4_readGap_141 : decode cX4_readGap 141 = .ok (.iload_n 3, 1) := by decide +kernel
theorem dX4_readGap_142 : decode cX4_readGap 142 = .ok (.iload 4, 2) := by decide +kernel
theorem dX4_readGap_144 : decode cX4_readGap 144 = .ok (.iload 5, 2) := by decide +kernel
theorem dX4_readGap_146 : decode cX4_readGap 146 = .ok (.invokevirtual 147, 3) := by decide +kernel
theorem dX4_readGap_149 : decode cX4_readGap 149 = .ok (.pop, 1) := by decide +kernel
theorem dX4_readGap_150 : decode cX4_readGap 150 = .ok (.iload 5, 2) := by decide +kernel
theorem dX4_readGap_152 : decode cX4_readGap 152 = .ok (.ifCond .eq 15, 3) := by decide +kernel
theorem dX4_readGap_155 : decode cX4_readGap 155 = .ok (.aload_n 0, 1) := by decide +kernel
theorem dX4_readGap_156 : decode cX4_readGap 156 = .ok (.getfield 28, 3) := by decide +kernel
theorem dX4_readGap_159 : decode cX4_readGap 159 = .ok (.iload_n 1, 1) := by decide +kernel
theorem dX4_readGap_160 : decode cX4_readGap 160 = .ok (.iload_n 2, 1) := by decide +kernel
theorem dX4_readGap_161 : decode cX4_readGap 161 = .ok (.iload_n 3, 1) := by decide +kernel
theorem dX4_readGap_162 : decode cX4_readGap 162 = .ok (.iload 4, 2) := by decide +kernel
theorem dX4_readGap_164 : decode cX4_readGap 164 = .ok (.invokevirtual 151, 3) := by decide +kernel
theorem dX4_readGap_167 : decode cX4_readGap 167 = .ok (.aload_n 0, 1) := by decide +kernel
theorem dX4_readGap_168 : decode cX4_readGap 168 = .ok (.invokevirtual 42, 3) := by decide +kernel
theorem dX4_readGap_171 : decode cX4_readGap 171 = .ok (.iconst 1, 1) := by decide +kernel
theorem dX4_readGap_172 : decode cX4_readGap 172 = .ok (.ireturn, 1) := by decide +kernel
theorem dX4_readPin_0 : decode cX4_readPin 0 = .ok (.aload_n 0, 1) := by decide +kernel
theorem dX4_readPin_1 : decode cX4_readPin 1 = .ok (.invokevirtual 42, 3) := by decide +kernel
theorem dX4_readPin_4 : decode cX4_readPin 4 = .ok (.aload_n 0, 1) := by decide +kernel
theorem dX4_readPin_5 : decode cX4_readPin 5 = .ok (.invokevirtual 129, 3) := by decide +kernel
theorem dX4_readPin_8 : decode cX4_readPin 8 = .ok (.istore_n 1, 1) := by decide +kernel
theorem dX4_readPin_9 : decode cX4_readPin 9 = .ok (.iload_n 1, 1) := by decide +kernel
theorem dX4_readPin_10 : decode cX4_readPin 10 = .ok (.iconst (-1), 1) := by decide +kernel
theorem dX4_readPin_11 : decode cX4_readPin 11 = .ok (.if_icmp .eq 18, 3) := by decide +kernel
theorem dX4_readPin_14 : decode cX4_readPin 14 = .ok (.iload_n 1, 1) := by decide +kernel
theorem dX4_readPin_15 : decode cX4_readPin 15 = .ok (.ifCond .eq 14, 3) := by decide +kernel
theorem dX4_readPin_18 : decode cX4_readPin 18 = .ok (.aload_n 0, 1) := by decide +kernel
theorem dX4_readPin_19 : decode cX4_readPin 19 = .ok (.getfield 21, 3) := by decide +kernel
theorem dX4_readPin_22 : decode cX4_readPin 22 = .ok (.iload_n 1, 1) := by decide +kernel
theorem dX4_readPin_23 : decode cX4_readPin 23 = .ok (.invokevirtual 155, 3) := by decide +kernel
theorem dX4_readPin_26 : decode cX4_readPin 26 = .ok (.ifCond .eq 5, 3) := by decide +kernel
theorem dX4_readPin_29 : decode cX4_readPin 29 = .ok (.iconst 0, 1) := by decide +kernel
theorem dX4_readPin_30 : decode cX4_readPin 30 = .ok (.ireturn, 1) := by decide +kernel
theorem dX4_readPin_31 : decode cX4_readPin 31 = .ok (.aload_n 0, 1) := by decide +kernel
theorem dX4_readPin_32 : decode cX4_readPin 32 = .ok (.invokevirtual 42, 3) := by decide +kernel
theorem dX4_readPin_35 : decode cX4_readPin 35 = .ok (.aload_n 0, 1) := by decide +kernel
theorem dX4_readPin_36 : decode cX4_readPin 36 = .ok (.invokevirtual 112, 3) := by decide +kernel
theorem dX4_readPin_39 : decode cX4_readPin 39 = .ok (.istore_n 2, 1) := by decide +kernel
theorem dX4_readPin_40 : decode cX4_readPin 40 = .ok (.iload_n 2, 1) := by decide +kernel
theorem dX4_readPin_41 : decode cX4_readPin 41 = .ok (.iconst (-1), 1) := by decide +kernel
theorem dX4_readPin_42 : decode cX4_readPin 42 = .ok (.if_icmp .eq 14, 3) := by decide +kernel
theorem dX4_readPin_45 : decode cX4_readPin 45 = .ok (.iload_n 2, 1) := by decide +kernel
theorem dX4_readPin_46 : decode cX4_readPin 46 = .ok (.aload_n 0, 1) := by decide +kernel
theorem dX4_readPin_47 : decode cX4_readPin 47 = .ok (.getfield 21, 3) := by decide +kernel
theorem dX4_readPin_50 : decode cX4_readPin 50 = .ok (.getfield 116, 3) := by decide +kernel
theorem dX4_readPin_53 : decode cX4_readPin 53 = .ok (.if_icmp .le 5, 3) := by decide +kernel
theorem dX4_readPin_56 : decode cX4_readPin 56 = .ok (.iconst 0, 1) := by decide +kernel
theorem dX4_readPin_57 : decode cX4_readPin 57 = .ok (.ireturn, 1) := by decide +kernel
theorem dX4_readPin_58 : decode cX4_readPin 58 = .ok (.aload_n 0, 1) := by decide +kernel
theorem dX4_readPin_59 : decode cX4_readPin 59 = .ok (.invokevirtual 42, 3) := by decide +kernel
theorem dX4_readPin_62 : decode cX4_readPin 62 = .ok (.aload_n 0, 1) := by decide +kernel
theorem dX4_readPin_63 : decode cX4_readPin 63 = .ok (.getfield 72, 3) := by decide +kernel
theorem dX4_readPin_66 : decode cX4_readPin 66 = .ok (.iconst 4, 1) := by decide +kernel
theorem dX4_readPin_67 : decode cX4_readPin 67 = .ok (.if_icmp .ne 15, 3) := by decide +kernel
theorem dX4_readPin_70 : decode cX4_readPin 70 = .ok (.aload_n 0, 1) := by decide +kernel
theorem dX4_readPin_71 : decode cX4_readPin 71 = .ok (.getfield 28, 3) := by decide +kernel
theorem dX4_readPin_74 : decode cX4_readPin 74 = .ok (.iload_n 1, 1) := by decide +kernel
theorem dX4_readPin_75 : decode cX4_readPin 75 = .ok (.iload_n 2, 1) := by decide +kernel
theorem dX4_readPin_76 : decode cX4_readPin 76 = .ok (.invokevirtual 158, 3) := by decide +kernel
theorem dX4_readPin_79 : decode cX4_readPin 79 = .ok (.ifCond .ne 5, 3) := by decide +kernel
theorem dX4_readPin_82 : decode cX4_readPin 82 = .ok (.iconst 0, 1) := by decide +kernel
theorem dX4_readPin_83 : decode cX4_readPin 83 = .ok (.ireturn, 1) := by decide +kernel
theorem dX4_readPin_84 : decode cX4_readPin 84 = .ok (.aload_n 0, 1) := by decide +kernel
theorem dX4_readPin_85 : decode cX4_readPin 85 = .ok (.getfield 21, 3) := by decide +kernel
theorem dX4_readPin_88 : decode cX4_readPin 88 = .ok (.getfield 161, 3) := by decide +kernel
theorem dX4_readPin_91 : decode cX4_readPin 91 = .ok (.iload_n 1, 1) := by decide +kernel
theorem dX4_readPin_92 : decode cX4_readPin 92 = .ok (.iload_n 2, 1) := by decide +kernel
theorem dX4_readPin_93 : decode cX4_readPin 93 = .ok (.iastore, 1) := by decide +kernel
theorem dX4_readPin_94 : decode cX4_readPin 94 = .ok (.aload_n 0, 1) := by decide +kernel
theorem dX4_readPin_95 : decode cX4_readPin 95 = .ok (.getfield 28, 3) := by decide +kernel
theorem dX4_readPin_98 : decode cX4_readPin 98 = .ok (.iload_n 1, 1) := by decide +kernel
theorem dX4_readPin_99 : decode cX4_readPin 99 = .ok (.iload_n 2, 1) := by decide +kernel
theorem dX4_readPin_100 : decode cX4_readPin 100 = .ok (.invokevirtual 165, 3) := by decide +kernel
theorem dX4_readPin_103 : decode cX4_readPin 103 = .ok (.aload_n 0, 1) := by decide +kernel
theorem dX4_readPin_104 : decode cX4_readPin 104 = .ok (.invokevirtual 42, 3) := by decide +kernel
theorem dX4_readPin_107 : decode cX4_readPin 107 = .ok (.iconst 1, 1) := by decide +kernel
theorem dX4_readPin_108 : decode cX4_readPin 108 = .ok (.ireturn, 1) := by decide +kernel
theorem dX5_init_0 : decode cX5_init 0 = .ok (.aload_n 0, 1) := by decide +kernel
theorem dX5_init_1 : decode cX5_init 1 = .ok (.invokespecial 3, 3) := by decide +kernel
theorem dX5_init_4 : decode cX5_init 4 = .ok (.aload_n 0, 1) := by decide +kernel
theorem dX5_init_5 : decode cX5_init 5 = .ok (.iconst 2, 1) := by decide +kernel
theorem dX5_init_6 : decode cX5_init 6 = .ok (.anewarray 9, 3) := by decide +kernel
theorem dX5_init_9 : decode cX5_init 9 = .ok (.putfield 11, 3) := by decide +kernel
theorem dX5_init_12 : decode cX5_init 12 = .ok (.aload_n 0, 1) := by decide +kernel
theorem dX5_init_13 : decode cX5_init 13 = .ok (.iconst 2, 1) := by decide +kernel
theorem dX5_init_14 : decode cX5_init 14 = .ok (.newarray .boolean, 2) := by decide +kernel
theorem dX5_init_16 : decode cX5_init 16 = .ok (.putfield 17, 3) := by decide +kernel
theorem dX5_init_19 : decode cX5_init 19 = .ok (.iconst 0, 1) := by decide +kernel
theorem dX5_init_20 : decode cX5_init 20 = .ok (.istore_n 1, 1) := by decide +kernel
theorem dX5_init_21 : decode cX5_init 21 = .ok (.iload_n 1, 1) := by decide +kernel
theorem dX5_init_22 : decode cX5_init 22 = .ok (.iconst 2, 1) := by decide +kernel
theorem dX5_init_23 : decode cX5_init 23 = .ok (.if_icmp .ge 22, 3) := by decide +kernel
theorem dX5_init_26 : decode cX5_init 26 = .ok (.aload_n 0, 1) := by decide +kernel
theorem dX5_init_27 : decode cX5_init 27 = .ok (.getfield 11, 3) := by decide +kernel
theorem dX5_init_30 : decode cX5_init 30 = .ok (.iload_n 1, 1) := by decide +kernel
theorem dX5_init_31 : decode cX5_init 31 = .ok (.new 9, 3) := by decide +kernel
theorem dX5_init_34 : decode cX5_init 34 = .ok (.dup, 1) := by decide +kernel
theorem dX5_init_35 : decode cX5_init 35 = .ok (.invokespecial 21, 3) := by decide +kernel
theorem dX5_init_38 : decode cX5_init 38 = .ok (.aastore, 1) := by decide +kernel
theorem dX5_init_39 : decode cX5_init 39 = .ok (.iinc 1 1, 3) := by decide +kernel
theorem dX5_init_42 : decode cX5_init 42 = .ok (.goto (-21), 3) := by decide +kernel
theorem dX5_init_45 : decode cX5_init 45 = .ok (.return_, 1) := by decide +kernel
theorem dX5_clear_0 : decode cX5_clear 0 = .ok (.iconst 0, 1) := by decide +kernel
theorem dX5_clear_1 : decode cX5_clear 1 = .ok (.istore_n 1, 1) := by decide +kernel
theorem dX5_clear_2 : decode cX5_clear 2 = .ok (.iload_n 1, 1) := by decide +kernel
theorem dX5_clear_3 : decode cX5_clear 3 = .ok (.iconst 2, 1) := by decide +kernel
theorem dX5_clear_4 : decode cX5_clear 4 = .ok (.if_icmp .ge 16, 3) := by decide +kernel
theorem dX5_clear_7 : decode cX5_clear 7 = .ok (.aload_n 0, 1) := by decide +kernel
theorem dX5_clear_8 : decode cX5_clear 8 = .ok (.getfield 17, 3) := by decide +kernel
theorem dX5_clear_11 : decode cX5_clear 11 = .ok (.iload_n 1, 1) := by decide +kernel
theorem dX5_clear_12 : decode cX5_clear 12 = .ok (.iconst 0, 1) := by decide +kernel
theorem dX5_clear_13 : decode cX5_clear 13 = .ok (.bastore, 1) := by decide +kernel
theorem dX5_clear_14 : decode cX5_clear 14 = .ok (.iinc 1 1, 3) := by decide +kernel
theorem dX5_clear_17 : decode cX5_clear 17 = .ok (.goto (-15), 3) := by decide +kernel
theorem dX5_clear_20 : decode cX5_clear 20 = .ok (.return_, 1) := by decide +kernel
theorem dX6_init_0 : decode cX6_init 0 = .ok (.aload_n 0, 1) := by decide +kernel
theorem dX6_init_1 : decode cX6_init 1 = .ok (.invokespecial 3, 3) := by decide +kernel
theorem dX6_init_4 : decode cX6_init 4 = .ok (.aload_n 0, 1) := by decide +kernel
theorem dX6_init_5 : decode cX6_init 5 = .ok (.sipush 900, 3) := by decide +kernel
theorem dX6_init_8 : decode cX6_init 8 = .ok (.newarray .int, 2) := by decide +kernel
theorem dX6_init_10 : decode cX6_init 10 = .ok (.putfield 9, 3) := by decide +kernel
theorem dX6_init_13 : decode cX6_init 13 = .ok (.return_, 1) := by decide +kernel
theorem dX6_putFourBytes_0 : decode cX6_putFourBytes 0 = .ok (.bipush 24, 2) := by decide +kernel
theorem dX6_putFourBytes_2 : decode cX6_putFourBytes 2 = .ok (.istore_n 2, 1) := by decide +kernel
theorem dX6_putFourBytes_3 : decode cX6_putFourBytes 3 = .ok (.iload_n 2, 1) := by decide +kernel
theorem dX6_putFourBytes_4 : decode cX6_putFourBytes 4 = .ok (.ifCond .lt 45, 3) := by decide +kernel
theorem dX6_putFourBytes_7 : decode cX6_putFourBytes 7 = .ok (.aload_n 0, 1) := by decide +kernel
theorem dX6_putFourBytes_8 : decode cX6_putFourBytes 8 = .ok (.getfield 15, 3) := by decide +kernel
theorem dX6_putFourBytes_11 : decode cX6_putFourBytes 11 = .ok (.sipush 900, 3) := by decide +kernel
theorem dX6_putFourBytes_14 : decode cX6_putFourBytes 14 = .ok (.if_icmp .ge 29, 3) := by decide +kernel
theorem dX6_putFourBytes_17 : decode cX6_putFourBytes 17 = .ok (.aload_n 0, 1) := by decide +kernel
theorem dX6_putFourBytes_18 : decode cX6_putFourBytes 18 = .ok (.getfield 9, 3) := by decide +kernel
theorem dX6_putFourBytes_21 : decode cX6_putFourBytes 21 = .ok (.aload_n 0, 1) := by decide +kernel
theorem dX6_putFourBytes_22 : decode cX6_putFourBytes 22 = .ok (.getfield 15, 3) := by decide +kernel
theorem dX6_putFourBytes_25 : decode cX6_putFourBytes 25 = .ok (.iload_n 1, 1) := by decide +kernel
theorem dX6_putFourBytes_26 : decode cX6_putFourBytes 26 = .ok (.iload_n 2, 1) := by decide +kernel
theorem dX6_putFourBytes_27 : decode cX6_putFourBytes 27 = .ok (.iushr, 1) := by decide +kernel
theorem dX6_putFourBytes_28 : decode cX6_putFourBytes 28 = .ok (.sipush 255, 3) := by decide +kernel
theorem dX6_putFourBytes_31 : decode cX6_putFourBytes 31 = .ok (.iand, 1) := by decide +kernel
theorem dX6_putFourBytes_32 : decode cX6_putFourBytes 32 = .ok (.iastore, 1) := by decide +kernel
theorem dX6_putFourBytes_33 : decode cX6_putFourBytes 33 = .ok (.aload_n 0, 1) := by decide +kernel
theorem dX6_putFourBytes_34 : decode cX6_putFourBytes 34 = .ok (.dup, 1) := by decide +kernel
theorem dX6_putFourBytes_35 : decode cX6_putFourBytes 35 = .ok (.getfield 15, 3) := by decide +kernel
theorem dX6_putFourBytes_38 : decode cX6_putFourBytes 38 = .ok (.iconst 1, 1) := by decide +kernel
theorem dX6_putFourBytes_39 : decode cX6_putFourBytes 39 = .ok (.iadd, 1) := by decide +kernel
theorem dX6_putFourBytes_40 : decode cX6_putFourBytes 40 = .ok (.putfield 15, 3) := by decide +kernel
theorem dX6_putFourBytes_43 : decode cX6_putFourBytes 43 = .ok (.iinc 2 (-8), 3) := by decide +kernel
theorem dX6_putFourBytes_46 : decode cX6_putFourBytes 46 = .ok (.goto (-43), 3) := by decide +kernel
theorem dX6_putFourBytes_49 : decode cX6_putFourBytes 49 = .ok (.return_, 1) := by decide +kernel
theorem dX6_byteAt_0 : decode cX6_byteAt 0 = .ok (.iload_n 1, 1) := by decide +kernel
theorem dX6_byteAt_1 : decode cX6_byteAt 1 = .ok (.ifCond .lt 20, 3) := by decide +kernel
theorem dX6_byteAt_4 : decode cX6_byteAt 4 = .ok (.iload_n 1, 1) := by decide +kernel
theorem dX6_byteAt_5 : decode cX6_byteAt 5 = .ok (.aload_n 0, 1) := by decide +kernel
theorem dX6_byteAt_6 : decode cX6_byteAt 6 = .ok (.getfield 15, 3) := by decide +kernel
theorem dX6_byteAt_9 : decode cX6_byteAt 9 = .ok (.if_icmp .ge 12, 3) := by decide +kernel
theorem dX6_byteAt_12 : decode cX6_byteAt 12 = .ok (.aload_n 0, 1) := by decide +kernel
theorem dX6_byteAt_13 : decode cX6_byteAt 13 = .ok (.getfield 9, 3) := by decide +kernel
theorem dX6_byteAt_16 : decode cX6_byteAt 16 = .ok (.iload_n 1, 1) := by decide +kernel
theorem dX6_byteAt_17 : decode cX6_byteAt 17 = .ok (.iaload, 1) := by decide +kernel
theorem dX6_byteAt_18 : decode cX6_byteAt 18 = .ok (.goto 4, 3) := by decide +kernel
theorem dX6_byteAt_21 : decode cX6_byteAt 21 = .ok (.iconst (-1), 1) := by decide +kernel
theorem dX6_byteAt_22 : decode cX6_byteAt 22 = .ok (.ireturn, 1) := by decide +kernel
theorem dX6_isName_0 : decode cX6_isName 0 = .ok (.iload_n 2, 1) := by decide +kernel
theorem dX6_isName_1 : decode cX6_isName 1 = .ok (.iconst 1, 1) := by decide +kernel
theorem dX6_isName_2 : decode cX6_isName 2 = .ok (.if_icmp .lt 30, 3) := by decide +kernel
theorem dX6_isName_5 : decode cX6_isName 5 = .ok (.iload_n 2, 1) := by decide +kernel
theorem dX6_isName_6 : decode cX6_isName 6 = .ok (.iconst 5, 1) := by decide +kernel
theorem dX6_isName_7 : decode cX6_isName 7 = .ok (.if_icmp .gt 25, 3) := by decide +kernel
theorem dX6_isName_10 : decode cX6_isName 10 = .ok (.aload_n 0, 1) := by decide +kernel
theorem dX6_isName_11 : decode cX6_isName 11 = .ok (.iload_n 1, 1) := by decide +kernel
theorem dX6_isName_12 : decode cX6_isName 12 = .ok (.invokevirtual 19, 3) := by decide +kernel
theorem dX6_isName_15 : decode cX6_isName 15 = .ok (.iload_n 2, 1) := by decide +kernel
theorem dX6_isName_16 : decode cX6_isName 16 = .ok (.if_icmp .lt 16, 3) := by decide +kernel
theorem dX6_isName_19 : decode cX6_isName 19 = .ok (.aload_n 0, 1) := by decide +kernel
theorem dX6_isName_20 : decode cX6_isName 20 = .ok (.iload_n 1, 1) := by decide +kernel
theorem dX6_isName_21 : decode cX6_isName 21 = .ok (.iload_n 2, 1) := by decide +kernel
theorem dX6_isName_22 : decode cX6_isName 22 = .ok (.invokevirtual 23, 3) := by decide +kernel
theorem dX6_isName_25 : decode cX6_isName 25 = .ok (.ifCond .ne 7, 3) := by decide +kernel
theorem dX6_isName_28 : decode cX6_isName 28 = .ok (.iconst 1, 1) := by decide +kernel
theorem dX6_isName_29 : decode cX6_isName 29 = .ok (.goto 4, 3) := by decide +kernel
theorem dX6_isName_32 : decode cX6_isName 32 = .ok (.iconst 0, 1) := by decide +kernel
theorem dX6_isName_33 : decode cX6_isName 33 = .ok (.ireturn, 1) := by decide +kernel
theorem dX6_isKeyword_0 : decode cX6_isKeyword 0 = .ok (.aload_n 0, 1) := by decide +kernel
theorem dX6_isKeyword_1 : decode cX6_isKeyword 1 = .ok (.iload_n 1, 1) := by decide +kernel
theorem dX6_isKeyword_2 : decode cX6_isKeyword 2 = .ok (.iload_n 2, 1) := by decide +kernel
theorem dX6_isKeyword_3 : decode cX6_isKeyword 3 = .ok (.ldc 27, 2) := by decide +kernel
theorem dX6_isKeyword_5 : decode cX6_isKeyword 5 = .ok (.invokevirtual 29, 3) := by decide +kernel
theorem dX6_isKeyword_8 : decode cX6_isKeyword 8 = .ok (.ifCond .ne 80, 3) := by decide +kernel
theorem dX6_isKeyword_11 : decode cX6_isKeyword 11 = .ok (.aload_n 0, 1) := by decide +kernel
theorem dX6_isKeyword_12 : decode cX6_isKeyword 12 = .ok (.iload_n 1, 1) := by decide +kernel
theorem dX6_isKeyword_13 : decode cX6_isKeyword 13 = .ok (.iload_n 2, 1) := by decide +kernel
theorem dX6_isKeyword_14 : decode cX6_isKeyword 14 = .ok (.ldc 33, 2) := by decide +kernel
theorem dX6_isKeyword_16 : decode cX6_isKeyword 16 = .ok (.invokevirtual 29, 3) := by decide +kernel
theorem dX6_isKeyword_19 : decode cX6_isKeyword 19 = .ok (.ifCond .ne 69, 3) := by decide +kernel
theorem dX6_isKeyword_22 : decode cX6_isKeyword 22 = .ok (.aload_n 0, 1) := by decide +kernel
theorem dX6_isKeyword_23 : decode cX6_isKeyword 23 = .ok (.iload_n 1, 1) := by decide +kernel
theorem dX6_isKeyword_24 : decode cX6_isKeyword 24 = .ok (.iload_n 2, 1) := by decide +kernel
theorem dX6_isKeyword_25 : decode cX6_isKeyword 25 = .ok (.ldc 35, 2) := by decide +kernel
theorem dX6_isKeyword_27 : decode cX6_isKeyword 27 = .ok (.invokevirtual 29, 3) := by decide +kernel
theorem dX6_isKeyword_30 : decode cX6_isKeyword 30 = .ok (.ifCond .ne 58, 3) := by decide +kernel
theorem dX6_isKeyword_33 : decode cX6_isKeyword 33 = .ok (.aload_n 0, 1) := by decide +kernel
theorem dX6_isKeyword_34 : decode cX6_isKeyword 34 = .ok (.iload_n 1, 1) := by decide +kernel
theorem dX6_isKeyword_35 : decode cX6_isKeyword 35 = .ok (.iload_n 2, 1) := by decide +kernel
theorem dX6_isKeyword_36 : decode cX6_isKeyword 36 = .ok (.ldc 37, 2) := by decide +kernel
theorem dX6_isKeyword_38 : decode cX6_isKeyword 38 = .ok (.invokevirtual 29, 3) := by decide +kernel
theorem dX6_isKeyword_41 : decode cX6_isKeyword 41 = .ok (.ifCond .ne 47, 3) := by decide +kernel
theorem dX6_isKeyword_44 : decode cX6_isKeyword 44 = .ok (.aload_n 0, 1) := by decide +kernel
theorem dX6_isKeyword_45 : decode cX6_isKeyword 45 = .ok (.iload_n 1, 1) := by decide +kernel
theorem dX6_isKeyword_46 : decode cX6_isKeyword 46 = .ok (.iload_n 2, 1) := by decide +kernel
theorem dX6_isKeyword_47 : decode cX6_isKeyword 47 = .ok (.ldc 39, 2) := by decide +kernel
theorem dX6_isKeyword_49 : decode cX6_isKeyword 49 = .ok (.invokevirtual 29, 3) := by decide +kernel
theorem dX6_isKeyword_52 : decode cX6_isKeyword 52 = .ok (.ifCond .ne 36, 3) := by decide +kernel
theorem dX6_isKeyword_55 : decode cX6_isKeyword 55 = .ok (.aload_n 0, 1) := by decide +kernel
theorem dX6_isKeyword_56 : decode cX6_isKeyword 56 = .ok (.iload_n 1, 1) := by decide +kernel
theorem dX6_isKeyword_57 : decode cX6_isKeyword 57 = .ok (.iload_n 2, 1) := by decide +kernel
theorem dX6_isKeyword_58 : decode cX6_isKeyword 58 = .ok (.ldc 41, 2) := by decide +kernel
theorem dX6_isKeyword_60 : decode cX6_isKeyword 60 = .ok (.invokevirtual 29, 3) := by decide +kernel
theorem dX6_isKeyword_63 : decode cX6_isKeyword 63 = .ok (.ifCond .ne 25, 3) := by decide +kernel
theorem dX6_isKeyword_66 : decode cX6_isKeyword 66 = .ok (.aload_n 0, 1) := by decide +kernel
theorem dX6_isKeyword_67 : decode cX6_isKeyword 67 = .ok (.iload_n 1, 1) := by decide +kernel
theorem dX6_isKeyword_68 : decode cX6_isKeyword 68 = .ok (.iload_n 2, 1) := by decide +kernel
theorem dX6_isKeyword_69 : decode cX6_isKeyword 69 = .ok (.ldc 43, 2) := by decide +kernel
theorem dX6_isKeyword_71 : decode cX6_isKeyword 71 = .ok (.invokevirtual 29, 3) := by decide +kernel
theorem dX6_isKeyword_74 : decode cX6_isKeyword 74 = .ok (.ifCond .ne 14, 3) := by decide +kernel
theorem dX6_isKeyword_77 : decode cX6_isKeyword 77 = .ok (.aload_n 0, 1) := by decide +kernel
theorem dX6_isKeyword_78 : decode cX6_isKeyword 78 = .ok (.iload_n 1, 1) := by decide +kernel
theorem dX6_isKeyword_79 : decode cX6_isKeyword 79 = .ok (.iload_n 2, 1) := by decide +kernel
theorem dX6_isKeyword_80 : decode cX6_isKeyword 80 = .ok (.ldc 45, 2) := by decide +kernel
theorem dX6_isKeyword_82 : decode cX6_isKeyword 82 = .ok (.invokevirtual 29, 3) := by decide +kernel
theorem dX6_isKeyword_85 : decode cX6_isKeyword 85 = .ok (.ifCond .eq 7, 3) := by decide +kernel
theorem dX6_isKeyword_88 : decode cX6_isKeyword 88 = .ok (.iconst 1, 1) := by decide +kernel
theorem dX6_isKeyword_89 : decode cX6_isKeyword 89 = .ok (.goto 4, 3) := by decide +kernel
theorem dX6_isKeyword_92 : decode cX6_isKeyword 92 = .ok (.iconst 0, 1) := by decide +kernel
theorem dX6_isKeyword_93 : decode cX6_isKeyword 93 = .ok (.ireturn, 1) := by decide +kernel
theorem dX6_spells_0 : decode cX6_spells 0 = .ok (.iload_n 2, 1) := by decide +kernel
theorem dX6_spells_1 : decode cX6_spells 1 = .ok (.aload_n 3, 1) := by decide +kernel
theorem dX6_spells_2 : decode cX6_spells 2 = .ok (.invokevirtual 47, 3) := by decide +kernel
theorem dX6_spells_5 : decode cX6_spells 5 = .ok (.if_icmp .eq 5, 3) := by decide +kernel
theorem dX6_spells_8 : decode cX6_spells 8 = .ok (.iconst 0, 1) := by decide +kernel
theorem dX6_spells_9 : decode cX6_spells 9 = .ok (.ireturn, 1) := by decide +kernel
theorem dX6_spells_10 : decode cX6_spells 10 = .ok (.iconst 0, 1) := by decide +kernel
theorem dX6_spells_11 : decode cX6_spells 11 = .ok (.istore 4, 2) := by decide +kernel
theorem dX6_spells_13 : decode cX6_spells 13 = .ok (.iload 4, 2) := by decide +kernel
theorem dX6_spells_15 : decode cX6_spells 15 = .ok (.iload_n 2, 1) := by decide +kernel
theorem dX6_spells_16 : decode cX6_spells 16 = .ok (.if_icmp .ge 37, 3) := by decide +kernel
theorem dX6_spells_19 : decode cX6_spells 19 = .ok (.iload 4, 2) := by decide +kernel
theorem dX6_spells_21 : decode cX6_spells 21 = .ok (.aload_n 3, 1) := by decide +kernel
theorem dX6_spells_22 : decode cX6_spells 22 = .ok (.invokevirtual 47, 3) := by decide +kernel
theorem dX6_spells_25 : decode cX6_spells 25 = .ok (.if_icmp .ge 28, 3) := by decide +kernel
theorem dX6_spells_28 : decode cX6_spells 28 = .ok (.aload_n 0, 1) := by decide +kernel
theorem dX6_spells_29 : decode cX6_spells 29 = .ok (.iload_n 1, 1) := by decide +kernel
theorem dX6_spells_30 : decode cX6_spells 30 = .ok (.iload 4, 2) := by decide +kernel
theorem dX6_spells_32 : decode cX6_spells 32 = .ok (.iadd, 1) := by decide +kernel
theorem dX6_spells_33 : decode cX6_spells 33 = .ok (.invokevirtual 52, 3) := by decide +kernel
theorem dX6_spells_36 : decode cX6_spells 36 = .ok (.aload_n 3, 1) := by decide +kernel
theorem dX6_spells_37 : decode cX6_spells 37 = .ok (.iload 4, 2) := by decide +kernel
theorem dX6_spells_39 : decode cX6_spells 39 = .ok (.invokevirtual 55, 3) := by decide +kernel
theorem dX6_spells_42 : decode cX6_spells 42 = .ok (.if_icmp .eq 5, 3) := by decide +kernel
theorem dX6_spells_45 : decode cX6_spells 45 = .ok (.iconst 0, 1) := by decide +kernel
theorem dX6_spells_46 : decode cX6_spells 46 = .ok (.ireturn, 1) := by decide +kernel
theorem dX6_spells_47 : decode cX6_spells 47 = .ok (.iinc 4 1, 3) := by decide +kernel
theorem dX6_spells_50 : decode cX6_spells 50 = .ok (.goto (-37), 3) := by decide +kernel
theorem dX6_spells_53 : decode cX6_spells 53 = .ok (.iconst 1, 1) := by decide +kernel
theorem dX6_spells_54 : decode cX6_spells 54 = .ok (.ireturn, 1) := by decide +kernel
theorem dX6_countLetters_0 : decode cX6_countLetters 0 = .ok (.iload_n 1, 1) := by decide +kernel
theorem dX6_countLetters_1 : decode cX6_countLetters 1 = .ok (.istore_n 2, 1) := by decide +kernel
theorem dX6_countLetters_2 : decode cX6_countLetters 2 = .ok (.iload_n 2, 1) := by decide +kernel
theorem dX6_countLetters_3 : decode cX6_countLetters 3 = .ok (.aload_n 0, 1) := by decide +kernel
theorem dX6_countLetters_4 : decode cX6_countLetters 4 = .ok (.getfield 15, 3) := by decide +kernel
theorem dX6_countLetters_7 : decode cX6_countLetters 7 = .ok (.if_icmp .ge 20, 3) := by decide +kernel
theorem dX6_countLetters_10 : decode cX6_countLetters 10 = .ok (.aload_n 0, 1) := by decide +kernel
theorem dX6_countLetters_11 : decode cX6_countLetters 11 = .ok (.iload_n 2, 1) := by decide +kernel
theorem dX6_countLetters_12 : decode cX6_countLetters 12 = .ok (.invokevirtual 52, 3) := by decide +kernel
theorem dX6_countLetters_15 : decode cX6_countLetters 15 = .ok (.invokestatic 59, 3) := by decide +kernel
theorem dX6_countLetters_18 : decode cX6_countLetters 18 = .ok (.ifCond .eq 9, 3) := by decide +kernel
theorem dX6_countLetters_21 : decode cX6_countLetters 21 = .ok (.iinc 2 1, 3) := by decide +kernel
theorem dX6_countLetters_24 : decode cX6_countLetters 24 = .ok (.goto (-22), 3) := by decide +kernel
theorem dX6_countLetters_27 : decode cX6_countLetters 27 = .ok (.iload_n 2, 1) := by decide +kernel
theorem dX6_countLetters_28 : decode cX6_countLetters 28 = .ok (.iload_n 1, 1) := by decide +kernel
theorem dX6_countLetters_29 : decode cX6_countLetters 29 = .ok (.isub, 1) := by decide +kernel
theorem dX6_countLetters_30 : decode cX6_countLetters 30 = .ok (.ireturn, 1) := by decide +kernel
theorem dX6_countDigits_0 : decode cX6_countDigits 0 = .ok (.iload_n 1, 1) := by decide +kernel
theorem dX6_countDigits_1 : decode cX6_countDigits 1 = .ok (.istore_n 2, 1) := by decide +kernel
theorem dX6_countDigits_2 : decode cX6_countDigits 2 = .ok (.iload_n 2, 1) := by decide +kernel
theorem dX6_countDigits_3 : decode cX6_countDigits 3 = .ok (.aload_n 0, 1) := by decide +kernel
theorem dX6_countDigits_4 : decode cX6_countDigits 4 = .ok (.getfield 15, 3) := by decide +kernel
theorem dX6_countDigits_7 : decode cX6_countDigits 7 = .ok (.if_icmp .ge 20, 3) := by decide +kernel
theorem dX6_countDigits_10 : decode cX6_countDigits 10 = .ok (.aload_n 0, 1) := by decide +kernel
theorem dX6_countDigits_11 : decode cX6_countDigits 11 = .ok (.iload_n 2, 1) := by decide +kernel
theorem dX6_countDigits_12 : decode cX6_countDigits 12 = .ok (.invokevirtual 52, 3) := by decide +kernel
theorem dX6_countDigits_15 : decode cX6_countDigits 15 = .ok (.invokestatic 63, 3) := by decide +kernel
theorem dX6_countDigits_18 : decode cX6_countDigits 18 = .ok (.ifCond .eq 9, 3) := by decide +kernel
theorem dX6_countDigits_21 : decode cX6_countDigits 21 = .ok (.iinc 2 1, 3) := by decide +kernel
theorem dX6_countDigits_24 : decode cX6_countDigits 24 = .ok (.goto (-22), 3) := by decide +kernel
theorem dX6_countDigits_27 : decode cX6_countDigits 27 = .ok (.iload_n 2, 1) := by decide +kernel
theorem dX6_countDigits_28 : decode cX6_countDigits 28 = .ok (.iload_n 1, 1) := by decide +kernel
theorem dX6_countDigits_29 : decode cX6_countDigits 29 = .ok (.isub, 1) := by decide +kernel
theorem dX6_countDigits_30 : decode cX6_countDigits 30 = .ok (.ireturn, 1) := by decide +kernel
theorem dX6_countSpaces_0 : decode cX6_countSpaces 0 = .ok (.iload_n 1, 1) := by decide +kernel
theorem dX6_countSpaces_1 : decode cX6_countSpaces 1 = .ok (.istore_n 2, 1) := by decide +kernel
theorem dX6_countSpaces_2 : decode cX6_countSpaces 2 = .ok (.iload_n 2, 1) := by decide +kernel
theorem dX6_countSpaces_3 : decode cX6_countSpaces 3 = .ok (.aload_n 0, 1) := by decide +kernel
theorem dX6_countSpaces_4 : decode cX6_countSpaces 4 = .ok (.getfield 15, 3) := by decide +kernel
theorem dX6_countSpaces_7 : decode cX6_countSpaces 7 = .ok (.if_icmp .ge 29, 3) := by decide +kernel
theorem dX6_countSpaces_10 : decode cX6_countSpaces 10 = .ok (.aload_n 0, 1) := by decide +kernel
theorem dX6_countSpaces_11 : decode cX6_countSpaces 11 = .ok (.iload_n 2, 1) := by decide +kernel
theorem dX6_countSpaces_12 : decode cX6_countSpaces 12 = .ok (.invokevirtual 52, 3) := by decide +kernel
theorem dX6_countSpaces_15 : decode cX6_countSpaces 15 = .ok (.bipush 32, 2) := by decide +kernel
theorem dX6_countSpaces_17 : decode cX6_countSpaces 17 = .ok (.if_icmp .eq 13, 3) := by decide +kernel
theorem dX6_countSpaces_20 : decode cX6_countSpaces 20 = .ok (.aload_n 0, 1) := by decide +kernel
theorem dX6_countSpaces_21 : decode cX6_countSpaces 21 = .ok (.iload_n 2, 1) := by decide +kernel
theorem dX6_countSpaces_22 : decode cX6_countSpaces 22 = .ok (.invokevirtual 52, 3) := by decide +kernel
theorem dX6_countSpaces_25 : decode cX6_countSpaces 25 = .ok (.bipush 10, 2) := by decide +kernel
theorem dX6_countSpaces_27 : decode cX6_countSpaces 27 = .ok (.if_icmp .ne 9, 3) := by decide +kernel
theorem dX6_countSpaces_30 : decode cX6_countSpaces 30 = .ok (.iinc 2 1, 3) := by decide +kernel
theorem dX6_countSpaces_33 : decode cX6_countSpaces 33 = .ok (.goto (-31), 3) := by decide +kernel
theorem dX6_countSpaces_36 : decode cX6_countSpaces 36 = .ok (.iload_n 2, 1) := by decide +kernel
theorem dX6_countSpaces_37 : decode cX6_countSpaces 37 = .ok (.iload_n 1, 1) := by decide +kernel
theorem dX6_countSpaces_38 : decode cX6_countSpaces 38 = .ok (.isub, 1) := by decide +kernel
theorem dX6_countSpaces_39 : decode cX6_countSpaces 39 = .ok (.ireturn, 1) := by decide +kernel
theorem dX6_isLetter_0 : decode cX6_isLetter 0 = .ok (.iload_n 0, 1) := by decide +kernel
theorem dX6_isLetter_1 : decode cX6_isLetter 1 = .ok (.bipush 97, 2) := by decide +kernel
theorem dX6_isLetter_3 : decode cX6_isLetter 3 = .ok (.if_icmp .lt 13, 3) := by decide +kernel
theorem dX6_isLetter_6 : decode cX6_isLetter 6 = .ok (.iload_n 0, 1) := by decide +kernel
theorem dX6_isLetter_7 : decode cX6_isLetter 7 = .ok (.bipush 122, 2) := by decide +kernel
theorem dX6_isLetter_9 : decode cX6_isLetter 9 = .ok (.if_icmp .gt 7, 3) := by decide +kernel
theorem dX6_isLetter_12 : decode cX6_isLetter 12 = .ok (.iconst 1, 1) := by decide +kernel
theorem dX6_isLetter_13 : decode cX6_isLetter 13 = .ok (.goto 4, 3) := by decide +kernel
theorem dX6_isLetter_16 : decode cX6_isLetter 16 = .ok (.iconst 0, 1) := by decide +kernel
theorem dX6_isLetter_17 : decode cX6_isLetter 17 = .ok (.ireturn, 1) := by decide +kernel
theorem dX6_isDigit_0 : decode cX6_isDigit 0 = .ok (.iload_n 0, 1) := by decide +kernel
theorem dX6_isDigit_1 : decode cX6_isDigit 1 = .ok (.bipush 48, 2) := by decide +kernel
theorem dX6_isDigit_3 : decode cX6_isDigit 3 = .ok (.if_icmp .lt 13, 3) := by decide +kernel
theorem dX6_isDigit_6 : decode cX6_isDigit 6 = .ok (.iload_n 0, 1) := by decide +kernel
theorem dX6_isDigit_7 : decode cX6_isDigit 7 = .ok (.bipush 57, 2) := by decide +kernel
theorem dX6_isDigit_9 : decode cX6_isDigit 9 = .ok (.if_icmp .gt 7, 3) := by decide +kernel
theorem dX6_isDigit_12 : decode cX6_isDigit 12 = .ok (.iconst 1, 1) := by decide +kernel
theorem dX6_isDigit_13 : decode cX6_isDigit 13 = .ok (.goto 4, 3) := by decide +kernel
theorem dX6_isDigit_16 : decode cX6_isDigit 16 = .ok (.iconst 0, 1) := by decide +kernel
theorem dX6_isDigit_17 : decode cX6_isDigit 17 = .ok (.ireturn, 1) := by decide +kernel
theorem dX7_init_0 : decode cX7_init 0 = .ok (.aload_n 0, 1) := by decide +kernel
theorem dX7_init_1 : decode cX7_init 1 = .ok (.invokespecial 3, 3) := by decide +kernel
theorem dX7_init_4 : decode cX7_init 4 = .ok (.aload_n 0, 1) := by decide +kernel
theorem dX7_init_5 : decode cX7_init 5 = .ok (.sipush 1024, 3) := by decide +kernel
theorem dX7_init_8 : decode cX7_init 8 = .ok (.newarray .int, 2) := by decide +kernel
theorem dX7_init_10 : decode cX7_init 10 = .ok (.putfield 9, 3) := by decide +kernel
theorem dX7_init_13 : decode cX7_init 13 = .ok (.return_, 1) := by decide +kernel
theorem dX7_byteAt_0 : decode cX7_byteAt 0 = .ok (.iload_n 1, 1) := by decide +kernel
theorem dX7_byteAt_1 : decode cX7_byteAt 1 = .ok (.ifCond .lt 20, 3) := by decide +kernel
theorem dX7_byteAt_4 : decode cX7_byteAt 4 = .ok (.iload_n 1, 1) := by decide +kernel
theorem dX7_byteAt_5 : decode cX7_byteAt 5 = .ok (.aload_n 0, 1) := by decide +kernel
theorem dX7_byteAt_6 : decode cX7_byteAt 6 = .ok (.getfield 15, 3) := by decide +kernel
theorem dX7_byteAt_9 : decode cX7_byteAt 9 = .ok (.if_icmp .ge 12, 3) := by decide +kernel
theorem dX7_byteAt_12 : decode cX7_byteAt 12 = .ok (.aload_n 0, 1) := by decide +kernel
theorem dX7_byteAt_13 : decode cX7_byteAt 13 = .ok (.getfield 9, 3) := by decide +kernel
theorem dX7_byteAt_16 : decode cX7_byteAt 16 = .ok (.iload_n 1, 1) := by decide +kernel
theorem dX7_byteAt_17 : decode cX7_byteAt 17 = .ok (.iaload, 1) := by decide +kernel
theorem dX7_byteAt_18 : decode cX7_byteAt 18 = .ok (.goto 5, 3) := by decide +kernel
theorem dX7_byteAt_21 : decode cX7_byteAt 21 = .ok (.bipush (-2), 2) := by decide +kernel
theorem dX7_byteAt_23 : decode cX7_byteAt 23 = .ok (.ireturn, 1) := by decide +kernel
theorem dX7_writeList_0 : decode cX7_writeList 0 = .ok (.aload_n 0, 1) := by decide +kernel
theorem dX7_writeList_1 : decode cX7_writeList 1 = .ok (.iconst 0, 1) := by decide +kernel
theorem dX7_writeList_2 : decode cX7_writeList 2 = .ok (.putfield 15, 3) := by decide +kernel
theorem dX7_writeList_5 : decode cX7_writeList 5 = .ok (.iconst 0, 1) := by decide +kernel
theorem dX7_writeList_6 : decode cX7_writeList 6 = .ok (.istore_n 3, 1) := by decide +kernel
theorem dX7_writeList_7 : decode cX7_writeList 7 = .ok (.iload_n 3, 1) := by decide +kernel
theorem dX7_writeList_8 : decode cX7_writeList 8 = .ok (.aload_n 1, 1) := by decide +kernel
theorem dX7_writeList_9 : decode cX7_writeList 9 = .ok (.getfield 19, 3) := by decide +kernel
theorem dX7_writeList_12 : decode cX7_writeList 12 = .ok (.if_icmp .ge 78, 3) := by decide +kernel
theorem dX7_writeList_15 : decode cX7_writeList 15 = .ok (.aload_n 0, 1) := by decide +kernel
theorem dX7_writeList_16 : decode cX7_writeList 16 = .ok (.aload_n 1, 1) := by decide +kernel
theorem dX7_writeList_17 : decode cX7_writeList 17 = .ok (.iload_n 3, 1) := by decide +kernel
theorem dX7_writeList_18 : decode cX7_writeList 18 = .ok (.invokevirtual 24, 3) := by decide +kernel
theorem dX7_writeList_21 : decode cX7_writeList 21 = .ok (.aload_n 0, 1) := by decide +kernel
theorem dX7_writeList_22 : decode cX7_writeList 22 = .ok (.bipush 32, 2) := by decide +kernel
theorem dX7_writeList_24 : decode cX7_writeList 24 = .ok (.invokevirtual 28, 3) := by decide +kernel
theorem dX7_writeList_27 : decode cX7_writeList 27 = .ok (.aload_n 0, 1) := by decide +kernel
theorem dX7_writeList_28 : decode cX7_writeList 28 = .ok (.aload_n 2, 1) := by decide +kernel
theorem dX7_writeList_29 : decode cX7_writeList 29 = .ok (.iload_n 3, 1) := by decide +kernel
theorem dX7_writeList_30 : decode cX7_writeList 30 = .ok (.invokevirtual 32, 3) := by decide +kernel
theorem dX7_writeList_33 : decode cX7_writeList 33 = .ok (.invokevirtual 38, 3) := by decide +kernel
theorem dX7_writeList_36 : decode cX7_writeList 36 = .ok (.aload_n 2, 1) := by decide +kernel
theorem dX7_writeList_37 : decode cX7_writeList 37 = .ok (.iload_n 3, 1) := by decide +kernel
theorem dX7_writeList_38 : decode cX7_writeList 38 = .ok (.invokevirtual 41, 3) := by decide +kernel
theorem dX7_writeList_41 : decode cX7_writeList 41 = .ok (.aload_n 2, 1) := by decide +kernel
theorem dX7_writeList_42 : decode cX7_writeList 42 = .ok (.iload_n 3, 1) := by decide +kernel
theorem dX7_writeList_43 : decode cX7_writeList 43 = .ok (.invokevirtual 32, 3) := by decide +kernel
theorem dX7_writeList_46 : decode cX7_writeList 46 = .ok (.if_icmp .eq 18, 3) := by decide +kernel
theorem dX7_writeList_49 : decode cX7_writeList 49 = .ok (.aload_n 0, 1) := by decide +kernel
theorem dX7_writeList_50 : decode cX7_writeList 50 = .ok (.bipush 45, 2) := by decide +kernel
theorem dX7_writeList_52 : decode cX7_writeList 52 = .ok (.invokevirtual 28, 3) := by decide +kernel
theorem dX7_writeList_55 : decode cX7_writeList 55 = .ok (.aload_n 0, 1) := by decide +kernel
theorem dX7_writeList_56 : decode cX7_writeList 56 = .ok (.aload_n 2, 1) := by decide +kernel
theorem dX7_writeList_57 : decode cX7_writeList 57 = .ok (.iload_n 3, 1) := by decide +kernel
theorem dX7_writeList_58 : decode cX7_writeList 58 = .ok (.invokevirtual 41, 3) := by decide +kernel
theorem dX7_writeList_61 : decode cX7_writeList 61 = .ok (.invokevirtual 38, 3) := by decide +kernel
theorem dX7_writeList_64 : decode cX7_writeList 64 = .ok (.aload_n 1, 1) := by decide +kernel
theorem dX7_writeList_65 : decode cX7_writeList 65 = .ok (.iload_n 3, 1) := by decide +kernel
theorem dX7_writeList_66 : decode cX7_writeList 66 = .ok (.invokevirtual 44, 3) := by decide +kernel
theorem dX7_writeList_69 : decode cX7_writeList 69 = .ok (.ifCond .eq 9, 3) := by decide +kernel
theorem dX7_writeList_72 : decode cX7_writeList 72 = .ok (.aload_n 0, 1) := by decide +kernel
theorem dX7_writeList_73 : decode cX7_writeList 73 = .ok (.bipush 33, 2) := by decide +kernel
theorem dX7_writeList_75 : decode cX7_writeList 75 = .ok (.invokevirtual 28, 3) := by decide +kernel
theorem dX7_writeList_78 : decode cX7_writeList 78 = .ok (.aload_n 0, 1) := by decide +kernel
theorem dX7_writeList_79 : decode cX7_writeList 79 = .ok (.bipush 10, 2) := by decide +kernel
theorem dX7_writeList_81 : decode cX7_writeList 81 = .ok (.invokevirtual 28, 3) := by decide +kernel
theorem dX7_writeList_84 : decode cX7_writeList 84 = .ok (.iinc 3 1, 3) := by decide +kernel
theorem dX7_writeList_87 : decode cX7_writeList 87 = .ok (.goto (-80), 3) := by decide +kernel
theorem dX7_writeList_90 : decode cX7_writeList 90 = .ok (.return_, 1) := by decide +kernel
theorem dX7_writeSetup_0 : decode cX7_writeSetup 0 = .ok (.aload_n 0, 1) := by decide +kernel
theorem dX7_writeSetup_1 : decode cX7_writeSetup 1 = .ok (.iconst 0, 1) := by decide +kernel
theorem dX7_writeSetup_2 : decode cX7_writeSetup 2 = .ok (.putfield 15, 3) := by decide +kernel
theorem dX7_writeSetup_5 : decode cX7_writeSetup 5 = .ok (.aload_n 0, 1) := by decide +kernel
theorem dX7_writeSetup_6 : decode cX7_writeSetup 6 = .ok (.ldc 48, 2) := by decide +kernel
theorem dX7_writeSetup_8 : decode cX7_writeSetup 8 = .ok (.invokevirtual 50, 3) := by decide +kernel
theorem dX7_writeSetup_11 : decode cX7_writeSetup 11 = .ok (.aload_n 0, 1) := by decide +kernel
theorem dX7_writeSetup_12 : decode cX7_writeSetup 12 = .ok (.aload_n 1, 1) := by decide +kernel
theorem dX7_writeSetup_13 : decode cX7_writeSetup 13 = .ok (.getfield 54, 3) := by decide +kernel
theorem dX7_writeSetup_16 : decode cX7_writeSetup 16 = .ok (.invokevirtual 38, 3) := by decide +kernel
theorem dX7_writeSetup_19 : decode cX7_writeSetup 19 = .ok (.aload_n 0, 1) := by decide +kernel
theorem dX7_writeSetup_20 : decode cX7_writeSetup 20 = .ok (.bipush 59, 2) := by decide +kernel
theorem dX7_writeSetup_22 : decode cX7_writeSetup 22 = .ok (.invokevirtual 28, 3) := by decide +kernel
theorem dX7_writeSetup_25 : decode cX7_writeSetup 25 = .ok (.iconst 1, 1) := by decide +kernel
theorem dX7_writeSetup_26 : decode cX7_writeSetup 26 = .ok (.istore_n 2, 1) := by decide +kernel
theorem dX7_writeSetup_27 : decode cX7_writeSetup 27 = .ok (.iload_n 2, 1) := by decide +kernel
theorem dX7_writeSetup_28 : decode cX7_writeSetup 28 = .ok (.aload_n 1, 1) := by decide +kernel
theorem dX7_writeSetup_29 : decode cX7_writeSetup 29 = .ok (.getfield 19, 3) := by decide +kernel
theorem dX7_writeSetup_32 : decode cX7_writeSetup 32 = .ok (.if_icmp .ge 27, 3) := by decide +kernel
theorem dX7_writeSetup_35 : decode cX7_writeSetup 35 = .ok (.aload_n 0, 1) := by decide +kernel
theorem dX7_writeSetup_36 : decode cX7_writeSetup 36 = .ok (.ldc 57, 2) := by decide +kernel
theorem dX7_writeSetup_38 : decode cX7_writeSetup 38 = .ok (.invokevirtual 50, 3) := by decide +kernel
theorem dX7_writeSetup_41 : decode cX7_writeSetup 41 = .ok (.aload_n 0, 1) := by decide +kernel
theorem dX7_writeSetup_42 : decode cX7_writeSetup 42 = .ok (.aload_n 1, 1) := by decide +kernel
theorem dX7_writeSetup_43 : decode cX7_writeSetup 43 = .ok (.iload_n 2, 1) := by decide +kernel
theorem dX7_writeSetup_44 : decode cX7_writeSetup 44 = .ok (.invokevirtual 24, 3) := by decide +kernel
theorem dX7_writeSetup_47 : decode cX7_writeSetup 47 = .ok (.aload_n 0, 1) := by decide +kernel
theorem dX7_writeSetup_48 : decode cX7_writeSetup 48 = .ok (.bipush 59, 2) := by decide +kernel
theorem dX7_writeSetup_50 : decode cX7_writeSetup 50 = .ok (.invokevirtual 28, 3) := by decide +kernel
theorem dX7_writeSetup_53 : decode cX7_writeSetup 53 = .ok (.iinc 2 1, 3) := by decide +kernel
theorem dX7_writeSetup_56 : decode cX7_writeSetup 56 = .ok (.goto (-29), 3) := by decide +kernel
theorem dX7_writeSetup_59 : decode cX7_writeSetup 59 = .ok (.iconst 0, 1) := by decide +kernel
theorem dX7_writeSetup_60 : decode cX7_writeSetup 60 = .ok (.istore_n 2, 1) := by decide +kernel
theorem dX7_writeSetup_61 : decode cX7_writeSetup 61 = .ok (.iload_n 2, 1) := by decide +kernel
theorem dX7_writeSetup_62 : decode cX7_writeSetup 62 = .ok (.aload_n 1, 1) := by decide +kernel
theorem dX7_writeSetup_63 : decode cX7_writeSetup 63 = .ok (.getfield 59, 3) := by decide +kernel
theorem dX7_writeSetup_66 : decode cX7_writeSetup 66 = .ok (.if_icmp .ge 15, 3) := by decide +kernel
theorem dX7_writeSetup_69 : decode cX7_writeSetup 69 = .ok (.aload_n 0, 1) := by decide +kernel
theorem dX7_writeSetup_70 : decode cX7_writeSetup 70 = .ok (.aload_n 1, 1) := by decide +kernel
theorem dX7_writeSetup_71 : decode cX7_writeSetup 71 = .ok (.iload_n 2, 1) := by decide +kernel
theorem dX7_writeSetup_72 : decode cX7_writeSetup 72 = .ok (.invokevirtual 62, 3) := by decide +kernel
theorem dX7_writeSetup_75 : decode cX7_writeSetup 75 = .ok (.iinc 2 1, 3) := by decide +kernel
theorem dX7_writeSetup_78 : decode cX7_writeSetup 78 = .ok (.goto (-17), 3) := by decide +kernel
theorem dX7_writeSetup_81 : decode cX7_writeSetup 81 = .ok (.iconst 1, 1) := by decide +kernel
theorem dX7_writeSetup_82 : decode cX7_writeSetup 82 = .ok (.istore_n 2, 1) := by decide +kernel
theorem dX7_writeSetup_83 : decode cX7_writeSetup 83 = .ok (.iload_n 2, 1) := by decide +kernel
theorem dX7_writeSetup_84 : decode cX7_writeSetup 84 = .ok (.aload_n 1, 1) := by decide +kernel
theorem dX7_writeSetup_85 : decode cX7_writeSetup 85 = .ok (.getfield 19, 3) := by decide +kernel
theorem dX7_writeSetup_88 : decode cX7_writeSetup 88 = .ok (.if_icmp .ge 51, 3) := by decide +kernel
theorem dX7_writeSetup_91 : decode cX7_writeSetup 91 = .ok (.aload_n 1, 1) := by decide +kernel
theorem dX7_writeSetup_92 : decode cX7_writeSetup 92 = .ok (.iload_n 2, 1) := by decide +kernel
theorem dX7_writeSetup_93 : decode cX7_writeSetup 93 = .ok (.invokevirtual 44, 3) := by decide +kernel
theorem dX7_writeSetup_96 : decode cX7_writeSetup 96 = .ok (.ifCond .eq 37, 3) := by decide +kernel
theorem dX7_writeSetup_99 : decode cX7_writeSetup 99 = .ok (.aload_n 0, 1) := by decide +kernel
theorem dX7_writeSetup_100 : decode cX7_writeSetup 100 = .ok (.ldc 65, 2) := by decide +kernel
theorem dX7_writeSetup_102 : decode cX7_writeSetup 102 = .ok (.invokevirtual 50, 3) := by decide +kernel
theorem dX7_writeSetup_105 : decode cX7_writeSetup 105 = .ok (.aload_n 0, 1) := by decide +kernel
theorem dX7_writeSetup_106 : decode cX7_writeSetup 106 = .ok (.aload_n 1, 1) := by decide +kernel
theorem dX7_writeSetup_107 : decode cX7_writeSetup 107 = .ok (.iload_n 2, 1) := by decide +kernel
theorem dX7_writeSetup_108 : decode cX7_writeSetup 108 = .ok (.invokevirtual 24, 3) := by decide +kernel
theorem dX7_writeSetup_111 : decode cX7_writeSetup 111 = .ok (.aload_n 0, 1) := by decide +kernel
theorem dX7_writeSetup_112 : decode cX7_writeSetup 112 = .ok (.bipush 32, 2) := by decide +kernel
theorem dX7_writeSetup_114 : decode cX7_writeSetup 114 = .ok (.invokevirtual 28, 3) := by decide +kernel
theorem dX7_writeSetup_117 : decode cX7_writeSetup 117 = .ok (.aload_n 0, 1) := by decide +kernel
theorem dX7_writeSetup_118 : decode cX7_writeSetup 118 = .ok (.aload_n 1, 1) := by decide +kernel
theorem dX7_writeSetup_119 : decode cX7_writeSetup 119 = .ok (.getfield 67, 3) := by decide +kernel
theorem dX7_writeSetup_122 : decode cX7_writeSetup 122 = .ok (.iload_n 2, 1) := by decide +kernel
theorem dX7_writeSetup_123 : decode cX7_writeSetup 123 = .ok (.iaload, 1) := by decide +kernel
theorem dX7_writeSetup_124 : decode cX7_writeSetup 124 = .ok (.invokevirtual 38, 3) := by decide +kernel
theorem dX7_writeSetup_127 : decode cX7_writeSetup 127 = .ok (.aload_n 0, 1) := by decide +kernel
theorem dX7_writeSetup_128 : decode cX7_writeSetup 128 = .ok (.bipush 59, 2) := by decide +kernel
theorem dX7_writeSetup_130 : decode cX7_writeSetup 130 = .ok (.invokevirtual 28, 3) := by decide +kernel
theorem dX7_writeSetup_133 : decode cX7_writeSetup 133 = .ok (.iinc 2 1, 3) := by decide +kernel
theorem dX7_writeSetup_136 : decode cX7_writeSetup 136 = .ok (.goto (-53), 3) := by decide +kernel
theorem dX7_writeSetup_139 : decode cX7_writeSetup 139 = .ok (.return_, 1) := by decide +kernel
theorem dX7_putGap_0 : decode cX7_putGap 0 = .ok (.aload_n 0, 1) := by decide +kernel
theorem dX7_putGap_1 : decode cX7_putGap 1 = .ok (.ldc 70, 2) := by decide +kernel
theorem dX7_putGap_3 : decode cX7_putGap 3 = .ok (.invokevirtual 50, 3) := by decide +kernel
theorem dX7_putGap_6 : decode cX7_putGap 6 = .ok (.aload_n 0, 1) := by decide +kernel
theorem dX7_putGap_7 : decode cX7_putGap 7 = .ok (.aload_n 1, 1) := by decide +kernel
theorem dX7_putGap_8 : decode cX7_putGap 8 = .ok (.aload_n 1, 1) := by decide +kernel
theorem dX7_putGap_9 : decode cX7_putGap 9 = .ok (.getfield 72, 3) := by decide +kernel
theorem dX7_putGap_12 : decode cX7_putGap 12 = .ok (.iload_n 2, 1) := by decide +kernel
theorem dX7_putGap_13 : decode cX7_putGap 13 = .ok (.iaload, 1) := by decide +kernel
theorem dX7_putGap_14 : decode cX7_putGap 14 = .ok (.invokevirtual 24, 3) := by decide +kernel
theorem dX7_putGap_17 : decode cX7_putGap 17 = .ok (.aload_n 0, 1) := by decide +kernel
theorem dX7_putGap_18 : decode cX7_putGap 18 = .ok (.bipush 32, 2) := by decide +kernel
theorem dX7_putGap_20 : decode cX7_putGap 20 = .ok (.invokevirtual 28, 3) := by decide +kernel
theorem dX7_putGap_23 : decode cX7_putGap 23 = .ok (.aload_n 0, 1) := by decide +kernel
theorem dX7_putGap_24 : decode cX7_putGap 24 = .ok (.aload_n 1, 1) := by decide +kernel
theorem dX7_putGap_25 : decode cX7_putGap 25 = .ok (.aload_n 1, 1) := by decide +kernel
theorem dX7_putGap_26 : decode cX7_putGap 26 = .ok (.getfield 75, 3) := by decide +kernel
theorem dX7_putGap_29 : decode cX7_putGap 29 = .ok (.iload_n 2, 1) := by decide +kernel
theorem dX7_putGap_30 : decode cX7_putGap 30 = .ok (.iaload, 1) := by decide +kernel
theorem dX7_putGap_31 : decode cX7_putGap 31 = .ok (.invokevirtual 24, 3) := by decide +kernel
theorem dX7_putGap_34 : decode cX7_putGap 34 = .ok (.aload_n 0, 1) := by decide +kernel
theorem dX7_putGap_35 : decode cX7_putGap 35 = .ok (.aload_n 1, 1) := by decide +kernel
theorem dX7_putGap_36 : decode cX7_putGap 36 = .ok (.getfield 78, 3) := by decide +kernel
theorem dX7_putGap_39 : decode cX7_putGap 39 = .ok (.iload_n 2, 1) := by decide +kernel
theorem dX7_putGap_40 : decode cX7_putGap 40 = .ok (.iaload, 1) := by decide +kernel
theorem dX7_putGap_41 : decode cX7_putGap 41 = .ok (.ifCond .ne 8, 3) := by decide +kernel
theorem dX7_putGap_44 : decode cX7_putGap 44 = .ok (.ldc 81, 2) := by decide +kernel
theorem dX7_putGap_46 : decode cX7_putGap 46 = .ok (.goto 5, 3) := by decide +kernel
theorem dX7_putGap_49 : decode cX7_putGap 49 = .ok (.ldc 83, 2) := by decide +kernel
theorem dX7_putGap_51 : decode cX7_putGap 51 = .ok (.invokevirtual 50, 3) := by decide +kernel
theorem dX7_putGap_54 : decode cX7_putGap 54 = .ok (.aload_n 0, 1) := by decide +kernel
theorem dX7_putGap_55 : decode cX7_putGap 55 = .ok (.aload_n 1, 1) := by decide +kernel
theorem dX7_putGap_56 : decode cX7_putGap 56 = .ok (.getfield 85, 3) := by decide +kernel
theorem dX7_putGap_59 : decode cX7_putGap 59 = .ok (.iload_n 2, 1) := by decide +kernel
theorem dX7_putGap_60 : decode cX7_putGap 60 = .ok (.iaload, 1) := by decide +kernel
theorem dX7_putGap_61 : decode cX7_putGap 61 = .ok (.invokevirtual 38, 3) := by decide +kernel
theorem dX7_putGap_64 : decode cX7_putGap 64 = .ok (.aload_n 1, 1) := by decide +kernel
theorem dX7_putGap_65 : decode cX7_putGap 65 = .ok (.getfield 88, 3) := by decide +kernel
theorem dX7_putGap_68 : decode cX7_putGap 68 = .ok (.iload_n 2, 1) := by decide +kernel
theorem dX7_putGap_69 : decode cX7_putGap 69 = .ok (.baload, 1) := by decide +kernel
theorem dX7_putGap_70 : decode cX7_putGap 70 = .ok (.ifCond .ne 9, 3) := by decide +kernel
theorem dX7_putGap_73 : decode cX7_putGap 73 = .ok (.aload_n 0, 1) := by decide +kernel
theorem dX7_putGap_74 : decode cX7_putGap 74 = .ok (.ldc 92, 2) := by decide +kernel
theorem dX7_putGap_76 : decode cX7_putGap 76 = .ok (.invokevirtual 50, 3) := by decide +kernel
theorem dX7_putGap_79 : decode cX7_putGap 79 = .ok (.aload_n 0, 1) := by decide +kernel
theorem dX7_putGap_80 : decode cX7_putGap 80 = .ok (.bipush 59, 2) := by decide +kernel
theorem dX7_putGap_82 : decode cX7_putGap 82 = .ok (.invokevirtual 28, 3) := by decide +kernel
theorem dX7_putGap_85 : decode cX7_putGap 85 = .ok (.return_, 1) := by decide +kernel
theorem dX7_putName_0 : decode cX7_putName 0 = .ok (.iconst 0, 1) := by decide +kernel
theorem dX7_putName_1 : decode cX7_putName 1 = .ok (.istore_n 3, 1) := by decide +kernel
theorem dX7_putName_2 : decode cX7_putName 2 = .ok (.iload_n 3, 1) := by decide +kernel
theorem dX7_putName_3 : decode cX7_putName 3 = .ok (.aload_n 1, 1) := by decide +kernel
theorem dX7_putName_4 : decode cX7_putName 4 = .ok (.getfield 94, 3) := by decide +kernel
theorem dX7_putName_7 : decode cX7_putName 7 = .ok (.iload_n 2, 1) := by decide +kernel
theorem dX7_putName_8 : decode cX7_putName 8 = .ok (.iaload, 1) := by decide +kernel
theorem dX7_putName_9 : decode cX7_putName 9 = .ok (.if_icmp .ge 19, 3) := by decide +kernel
theorem dX7_putName_12 : decode cX7_putName 12 = .ok (.aload_n 0, 1) := by decide +kernel
theorem dX7_putName_13 : decode cX7_putName 13 = .ok (.aload_n 1, 1) := by decide +kernel
theorem dX7_putName_14 : decode cX7_putName 14 = .ok (.iload_n 2, 1) := by decide +kernel
theorem dX7_putName_15 : decode cX7_putName 15 = .ok (.iload_n 3, 1) := by decide +kernel
theorem dX7_putName_16 : decode cX7_putName 16 = .ok (.invokevirtual 97, 3) := by decide +kernel
theorem dX7_putName_19 : decode cX7_putName 19 = .ok (.invokevirtual 28, 3) := by decide +kernel
theorem dX7_putName_22 : decode cX7_putName 22 = .ok (.iinc 3 1, 3) := by decide +kernel
theorem dX7_putName_25 : decode cX7_putName 25 = .ok (.goto (-23), 3) := by decide +kernel
theorem dX7_putName_28 : decode cX7_putName 28 = .ok (.return_, 1) := by decide +kernel
theorem dX7_putWord_0 : decode cX7_putWord 0 = .ok (.iconst 0, 1) := by decide +kernel
theorem dX7_putWord_1 : decode cX7_putWord 1 = .ok (.istore_n 2, 1) := by decide +kernel
theorem dX7_putWord_2 : decode cX7_putWord 2 = .ok (.iload_n 2, 1) := by decide +kernel
theorem dX7_putWord_3 : decode cX7_putWord 3 = .ok (.aload_n 1, 1) := by decide +kernel
theorem dX7_putWord_4 : decode cX7_putWord 4 = .ok (.invokevirtual 101, 3) := by decide +kernel
theorem dX7_putWord_7 : decode cX7_putWord 7 = .ok (.if_icmp .ge 18, 3) := by decide +kernel
theorem dX7_putWord_10 : decode cX7_putWord 10 = .ok (.aload_n 0, 1) := by decide +kernel
theorem dX7_putWord_11 : decode cX7_putWord 11 = .ok (.aload_n 1, 1) := by decide +kernel
theorem dX7_putWord_12 : decode cX7_putWord 12 = .ok (.iload_n 2, 1) := by decide +kernel
theorem dX7_putWord_13 : decode cX7_putWord 13 = .ok (.invokevirtual 106, 3) := by decide +kernel
theorem dX7_putWord_16 : decode cX7_putWord 16 = .ok (.invokevirtual 28, 3) := by decide +kernel
theorem dX7_putWord_19 : decode cX7_putWord 19 = .ok (.iinc 2 1, 3) := by decide +kernel
theorem dX7_putWord_22 : decode cX7_putWord 22 = .ok (.goto (-20), 3) := by decide +kernel
theorem dX7_putWord_25 : decode cX7_putWord 25 = .ok (.return_, 1) := by decide +kernel
theorem dX7_putNumber_0 : decode cX7_putNumber 0 = .ok (.iload_n 1, 1) := by decide +kernel
theorem dX7_putNumber_1 : decode cX7_putNumber 1 = .ok (.bipush 100, 2) := by decide +kernel
theorem dX7_putNumber_3 : decode cX7_putNumber 3 = .ok (.if_icmp .lt 17, 3) := by decide +kernel
theorem dX7_putNumber_6 : decode cX7_putNumber 6 = .ok (.aload_n 0, 1) := by decide +kernel
theorem dX7_putNumber_7 : decode cX7_putNumber 7 = .ok (.bipush 48, 2) := by decide +kernel
theorem dX7_putNumber_9 : decode cX7_putNumber 9 = .ok (.iload_n 1, 1) := by decide +kernel
theorem dX7_putNumber_10 : decode cX7_putNumber 10 = .ok (.bipush 100, 2) := by decide +kernel
theorem dX7_putNumber_12 : decode cX7_putNumber 12 = .ok (.idiv, 1) := by decide +kernel
theorem dX7_putNumber_13 : decode cX7_putNumber 13 = .ok (.bipush 10, 2) := by decide +kernel
theorem dX7_putNumber_15 : decode cX7_putNumber 15 = .ok (.irem, 1) := by decide +kernel
theorem dX7_putNumber_16 : decode cX7_putNumber 16 = .ok (.iadd, 1) := by decide +kernel
theorem dX7_putNumber_17 : decode cX7_putNumber 17 = .ok (.invokevirtual 28, 3) := by decide +kernel
theorem dX7_putNumber_20 : decode cX7_putNumber 20 = .ok (.iload_n 1, 1) := by decide +kernel
theorem dX7_putNumber_21 : decode cX7_putNumber 21 = .ok (.bipush 10, 2) := by decide +kernel
theorem dX7_putNumber_23 : decode cX7_putNumber 23 = .ok (.if_icmp .lt 17, 3) := by decide +kernel
theorem dX7_putNumber_26 : decode cX7_putNumber 26 = .ok (.aload_n 0, 1) := by decide +kernel
theorem dX7_putNumber_27 : decode cX7_putNumber 27 = .ok (.bipush 48, 2) := by decide +kernel
theorem dX7_putNumber_29 : decode cX7_putNumber 29 = .ok (.iload_n 1, 1) := by decide +kernel
theorem dX7_putNumber_30 : decode cX7_putNumber 30 = .ok (.bipush 10, 2) := by decide +kernel
theorem dX7_putNumber_32 : decode cX7_putNumber 32 = .ok (.idiv, 1) := by decide +kernel
theorem dX7_putNumber_33 : decode cX7_putNumber 33 = .ok (.bipush 10, 2) := by decide +kernel
theorem dX7_putNumber_35 : decode cX7_putNumber 35 = .ok (.irem, 1) := by decide +kernel
theorem dX7_putNumber_36 : decode cX7_putNumber 36 = .ok (.iadd, 1) := by decide +kernel
theorem dX7_putNumber_37 : decode cX7_putNumber 37 = .ok (.invokevirtual 28, 3) := by decide +kernel
theorem dX7_putNumber_40 : decode cX7_putNumber 40 = .ok (.aload_n 0, 1) := by decide +kernel
theorem dX7_putNumber_41 : decode cX7_putNumber 41 = .ok (.bipush 48, 2) := by decide +kernel
theorem dX7_putNumber_43 : decode cX7_putNumber 43 = .ok (.iload_n 1, 1) := by decide +kernel
theorem dX7_putNumber_44 : decode cX7_putNumber 44 = .ok (.bipush 10, 2) := by decide +kernel
theorem dX7_putNumber_46 : decode cX7_putNumber 46 = .ok (.irem, 1) := by decide +kernel
theorem dX7_putNumber_47 : decode cX7_putNumber 47 = .ok (.iadd, 1) := by decide +kernel
theorem dX7_putNumber_48 : decode cX7_putNumber 48 = .ok (.invokevirtual 28, 3) := by decide +kernel
theorem dX7_putNumber_51 : decode cX7_putNumber 51 = .ok (.return_, 1) := by decide +kernel
theorem dX7_put_0 : decode cX7_put 0 = .ok (.aload_n 0, 1) := by decide +kernel
theorem dX7_put_1 : decode cX7_put 1 = .ok (.getfield 15, 3) := by decide +kernel
theorem dX7_put_4 : decode cX7_put 4 = .ok (.sipush 1024, 3) := by decide +kernel
theorem dX7_put_7 : decode cX7_put 7 = .ok (.if_icmp .ge 23, 3) := by decide +kernel
theorem dX7_put_10 : decode cX7_put 10 = .ok (.aload_n 0, 1) := by decide +kernel
theorem dX7_put_11 : decode cX7_put 11 = .ok (.getfield 9, 3) := by decide +kernel
theorem dX7_put_14 : decode cX7_put 14 = .ok (.aload_n 0, 1) := by decide +kernel
theorem dX7_put_15 : decode cX7_put 15 = .ok (.getfield 15, 3) := by decide +kernel
theorem dX7_put_18 : decode cX7_put 18 = .ok (.iload_n 1, 1) := by decide +kernel
theorem dX7_put_19 : decode cX7_put 19 = .ok (.iastore, 1) := by decide +kernel
theorem dX7_put_20 : decode cX7_put 20 = .ok (.aload_n 0, 1) := by decide +kernel
theorem dX7_put_21 : decode cX7_put 21 = .ok (.dup, 1) := by decide +kernel
theorem dX7_put_22 : decode cX7_put 22 = .ok (.getfield 15, 3) := by decide +kernel
theorem dX7_put_25 : decode cX7_put 25 = .ok (.iconst 1, 1) := by decide +kernel
theorem dX7_put_26 : decode cX7_put 26 = .ok (.iadd, 1) := by decide +kernel
theorem dX7_put_27 : decode cX7_put 27 = .ok (.putfield 15, 3) := by decide +kernel
theorem dX7_put_30 : decode cX7_put 30 = .ok (.return_, 1) := by decide +kernel
theorem dX8_init_0 : decode cX8_init 0 = .ok (.aload_n 0, 1) := by decide +kernel
theorem dX8_init_1 : decode cX8_init 1 = .ok (.invokespecial 3, 3) := by decide +kernel
theorem dX8_init_4 : decode cX8_init 4 = .ok (.aload_n 0, 1) := by decide +kernel
theorem dX8_init_5 : decode cX8_init 5 = .ok (.new 9, 3) := by decide +kernel
theorem dX8_init_8 : decode cX8_init 8 = .ok (.dup, 1) := by decide +kernel
theorem dX8_init_9 : decode cX8_init 9 = .ok (.invokespecial 11, 3) := by decide +kernel
theorem dX8_init_12 : decode cX8_init 12 = .ok (.putfield 12, 3) := by decide +kernel
theorem dX8_init_15 : decode cX8_init 15 = .ok (.aload_n 0, 1) := by decide +kernel
theorem dX8_init_16 : decode cX8_init 16 = .ok (.new 16, 3) := by decide +kernel
theorem dX8_init_19 : decode cX8_init 19 = .ok (.dup, 1) := by decide +kernel
theorem dX8_init_20 : decode cX8_init 20 = .ok (.invokespecial 18, 3) := by decide +kernel
theorem dX8_init_23 : decode cX8_init 23 = .ok (.putfield 19, 3) := by decide +kernel
theorem dX8_init_26 : decode cX8_init 26 = .ok (.aload_n 0, 1) := by decide +kernel
theorem dX8_init_27 : decode cX8_init 27 = .ok (.new 16, 3) := by decide +kernel
theorem dX8_init_30 : decode cX8_init 30 = .ok (.dup, 1) := by decide +kernel
theorem dX8_init_31 : decode cX8_init 31 = .ok (.invokespecial 18, 3) := by decide +kernel
theorem dX8_init_34 : decode cX8_init 34 = .ok (.putfield 23, 3) := by decide +kernel
theorem dX8_init_37 : decode cX8_init 37 = .ok (.aload_n 0, 1) := by decide +kernel
theorem dX8_init_38 : decode cX8_init 38 = .ok (.new 26, 3) := by decide +kernel
theorem dX8_init_41 : decode cX8_init 41 = .ok (.dup, 1) := by decide +kernel
theorem dX8_init_42 : decode cX8_init 42 = .ok (.invokespecial 28, 3) := by decide +kernel
theorem dX8_init_45 : decode cX8_init 45 = .ok (.putfield 29, 3) := by decide +kernel
theorem dX8_init_48 : decode cX8_init 48 = .ok (.aload_n 0, 1) := by decide +kernel
theorem dX8_init_49 : decode cX8_init 49 = .ok (.new 33, 3) := by decide +kernel
theorem dX8_init_52 : decode cX8_init 52 = .ok (.dup, 1) := by decide +kernel
theorem dX8_init_53 : decode cX8_init 53 = .ok (.invokespecial 35, 3) := by decide +kernel
theorem dX8_init_56 : decode cX8_init 56 = .ok (.putfield 36, 3) := by decide +kernel
theorem dX8_init_59 : decode cX8_init 59 = .ok (.aload_n 0, 1) := by decide +kernel
theorem dX8_init_60 : decode cX8_init 60 = .ok (.new 40, 3) := by decide +kernel
theorem dX8_init_63 : decode cX8_init 63 = .ok (.dup, 1) := by decide +kernel
theorem dX8_init_64 : decode cX8_init 64 = .ok (.invokespecial 42, 3) := by decide +kernel
theorem dX8_init_67 : decode cX8_init 67 = .ok (.putfield 43, 3) := by decide +kernel
theorem dX8_init_70 : decode cX8_init 70 = .ok (.aload_n 0, 1) := by decide +kernel
theorem dX8_init_71 : decode cX8_init 71 = .ok (.aload_n 0, 1) := by decide +kernel
theorem dX8_init_72 : decode cX8_init 72 = .ok (.getfield 43, 3) := by decide +kernel
theorem dX8_init_75 : decode cX8_init 75 = .ok (.getfield 47, 3) := by decide +kernel
theorem dX8_init_78 : decode cX8_init 78 = .ok (.putfield 51, 3) := by decide +kernel
theorem dX8_init_81 : decode cX8_init 81 = .ok (.aload_n 0, 1) := by decide +kernel
theorem dX8_init_82 : decode cX8_init 82 = .ok (.new 52, 3) := by decide +kernel
theorem dX8_init_85 : decode cX8_init 85 = .ok (.dup, 1) := by decide +kernel
theorem dX8_init_86 : decode cX8_init 86 = .ok (.invokespecial 54, 3) := by decide +kernel
theorem dX8_init_89 : decode cX8_init 89 = .ok (.putfield 55, 3) := by decide +kernel
theorem dX8_init_92 : decode cX8_init 92 = .ok (.aload_n 0, 1) := by decide +kernel
theorem dX8_init_93 : decode cX8_init 93 = .ok (.bipush (-2), 2) := by decide +kernel
theorem dX8_init_95 : decode cX8_init 95 = .ok (.putfield 59, 3) := by decide +kernel
theorem dX8_init_98 : decode cX8_init 98 = .ok (.aload_n 0, 1) := by decide +kernel
theorem dX8_init_99 : decode cX8_init 99 = .ok (.getfield 12, 3) := by decide +kernel
theorem dX8_init_102 : decode cX8_init 102 = .ok (.invokevirtual 63, 3) := by decide +kernel
theorem dX8_init_105 : decode cX8_init 105 = .ok (.aload_n 0, 1) := by decide +kernel
theorem dX8_init_106 : decode cX8_init 106 = .ok (.getfield 19, 3) := by decide +kernel
theorem dX8_init_109 : decode cX8_init 109 = .ok (.aload_n 0, 1) := by decide +kernel
theorem dX8_init_110 : decode cX8_init 110 = .ok (.getfield 12, 3) := by decide +kernel
theorem dX8_init_113 : decode cX8_init 113 = .ok (.iconst (-1), 1) := by decide +kernel
theorem dX8_init_114 : decode cX8_init 114 = .ok (.invokevirtual 66, 3) := by decide +kernel
theorem dX8_init_117 : decode cX8_init 117 = .ok (.return_, 1) := by decide +kernel
theorem dX8_append_0 : decode cX8_append 0 = .ok (.aload_n 0, 1) := by decide +kernel
theorem dX8_append_1 : decode cX8_append 1 = .ok (.getfield 51, 3) := by decide +kernel
theorem dX8_append_4 : decode cX8_append 4 = .ok (.getfield 70, 3) := by decide +kernel
theorem dX8_append_7 : decode cX8_append 7 = .ok (.bipush 20, 2) := by decide +kernel
theorem dX8_append_9 : decode cX8_append 9 = .ok (.iadd, 1) := by decide +kernel
theorem dX8_append_10 : decode cX8_append 10 = .ok (.sipush 900, 3) := by decide +kernel
theorem dX8_append_13 : decode cX8_append 13 = .ok (.if_icmp .le 5, 3) := by decide +kernel
theorem dX8_append_16 : decode cX8_append 16 = .ok (.iconst (-1), 1) := by decide +kernel
theorem dX8_append_17 : decode cX8_append 17 = .ok (.ireturn, 1) := by decide +kernel
theorem dX8_append_18 : decode cX8_append 18 = .ok (.aload_n 0, 1) := by decide +kernel
theorem dX8_append_19 : decode cX8_append 19 = .ok (.getfield 51, 3) := by decide +kernel
theorem dX8_append_22 : decode cX8_append 22 = .ok (.iload_n 1, 1) := by decide +kernel
theorem dX8_append_23 : decode cX8_append 23 = .ok (.invokevirtual 75, 3) := by decide +kernel
theorem dX8_append_26 : decode cX8_append 26 = .ok (.aload_n 0, 1) := by decide +kernel
theorem dX8_append_27 : decode cX8_append 27 = .ok (.getfield 51, 3) := by decide +kernel
theorem dX8_append_30 : decode cX8_append 30 = .ok (.iload_n 2, 1) := by decide +kernel
theorem dX8_append_31 : decode cX8_append 31 = .ok (.invokevirtual 75, 3) := by decide +kernel
theorem dX8_append_34 : decode cX8_append 34 = .ok (.aload_n 0, 1) := by decide +kernel
theorem dX8_append_35 : decode cX8_append 35 = .ok (.getfield 51, 3) := by decide +kernel
theorem dX8_append_38 : decode cX8_append 38 = .ok (.iload_n 3, 1) := by decide +kernel
theorem dX8_append_39 : decode cX8_append 39 = .ok (.invokevirtual 75, 3) := by decide +kernel
theorem dX8_append_42 : decode cX8_append 42 = .ok (.aload_n 0, 1) := by decide +kernel
theorem dX8_append_43 : decode cX8_append 43 = .ok (.getfield 51, 3) := by decide +kernel
theorem dX8_append_46 : decode cX8_append 46 = .ok (.iload 4, 2) := by decide +kernel
theorem dX8_append_48 : decode cX8_append 48 = .ok (.invokevirtual 75, 3) := by decide +kernel
theorem dX8_append_51 : decode cX8_append 51 = .ok (.aload_n 0, 1) := by decide +kernel
theorem dX8_append_52 : decode cX8_append 52 = .ok (.getfield 51, 3) := by decide +kernel
theorem dX8_append_55 : decode cX8_append 55 = .ok (.iload 5, 2) := by decide +kernel
theorem dX8_append_57 : decode cX8_append 57 = .ok (.invokevirtual 75, 3) := by decide +kernel
theorem dX8_append_60 : decode cX8_append 60 = .ok (.aload_n 0, 1) := by decide +kernel
theorem dX8_append_61 : decode cX8_append 61 = .ok (.getfield 51, 3) := by decide +kernel
theorem dX8_append_64 : decode cX8_append 64 = .ok (.getfield 70, 3) := by decide +kernel
theorem dX8_append_67 : decode cX8_append 67 = .ok (.ireturn, 1) := by decide +kernel
theorem dX8_truncate_0 : decode cX8_truncate 0 = .ok (.iload_n 1, 1) := by decide +kernel
theorem dX8_truncate_1 : decode cX8_truncate 1 = .ok (.ifCond .lt 14, 3) := by decide +kernel
theorem dX8_truncate_4 : decode cX8_truncate 4 = .ok (.iload_n 1, 1) := by decide +kernel
theorem dX8_truncate_5 : decode cX8_truncate 5 = .ok (.aload_n 0, 1) := by decide +kernel
theorem dX8_truncate_6 : decode cX8_truncate 6 = .ok (.getfield 51, 3) := by decide +kernel
theorem dX8_truncate_9 : decode cX8_truncate 9 = .ok (.getfield 70, 3) := by decide +kernel
theorem dX8_truncate_12 : decode cX8_truncate 12 = .ok (.if_icmp .le 5, 3) := by decide +kernel
theorem dX8_truncate_15 : decode cX8_truncate 15 = .ok (.iconst (-1), 1) := by decide +kernel
theorem dX8_truncate_16 : decode cX8_truncate 16 = .ok (.ireturn, 1) := by decide +kernel
theorem dX8_truncate_17 : decode cX8_truncate 17 = .ok (.aload_n 0, 1) := by decide +kernel
theorem dX8_truncate_18 : decode cX8_truncate 18 = .ok (.getfield 51, 3) := by decide +kernel
theorem dX8_truncate_21 : decode cX8_truncate 21 = .ok (.dup, 1) := by decide +kernel
theorem dX8_truncate_22 : decode cX8_truncate 22 = .ok (.getfield 70, 3) := by decide +kernel
theorem dX8_truncate_25 : decode cX8_truncate 25 = .ok (.iload_n 1, 1) := by decide +kernel
theorem dX8_truncate_26 : decode cX8_truncate 26 = .ok (.isub, 1) := by decide +kernel
theorem dX8_truncate_27 : decode cX8_truncate 27 = .ok (.putfield 70, 3) := by decide +kernel
theorem dX8_truncate_30 : decode cX8_truncate 30 = .ok (.aload_n 0, 1) := by decide +kernel
theorem dX8_truncate_31 : decode cX8_truncate 31 = .ok (.getfield 51, 3) := by decide +kernel
theorem dX8_truncate_34 : decode cX8_truncate 34 = .ok (.getfield 70, 3) := by decide +kernel
theorem dX8_truncate_37 : decode cX8_truncate 37 = .ok (.ireturn, 1) := by decide +kernel
theorem dX8_load_0 : decode cX8_load 0 = .ok (.aload_n 0, 1) := by decide +kernel
theorem dX8_load_1 : decode cX8_load 1 = .ok (.getfield 43, 3) := by decide +kernel
theorem dX8_load_4 : decode cX8_load 4 = .ok (.invokevirtual 79, 3) := by decide +kernel
theorem dX8_load_7 : decode cX8_load 7 = .ok (.istore_n 1, 1) := by decide +kernel
theorem dX8_load_8 : decode cX8_load 8 = .ok (.aload_n 0, 1) := by decide +kernel
theorem dX8_load_9 : decode cX8_load 9 = .ok (.iload_n 1, 1) := by decide +kernel
theorem dX8_load_10 : decode cX8_load 10 = .ok (.ifCond .eq 8, 3) := by decide +kernel
theorem dX8_load_13 : decode cX8_load 13 = .ok (.bipush (-2), 2) := by decide +kernel
theorem dX8_load_15 : decode cX8_load 15 = .ok (.goto 10, 3) := by decide +kernel
theorem dX8_load_18 : decode cX8_load 18 = .ok (.aload_n 0, 1) := by decide +kernel
theorem dX8_load_19 : decode cX8_load 19 = .ok (.getfield 43, 3) := by decide +kernel
theorem dX8_load_22 : decode cX8_load 22 = .ok (.invokevirtual 83, 3) := by decide +kernel
theorem dX8_load_25 : decode cX8_load 25 = .ok (.putfield 59, 3) := by decide +kernel
theorem dX8_load_28 : decode cX8_load 28 = .ok (.aload_n 0, 1) := by decide +kernel
theorem dX8_load_29 : decode cX8_load 29 = .ok (.getfield 51, 3) := by decide +kernel
theorem dX8_load_32 : decode cX8_load 32 = .ok (.iconst 0, 1) := by decide +kernel
theorem dX8_load_33 : decode cX8_load 33 = .ok (.putfield 70, 3) := by decide +kernel
theorem dX8_load_36 : decode cX8_load 36 = .ok (.iload_n 1, 1) := by decide +kernel
theorem dX8_load_37 : decode cX8_load 37 = .ok (.ifCond .ne 5, 3) := by decide +kernel
theorem dX8_load_40 : decode cX8_load 40 = .ok (.iconst (-1), 1) := by decide +kernel
theorem dX8_load_41 : decode cX8_load 41 = .ok (.ireturn, 1) := by decide +kernel
theorem dX8_load_42 : decode cX8_load 42 = .ok (.aload_n 0, 1) := by decide +kernel
theorem dX8_load_43 : decode cX8_load 43 = .ok (.getfield 12, 3) := by decide +kernel
theorem dX8_load_46 : decode cX8_load 46 = .ok (.aload_n 0, 1) := by decide +kernel
theorem dX8_load_47 : decode cX8_load 47 = .ok (.getfield 43, 3) := by decide +kernel
theorem dX8_load_50 : decode cX8_load 50 = .ok (.getfield 87, 3) := by decide +kernel
theorem dX8_load_53 : decode cX8_load 53 = .ok (.invokevirtual 90, 3) := by decide +kernel
theorem dX8_load_56 : decode cX8_load 56 = .ok (.aload_n 0, 1) := by decide +kernel
theorem dX8_load_57 : decode cX8_load 57 = .ok (.getfield 36, 3) := by decide +kernel
theorem dX8_load_60 : decode cX8_load 60 = .ok (.invokevirtual 94, 3) := by decide +kernel
theorem dX8_load_63 : decode cX8_load 63 = .ok (.aload_n 0, 1) := by decide +kernel
theorem dX8_load_64 : decode cX8_load 64 = .ok (.getfield 29, 3) := by decide +kernel
theorem dX8_load_67 : decode cX8_load 67 = .ok (.invokevirtual 95, 3) := by decide +kernel
theorem dX8_load_70 : decode cX8_load 70 = .ok (.aload_n 0, 1) := by decide +kernel
theorem dX8_load_71 : decode cX8_load 71 = .ok (.getfield 19, 3) := by decide +kernel
theorem dX8_load_74 : decode cX8_load 74 = .ok (.aload_n 0, 1) := by decide +kernel
theorem dX8_load_75 : decode cX8_load 75 = .ok (.getfield 12, 3) := by decide +kernel
theorem dX8_load_78 : decode cX8_load 78 = .ok (.iconst (-1), 1) := by decide +kernel
theorem dX8_load_79 : decode cX8_load 79 = .ok (.invokevirtual 66, 3) := by decide +kernel
theorem dX8_load_82 : decode cX8_load 82 = .ok (.aload_n 0, 1) := by decide +kernel
theorem dX8_load_83 : decode cX8_load 83 = .ok (.getfield 12, 3) := by decide +kernel
theorem dX8_load_86 : decode cX8_load 86 = .ok (.getfield 96, 3) := by decide +kernel
theorem dX8_load_89 : decode cX8_load 89 = .ok (.ireturn, 1) := by decide +kernel
theorem dX8_errorPosition_0 : decode cX8_errorPosition 0 = .ok (.aload_n 0, 1) := by decide +kernel
theorem dX8_errorPosition_1 : decode cX8_errorPosition 1 = .ok (.getfield 59, 3) := by decide +kernel
theorem dX8_errorPosition_4 : decode cX8_errorPosition 4 = .ok (.ireturn, 1) := by decide +kernel
theorem dX8_open_0 : decode cX8_open 0 = .ok (.aload_n 0, 1) := by decide +kernel
theorem dX8_open_1 : decode cX8_open 1 = .ok (.invokevirtual 99, 3) := by decide +kernel
theorem dX8_open_4 : decode cX8_open 4 = .ok (.ifCond .ne 5, 3) := by decide +kernel
theorem dX8_open_7 : decode cX8_open 7 = .ok (.iconst (-1), 1) := by decide +kernel
theorem dX8_open_8 : decode cX8_open 8 = .ok (.ireturn, 1) := by decide +kernel
theorem dX8_open_9 : decode cX8_open 9 = .ok (.aload_n 0, 1) := by decide +kernel
theorem dX8_open_10 : decode cX8_open 10 = .ok (.getfield 12, 3) := by decide +kernel
theorem dX8_open_13 : decode cX8_open 13 = .ok (.getfield 102, 3) := by decide +kernel
theorem dX8_open_16 : decode cX8_open 16 = .ok (.bipush 10, 2) := by decide +kernel
theorem dX8_open_18 : decode cX8_open 18 = .ok (.if_icmp .ne 6, 3) := by decide +kernel
theorem dX8_open_21 : decode cX8_open 21 = .ok (.bipush (-4), 2) := by decide +kernel
theorem dX8_open_23 : decode cX8_open 23 = .ok (.ireturn, 1) := by decide +kernel
theorem dX8_open_24 : decode cX8_open 24 = .ok (.aload_n 0, 1) := by decide +kernel
theorem dX8_open_25 : decode cX8_open 25 = .ok (.getfield 29, 3) := by decide +kernel
theorem dX8_open_28 : decode cX8_open 28 = .ok (.aload_n 0, 1) := by decide +kernel
theorem dX8_open_29 : decode cX8_open 29 = .ok (.getfield 12, 3) := by decide +kernel
theorem dX8_open_32 : decode cX8_open 32 = .ok (.invokevirtual 105, 3) := by decide +kernel
theorem dX8_open_35 : decode cX8_open 35 = .ok (.aload_n 0, 1) := by decide +kernel
theorem dX8_open_36 : decode cX8_open 36 = .ok (.getfield 12, 3) := by decide +kernel
theorem dX8_open_39 : decode cX8_open 39 = .ok (.aload_n 0, 1) := by decide +kernel
theorem dX8_open_40 : decode cX8_open 40 = .ok (.getfield 51, 3) := by decide +kernel
theorem dX8_open_43 : decode cX8_open 43 = .ok (.iconst 0, 1) := by decide +kernel
theorem dX8_open_44 : decode cX8_open 44 = .ok (.aload_n 0, 1) := by decide +kernel
theorem dX8_open_45 : decode cX8_open 45 = .ok (.getfield 51, 3) := by decide +kernel
theorem dX8_open_48 : decode cX8_open 48 = .ok (.getfield 70, 3) := by decide +kernel
theorem dX8_open_51 : decode cX8_open 51 = .ok (.invokevirtual 108, 3) := by decide +kernel
theorem dX8_open_54 : decode cX8_open 54 = .ok (.istore_n 1, 1) := by decide +kernel
theorem dX8_open_55 : decode cX8_open 55 = .ok (.aload_n 0, 1) := by decide +kernel
theorem dX8_open_56 : decode cX8_open 56 = .ok (.getfield 51, 3) := by decide +kernel
theorem dX8_open_59 : decode cX8_open 59 = .ok (.iconst 0, 1) := by decide +kernel
theorem dX8_open_60 : decode cX8_open 60 = .ok (.putfield 70, 3) := by decide +kernel
theorem dX8_open_63 : decode cX8_open 63 = .ok (.aload_n 0, 1) := by decide +kernel
theorem dX8_open_64 : decode cX8_open 64 = .ok (.iconst 0, 1) := by decide +kernel
theorem dX8_open_65 : decode cX8_open 65 = .ok (.iload_n 1, 1) := by decide +kernel
theorem dX8_open_66 : decode cX8_open 66 = .ok (.aload_n 0, 1) := by decide +kernel
theorem dX8_open_67 : decode cX8_open 67 = .ok (.getfield 12, 3) := by decide +kernel
theorem dX8_open_70 : decode cX8_open 70 = .ok (.getfield 102, 3) := by decide +kernel
theorem dX8_open_73 : decode cX8_open 73 = .ok (.invokevirtual 112, 3) := by decide +kernel
theorem dX8_open_76 : decode cX8_open 76 = .ok (.iload_n 1, 1) := by decide +kernel
theorem dX8_open_77 : decode cX8_open 77 = .ok (.ireturn, 1) := by decide +kernel
theorem dX8_tell_0 : decode cX8_tell 0 = .ok (.aload_n 0, 1) := by decide +kernel
theorem dX8_tell_1 : decode cX8_tell 1 = .ok (.iload_n 1, 1) := by decide +kernel
theorem dX8_tell_2 : decode cX8_tell 2 = .ok (.iload_n 2, 1) := by decide +kernel
theorem dX8_tell_3 : decode cX8_tell 3 = .ok (.iload_n 3, 1) := by decide +kernel
theorem dX8_tell_4 : decode cX8_tell 4 = .ok (.iload 4, 2) := by decide +kernel
theorem dX8_tell_6 : decode cX8_tell 6 = .ok (.invokevirtual 116, 3) := by decide +kernel
theorem dX8_tell_9 : decode cX8_tell 9 = .ok (.ifCond .ne 5, 3) := by decide +kernel
theorem dX8_tell_12 : decode cX8_tell 12 = .ok (.iconst (-1), 1) := by decide +kernel
theorem dX8_tell_13 : decode cX8_tell 13 = .ok (.ireturn, 1) := by decide +kernel
theorem dX8_tell_14 : decode cX8_tell 14 = .ok (.aload_n 0, 1) := by decide +kernel
theorem dX8_tell_15 : decode cX8_tell 15 = .ok (.getfield 12, 3) := by decide +kernel
theorem dX8_tell_18 : decode cX8_tell 18 = .ok (.getfield 96, 3) := by decide +kernel
theorem dX8_tell_21 : decode cX8_tell 21 = .ok (.bipush 24, 2) := by decide +kernel
theorem dX8_tell_23 : decode cX8_tell 23 = .ok (.if_icmp .ne 6, 3) := by decide +kernel
theorem dX8_tell_26 : decode cX8_tell 26 = .ok (.bipush (-4), 2) := by decide +kernel
theorem dX8_tell_28 : decode cX8_tell 28 = .ok (.ireturn, 1) := by decide +kernel
theorem dX8_tell_29 : decode cX8_tell 29 = .ok (.aload_n 0, 1) := by decide +kernel
theorem dX8_tell_30 : decode cX8_tell 30 = .ok (.getfield 29, 3) := by decide +kernel
theorem dX8_tell_33 : decode cX8_tell 33 = .ok (.aload_n 0, 1) := by decide +kernel
theorem dX8_tell_34 : decode cX8_tell 34 = .ok (.getfield 12, 3) := by decide +kernel
theorem dX8_tell_37 : decode cX8_tell 37 = .ok (.invokevirtual 105, 3) := by decide +kernel
theorem dX8_tell_40 : decode cX8_tell 40 = .ok (.aload_n 0, 1) := by decide +kernel
theorem dX8_tell_41 : decode cX8_tell 41 = .ok (.getfield 19, 3) := by decide +kernel
theorem dX8_tell_44 : decode cX8_tell 44 = .ok (.iload_n 1, 1) := by decide +kernel
theorem dX8_tell_45 : decode cX8_tell 45 = .ok (.iload_n 2, 1) := by decide +kernel
theorem dX8_tell_46 : decode cX8_tell 46 = .ok (.iload_n 3, 1) := by decide +kernel
theorem dX8_tell_47 : decode cX8_tell 47 = .ok (.iload 4, 2) := by decide +kernel
theorem dX8_tell_49 : decode cX8_tell 49 = .ok (.invokevirtual 120, 3) := by decide +kernel
theorem dX8_tell_52 : decode cX8_tell 52 = .ok (.ifCond .ge 21, 3) := by decide +kernel
theorem dX8_tell_55 : decode cX8_tell 55 = .ok (.aload_n 0, 1) := by decide +kernel
theorem dX8_tell_56 : decode cX8_tell 56 = .ok (.getfield 12, 3) := by decide +kernel
theorem dX8_tell_59 : decode cX8_tell 59 = .ok (.getfield 124, 3) := by decide +kernel
theorem dX8_tell_62 : decode cX8_tell 62 = .ok (.bipush 8, 2) := by decide +kernel
theorem dX8_tell_64 : decode cX8_tell 64 = .ok (.iload_n 3, 1) := by decide +kernel
theorem dX8_tell_65 : decode cX8_tell 65 = .ok (.iload 4, 2) := by decide +kernel
theorem dX8_tell_67 : decode cX8_tell 67 = .ok (.invokevirtual 128, 3) := by decide +kernel
theorem dX8_tell_70 : decode cX8_tell 70 = .ok (.bipush (-5), 2) := by decide +kernel
theorem dX8_tell_72 : decode cX8_tell 72 = .ok (.ireturn, 1) := by decide +kernel
theorem dX8_tell_73 : decode cX8_tell 73 = .ok (.aload_n 0, 1) := by decide +kernel
theorem dX8_tell_74 : decode cX8_tell 74 = .ok (.getfield 12, 3) := by decide +kernel
theorem dX8_tell_77 : decode cX8_tell 77 = .ok (.iload_n 1, 1) := by decide +kernel
theorem dX8_tell_78 : decode cX8_tell 78 = .ok (.iload_n 2, 1) := by decide +kernel
theorem dX8_tell_79 : decode cX8_tell 79 = .ok (.iload_n 3, 1) := by decide +kernel
theorem dX8_tell_80 : decode cX8_tell 80 = .ok (.iload 4, 2) := by decide +kernel
theorem dX8_tell_82 : decode cX8_tell 82 = .ok (.iconst 1, 1) := by decide +kernel
theorem dX8_tell_83 : decode cX8_tell 83 = .ok (.invokevirtual 133, 3) := by decide +kernel
theorem dX8_tell_86 : decode cX8_tell 86 = .ok (.istore 5, 2) := by decide +kernel
theorem dX8_tell_88 : decode cX8_tell 88 = .ok (.aload_n 0, 1) := by decide +kernel
theorem dX8_tell_89 : decode cX8_tell 89 = .ok (.iconst 1, 1) := by decide +kernel
theorem dX8_tell_90 : decode cX8_tell 90 = .ok (.iload 5, 2) := by decide +kernel
theorem dX8_tell_92 : decode cX8_tell 92 = .ok (.iload 4, 2) := by decide +kernel
theorem dX8_tell_94 : decode cX8_tell 94 = .ok (.invokevirtual 112, 3) := by decide +kernel
theorem dX8_tell_97 : decode cX8_tell 97 = .ok (.iload 5, 2) := by decide +kernel
theorem dX8_tell_99 : decode cX8_tell 99 = .ok (.ireturn, 1) := by decide +kernel
theorem dX8_drop_0 : decode cX8_drop 0 = .ok (.aload_n 0, 1) := by decide +kernel
theorem dX8_drop_1 : decode cX8_drop 1 = .ok (.iload_n 1, 1) := by decide +kernel
theorem dX8_drop_2 : decode cX8_drop 2 = .ok (.invokevirtual 137, 3) := by decide +kernel
theorem dX8_drop_5 : decode cX8_drop 5 = .ok (.ifCond .ne 5, 3) := by decide +kernel
theorem dX8_drop_8 : decode cX8_drop 8 = .ok (.iconst (-1), 1) := by decide +kernel
theorem dX8_drop_9 : decode cX8_drop 9 = .ok (.ireturn, 1) := by decide +kernel
theorem dX8_drop_10 : decode cX8_drop 10 = .ok (.aload_n 0, 1) := by decide +kernel
theorem dX8_drop_11 : decode cX8_drop 11 = .ok (.getfield 12, 3) := by decide +kernel
theorem dX8_drop_14 : decode cX8_drop 14 = .ok (.getfield 141, 3) := by decide +kernel
theorem dX8_drop_17 : decode cX8_drop 17 = .ok (.iload_n 1, 1) := by decide +kernel
theorem dX8_drop_18 : decode cX8_drop 18 = .ok (.iaload, 1) := by decide +kernel
theorem dX8_drop_19 : decode cX8_drop 19 = .ok (.istore_n 2, 1) := by decide +kernel
theorem dX8_drop_20 : decode cX8_drop 20 = .ok (.aload_n 0, 1) := by decide +kernel
theorem dX8_drop_21 : decode cX8_drop 21 = .ok (.getfield 29, 3) := by decide +kernel
theorem dX8_drop_24 : decode cX8_drop 24 = .ok (.aload_n 0, 1) := by decide +kernel
theorem dX8_drop_25 : decode cX8_drop 25 = .ok (.getfield 12, 3) := by decide +kernel
theorem dX8_drop_28 : decode cX8_drop 28 = .ok (.invokevirtual 105, 3) := by decide +kernel
theorem dX8_drop_31 : decode cX8_drop 31 = .ok (.aload_n 0, 1) := by decide +kernel
theorem dX8_drop_32 : decode cX8_drop 32 = .ok (.getfield 12, 3) := by decide +kernel
theorem dX8_drop_35 : decode cX8_drop 35 = .ok (.iload_n 1, 1) := by decide +kernel
theorem dX8_drop_36 : decode cX8_drop 36 = .ok (.invokevirtual 145, 3) := by decide +kernel
theorem dX8_drop_39 : decode cX8_drop 39 = .ok (.aload_n 0, 1) := by decide +kernel
theorem dX8_drop_40 : decode cX8_drop 40 = .ok (.iconst 2, 1) := by decide +kernel
theorem dX8_drop_41 : decode cX8_drop 41 = .ok (.iload_n 1, 1) := by decide +kernel
theorem dX8_drop_42 : decode cX8_drop 42 = .ok (.iload_n 2, 1) := by decide +kernel
theorem dX8_drop_43 : decode cX8_drop 43 = .ok (.invokevirtual 112, 3) := by decide +kernel
theorem dX8_drop_46 : decode cX8_drop 46 = .ok (.aload_n 0, 1) := by decide +kernel
theorem dX8_drop_47 : decode cX8_drop 47 = .ok (.getfield 12, 3) := by decide +kernel
theorem dX8_drop_50 : decode cX8_drop 50 = .ok (.getfield 96, 3) := by decide +kernel
theorem dX8_drop_53 : decode cX8_drop 53 = .ok (.ireturn, 1) := by decide +kernel
theorem dX8_set_0 : decode cX8_set 0 = .ok (.aload_n 0, 1) := by decide +kernel
theorem dX8_set_1 : decode cX8_set 1 = .ok (.iload_n 1, 1) := by decide +kernel
theorem dX8_set_2 : decode cX8_set 2 = .ok (.invokevirtual 137, 3) := by decide +kernel
theorem dX8_set_5 : decode cX8_set 5 = .ok (.ifCond .eq 10, 3) := by decide +kernel
theorem dX8_set_8 : decode cX8_set 8 = .ok (.iload_n 2, 1) := by decide +kernel
theorem dX8_set_9 : decode cX8_set 9 = .ok (.invokestatic 148, 3) := by decide +kernel
theorem dX8_set_12 : decode cX8_set 12 = .ok (.ifCond .ne 5, 3) := by decide +kernel
theorem dX8_set_15 : decode cX8_set 15 = .ok (.iconst (-1), 1) := by decide +kernel
theorem dX8_set_16 : decode cX8_set 16 = .ok (.ireturn, 1) := by decide +kernel
theorem dX8_set_17 : decode cX8_set 17 = .ok (.aload_n 0, 1) := by decide +kernel
theorem dX8_set_18 : decode cX8_set 18 = .ok (.getfield 12, 3) := by decide +kernel
theorem dX8_set_21 : decode cX8_set 21 = .ok (.getfield 141, 3) := by decide +kernel
theorem dX8_set_24 : decode cX8_set 24 = .ok (.iload_n 1, 1) := by decide +kernel
theorem dX8_set_25 : decode cX8_set 25 = .ok (.iaload, 1) := by decide +kernel
theorem dX8_set_26 : decode cX8_set 26 = .ok (.istore_n 3, 1) := by decide +kernel
theorem dX8_set_27 : decode cX8_set 27 = .ok (.iload_n 3, 1) := by decide +kernel
theorem dX8_set_28 : decode cX8_set 28 = .ok (.iload_n 2, 1) := by decide +kernel
theorem dX8_set_29 : decode cX8_set 29 = .ok (.if_icmp .ne 6, 3) := by decide +kernel
theorem dX8_set_32 : decode cX8_set 32 = .ok (.bipush (-2), 2) := by decide +kernel
theorem dX8_set_34 : decode cX8_set 34 = .ok (.ireturn, 1) := by decide +kernel
theorem dX8_set_35 : decode cX8_set 35 = .ok (.aload_n 0, 1) := by decide +kernel
theorem dX8_set_36 : decode cX8_set 36 = .ok (.getfield 12, 3) := by decide +kernel
theorem dX8_set_39 : decode cX8_set 39 = .ok (.getfield 151, 3) := by decide +kernel
theorem dX8_set_42 : decode cX8_set 42 = .ok (.iload_n 1, 1) := by decide +kernel
theorem dX8_set_43 : decode cX8_set 43 = .ok (.baload, 1) := by decide +kernel
theorem dX8_set_44 : decode cX8_set 44 = .ok (.ifCond .eq 15, 3) := by decide +kernel
theorem dX8_set_47 : decode cX8_set 47 = .ok (.aload_n 0, 1) := by decide +kernel
theorem dX8_set_48 : decode cX8_set 48 = .ok (.iload_n 1, 1) := by decide +kernel
theorem dX8_set_49 : decode cX8_set 49 = .ok (.iload_n 2, 1) := by decide +kernel
theorem dX8_set_50 : decode cX8_set 50 = .ok (.invokevirtual 155, 3) := by decide +kernel
theorem dX8_set_53 : decode cX8_set 53 = .ok (.ifCond .ge 6, 3) := by decide +kernel
theorem dX8_set_56 : decode cX8_set 56 = .ok (.bipush (-5), 2) := by decide +kernel
theorem dX8_set_58 : decode cX8_set 58 = .ok (.ireturn, 1) := by decide +kernel
theorem dX8_set_59 : decode cX8_set 59 = .ok (.aload_n 0, 1) := by decide +kernel
theorem dX8_set_60 : decode cX8_set 60 = .ok (.getfield 29, 3) := by decide +kernel
theorem dX8_set_63 : decode cX8_set 63 = .ok (.aload_n 0, 1) := by decide +kernel
theorem dX8_set_64 : decode cX8_set 64 = .ok (.getfield 12, 3) := by decide +kernel
theorem dX8_set_67 : decode cX8_set 67 = .ok (.invokevirtual 105, 3) := by decide +kernel
theorem dX8_set_70 : decode cX8_set 70 = .ok (.aload_n 0, 1) := by decide +kernel
theorem dX8_set_71 : decode cX8_set 71 = .ok (.getfield 12, 3) := by decide +kernel
theorem dX8_set_74 : decode cX8_set 74 = .ok (.getfield 141, 3) := by decide +kernel
theorem dX8_set_77 : decode cX8_set 77 = .ok (.iload_n 1, 1) := by decide +kernel
theorem dX8_set_78 : decode cX8_set 78 = .ok (.iload_n 2, 1) := by decide +kernel
theorem dX8_set_79 : decode cX8_set 79 = .ok (.iastore, 1) := by decide +kernel
theorem dX8_set_80 : decode cX8_set 80 = .ok (.aload_n 0, 1) := by decide +kernel
theorem dX8_set_81 : decode cX8_set 81 = .ok (.iconst 3, 1) := by decide +kernel
theorem dX8_set_82 : decode cX8_set 82 = .ok (.iload_n 1, 1) := by decide +kernel
theorem dX8_set_83 : decode cX8_set 83 = .ok (.iload_n 3, 1) := by decide +kernel
theorem dX8_set_84 : decode cX8_set 84 = .ok (.invokevirtual 112, 3) := by decide +kernel
theorem dX8_set_87 : decode cX8_set 87 = .ok (.iload_n 3, 1) := by decide +kernel
theorem dX8_set_88 : decode cX8_set 88 = .ok (.ireturn, 1) := by decide +kernel
theorem dX8_turn_0 : decode cX8_turn 0 = .ok (.aload_n 0, 1) := by decide +kernel
theorem dX8_turn_1 : decode cX8_turn 1 = .ok (.iload_n 1, 1) := by decide +kernel
theorem dX8_turn_2 : decode cX8_turn 2 = .ok (.invokevirtual 137, 3) := by decide +kernel
theorem dX8_turn_5 : decode cX8_turn 5 = .ok (.ifCond .ne 5, 3) := by decide +kernel
theorem dX8_turn_8 : decode cX8_turn 8 = .ok (.iconst (-1), 1) := by decide +kernel
theorem dX8_turn_9 : decode cX8_turn 9 = .ok (.ireturn, 1) := by decide +kernel
theorem dX8_turn_10 : decode cX8_turn 10 = .ok (.aload_n 0, 1) := by decide +kernel
theorem dX8_turn_11 : decode cX8_turn 11 = .ok (.getfield 12, 3) := by decide +kernel
theorem dX8_turn_14 : decode cX8_turn 14 = .ok (.getfield 151, 3) := by decide +kernel
theorem dX8_turn_17 : decode cX8_turn 17 = .ok (.iload_n 1, 1) := by decide +kernel
theorem dX8_turn_18 : decode cX8_turn 18 = .ok (.baload, 1) := by decide +kernel
theorem dX8_turn_19 : decode cX8_turn 19 = .ok (.ifCond .ne 7, 3) := by decide +kernel
theorem dX8_turn_22 : decode cX8_turn 22 = .ok (.iconst 1, 1) := by decide +kernel
theorem dX8_turn_23 : decode cX8_turn 23 = .ok (.goto 4, 3) := by decide +kernel
theorem dX8_turn_26 : decode cX8_turn 26 = .ok (.iconst 0, 1) := by decide +kernel
theorem dX8_turn_27 : decode cX8_turn 27 = .ok (.istore_n 2, 1) := by decide +kernel
theorem dX8_turn_28 : decode cX8_turn 28 = .ok (.iload_n 2, 1) := by decide +kernel
theorem dX8_turn_29 : decode cX8_turn 29 = .ok (.ifCond .eq 23, 3) := by decide +kernel
theorem dX8_turn_32 : decode cX8_turn 32 = .ok (.aload_n 0, 1) := by decide +kernel
theorem dX8_turn_33 : decode cX8_turn 33 = .ok (.iload_n 1, 1) := by decide +kernel
theorem dX8_turn_34 : decode cX8_turn 34 = .ok (.aload_n 0, 1) := by decide +kernel
theorem dX8_turn_35 : decode cX8_turn 35 = .ok (.getfield 12, 3) := by decide +kernel
theorem dX8_turn_38 : decode cX8_turn 38 = .ok (.getfield 141, 3) := by decide +kernel
theorem dX8_turn_41 : decode cX8_turn 41 = .ok (.iload_n 1, 1) := by decide +kernel
theorem dX8_turn_42 : decode cX8_turn 42 = .ok (.iaload, 1) := by decide +kernel
theorem dX8_turn_43 : decode cX8_turn 43 = .ok (.invokevirtual 155, 3) := by decide +kernel
theorem dX8_turn_46 : decode cX8_turn 46 = .ok (.ifCond .ge 6, 3) := by decide +kernel
theorem dX8_turn_49 : decode cX8_turn 49 = .ok (.bipush (-5), 2) := by decide +kernel
theorem dX8_turn_51 : decode cX8_turn 51 = .ok (.ireturn, 1) := by decide +kernel
theorem dX8_turn_52 : decode cX8_turn 52 = .ok (.aload_n 0, 1) := by decide +kernel
theorem dX8_turn_53 : decode cX8_turn 53 = .ok (.getfield 29, 3) := by decide +kernel
theorem dX8_turn_56 : decode cX8_turn 56 = .ok (.aload_n 0, 1) := by decide +kernel
theorem dX8_turn_57 : decode cX8_turn 57 = .ok (.getfield 12, 3) := by decide +kernel
theorem dX8_turn_60 : decode cX8_turn 60 = .ok (.invokevirtual 105, 3) := by decide +kernel
theorem dX8_turn_63 : decode cX8_turn 63 = .ok (.aload_n 0, 1) := by decide +kernel
theorem dX8_turn_64 : decode cX8_turn 64 = .ok (.getfield 12, 3) := by decide +kernel
theorem dX8_turn_67 : decode cX8_turn 67 = .ok (.getfield 151, 3) := by decide +kernel
theorem dX8_turn_70 : decode cX8_turn 70 = .ok (.iload_n 1, 1) := by decide +kernel
theorem dX8_turn_71 : decode cX8_turn 71 = .ok (.iload_n 2, 1) := by decide +kernel
theorem dX8_turn_72 : decode cX8_turn 72 = .ok (.bastore, 1) := by decide +kernel
theorem dX8_turn_73 : decode cX8_turn 73 = .ok (.aload_n 0, 1) := by decide +kernel
theorem dX8_turn_74 : decode cX8_turn 74 = .ok (.iconst 4, 1) := by decide +kernel
theorem dX8_turn_75 : decode cX8_turn 75 = .ok (.iload_n 1, 1) := by decide +kernel
theorem dX8_turn_76 : decode cX8_turn 76 = .ok (.iload_n 2, 1) := by decide +kernel
theorem dX8_turn_77 : decode cX8_turn 77 = .ok (.invokestatic 159, 3) := by decide +kernel
theorem dX8_turn_80 : decode cX8_turn 80 = .ok (.invokevirtual 112, 3) := by decide +kernel
theorem dX8_turn_83 : decode cX8_turn 83 = .ok (.iload_n 2, 1) := by decide +kernel
theorem dX8_turn_84 : decode cX8_turn 84 = .ok (.invokestatic 159, 3) := by decide +kernel
theorem dX8_turn_87 : decode cX8_turn 87 = .ok (.ireturn, 1) := by decide +kernel
theorem dX8_pin_0 : decode cX8_pin 0 = .ok (.aload_n 0, 1) := by decide +kernel
theorem dX8_pin_1 : decode cX8_pin 1 = .ok (.iload_n 1, 1) := by decide +kernel
theorem dX8_pin_2 : decode cX8_pin 2 = .ok (.invokevirtual 163, 3) := by decide +kernel
theorem dX8_pin_5 : decode cX8_pin 5 = .ok (.ifCond .eq 11, 3) := by decide +kernel
theorem dX8_pin_8 : decode cX8_pin 8 = .ok (.aload_n 0, 1) := by decide +kernel
theorem dX8_pin_9 : decode cX8_pin 9 = .ok (.iload_n 2, 1) := by decide +kernel
theorem dX8_pin_10 : decode cX8_pin 10 = .ok (.invokevirtual 166, 3) := by decide +kernel
theorem dX8_pin_13 : decode cX8_pin 13 = .ok (.ifCond .ne 5, 3) := by decide +kernel
theorem dX8_pin_16 : decode cX8_pin 16 = .ok (.iconst (-1), 1) := by decide +kernel
theorem dX8_pin_17 : decode cX8_pin 17 = .ok (.ireturn, 1) := by decide +kernel
theorem dX8_pin_18 : decode cX8_pin 18 = .ok (.aload_n 0, 1) := by decide +kernel
theorem dX8_pin_19 : decode cX8_pin 19 = .ok (.iload_n 1, 1) := by decide +kernel
theorem dX8_pin_20 : decode cX8_pin 20 = .ok (.invokevirtual 169, 3) := by decide +kernel
theorem dX8_pin_23 : decode cX8_pin 23 = .ok (.ifCond .ne 6, 3) := by decide +kernel
theorem dX8_pin_26 : decode cX8_pin 26 = .ok (.bipush (-3), 2) := by decide +kernel
theorem dX8_pin_28 : decode cX8_pin 28 = .ok (.ireturn, 1) := by decide +kernel
theorem dX8_pin_29 : decode cX8_pin 29 = .ok (.aload_n 0, 1) := by decide +kernel
theorem dX8_pin_30 : decode cX8_pin 30 = .ok (.getfield 19, 3) := by decide +kernel
theorem dX8_pin_33 : decode cX8_pin 33 = .ok (.iload_n 1, 1) := by decide +kernel
theorem dX8_pin_34 : decode cX8_pin 34 = .ok (.iload_n 2, 1) := by decide +kernel
theorem dX8_pin_35 : decode cX8_pin 35 = .ok (.invokevirtual 172, 3) := by decide +kernel
theorem dX8_pin_38 : decode cX8_pin 38 = .ok (.ifCond .ne 6, 3) := by decide +kernel
theorem dX8_pin_41 : decode cX8_pin 41 = .ok (.bipush (-5), 2) := by decide +kernel
theorem dX8_pin_43 : decode cX8_pin 43 = .ok (.ireturn, 1) := by decide +kernel
theorem dX8_pin_44 : decode cX8_pin 44 = .ok (.aload_n 0, 1) := by decide +kernel
theorem dX8_pin_45 : decode cX8_pin 45 = .ok (.getfield 29, 3) := by decide +kernel
theorem dX8_pin_48 : decode cX8_pin 48 = .ok (.aload_n 0, 1) := by decide +kernel
theorem dX8_pin_49 : decode cX8_pin 49 = .ok (.getfield 12, 3) := by decide +kernel
theorem dX8_pin_52 : decode cX8_pin 52 = .ok (.invokevirtual 105, 3) := by decide +kernel
theorem dX8_pin_55 : decode cX8_pin 55 = .ok (.aload_n 0, 1) := by decide +kernel
theorem dX8_pin_56 : decode cX8_pin 56 = .ok (.getfield 12, 3) := by decide +kernel
theorem dX8_pin_59 : decode cX8_pin 59 = .ok (.getfield 176, 3) := by decide +kernel
theorem dX8_pin_62 : decode cX8_pin 62 = .ok (.iload_n 1, 1) := by decide +kernel
theorem dX8_pin_63 : decode cX8_pin 63 = .ok (.iload_n 2, 1) := by decide +kernel
theorem dX8_pin_64 : decode cX8_pin 64 = .ok (.iastore, 1) := by decide +kernel
theorem dX8_pin_65 : decode cX8_pin 65 = .ok (.aload_n 0, 1) := by decide +kernel
theorem dX8_pin_66 : decode cX8_pin 66 = .ok (.iconst 5, 1) := by decide +kernel
theorem dX8_pin_67 : decode cX8_pin 67 = .ok (.iload_n 1, 1) := by decide +kernel
theorem dX8_pin_68 : decode cX8_pin 68 = .ok (.iload_n 2, 1) := by decide +kernel
theorem dX8_pin_69 : decode cX8_pin 69 = .ok (.invokevirtual 112, 3) := by decide +kernel
theorem dX8_pin_72 : decode cX8_pin 72 = .ok (.aload_n 0, 1) := by decide +kernel
theorem dX8_pin_73 : decode cX8_pin 73 = .ok (.getfield 12, 3) := by decide +kernel
theorem dX8_pin_76 : decode cX8_pin 76 = .ok (.invokevirtual 179, 3) := by decide +kernel
theorem dX8_pin_79 : decode cX8_pin 79 = .ok (.ireturn, 1) := by decide +kernel
theorem dX8_unpin_0 : decode cX8_unpin 0 = .ok (.aload_n 0, 1) := by decide +kernel
theorem dX8_unpin_1 : decode cX8_unpin 1 = .ok (.iload_n 1, 1) := by decide +kernel
theorem dX8_unpin_2 : decode cX8_unpin 2 = .ok (.invokevirtual 163, 3) := by decide +kernel
theorem dX8_unpin_5 : decode cX8_unpin 5 = .ok (.ifCond .ne 5, 3) := by decide +kernel
theorem dX8_unpin_8 : decode cX8_unpin 8 = .ok (.iconst (-1), 1) := by decide +kernel
theorem dX8_unpin_9 : decode cX8_unpin 9 = .ok (.ireturn, 1) := by decide +kernel
theorem dX8_unpin_10 : decode cX8_unpin 10 = .ok (.aload_n 0, 1) := by decide +kernel
theorem dX8_unpin_11 : decode cX8_unpin 11 = .ok (.getfield 12, 3) := by decide +kernel
theorem dX8_unpin_14 : decode cX8_unpin 14 = .ok (.iload_n 1, 1) := by decide +kernel
theorem dX8_unpin_15 : decode cX8_unpin 15 = .ok (.invokevirtual 182, 3) := by decide +kernel
theorem dX8_unpin_18 : decode cX8_unpin 18 = .ok (.ifCond .ne 6, 3) := by decide +kernel
theorem dX8_unpin_21 : decode cX8_unpin 21 = .ok (.bipush (-3), 2) := by decide +kernel
theorem dX8_unpin_23 : decode cX8_unpin 23 = .ok (.ireturn, 1) := by decide +kernel
theorem dX8_unpin_24 : decode cX8_unpin 24 = .ok (.aload_n 0, 1) := by decide +kernel
theorem dX8_unpin_25 : decode cX8_unpin 25 = .ok (.getfield 12, 3) := by decide +kernel
theorem dX8_unpin_28 : decode cX8_unpin 28 = .ok (.getfield 176, 3) := by decide +kernel
theorem dX8_unpin_31 : decode cX8_unpin 31 = .ok (.iload_n 1, 1) := by decide +kernel
theorem dX8_unpin_32 : decode cX8_unpin 32 = .ok (.iaload, 1) := by decide +kernel
theorem dX8_unpin_33 : decode cX8_unpin 33 = .ok (.istore_n 2, 1) := by decide +kernel
theorem dX8_unpin_34 : decode cX8_unpin 34 = .ok (.aload_n 0, 1) := by decide +kernel
theorem dX8_unpin_35 : decode cX8_unpin 35 = .ok (.getfield 29, 3) := by decide +kernel
theorem dX8_unpin_38 : decode cX8_unpin 38 = .ok (.aload_n 0, 1) := by decide +kernel
theorem dX8_unpin_39 : decode cX8_unpin 39 = .ok (.getfield 12, 3) := by decide +kernel
theorem dX8_unpin_42 : decode cX8_unpin 42 = .ok (.invokevirtual 105, 3) := by decide +kernel
theorem dX8_unpin_45 : decode cX8_unpin 45 = .ok (.aload_n 0, 1) := by decide +kernel
theorem dX8_unpin_46 : decode cX8_unpin 46 = .ok (.getfield 12, 3) := by decide +kernel
theorem dX8_unpin_49 : decode cX8_unpin 49 = .ok (.getfield 176, 3) := by decide +kernel
theorem dX8_unpin_52 : decode cX8_unpin 52 = .ok (.iload_n 1, 1) := by decide +kernel
theorem dX8_unpin_53 : decode cX8_unpin 53 = .ok (.iconst (-1), 1) := by decide +kernel
theorem dX8_unpin_54 : decode cX8_unpin 54 = .ok (.iastore, 1) := by decide +kernel
theorem dX8_unpin_55 : decode cX8_unpin 55 = .ok (.aload_n 0, 1) := by decide +kernel
theorem dX8_unpin_56 : decode cX8_unpin 56 = .ok (.bipush 6, 2) := by decide +kernel
theorem dX8_unpin_58 : decode cX8_unpin 58 = .ok (.iload_n 1, 1) := by decide +kernel
theorem dX8_unpin_59 : decode cX8_unpin 59 = .ok (.iload_n 2, 1) := by decide +kernel
theorem dX8_unpin_60 : decode cX8_unpin 60 = .ok (.invokevirtual 112, 3) := by decide +kernel
theorem dX8_unpin_63 : decode cX8_unpin 63 = .ok (.iload_n 2, 1) := by decide +kernel
theorem dX8_unpin_64 : decode cX8_unpin 64 = .ok (.ireturn, 1) := by decide +kernel
theorem dX8_end_0 : decode cX8_end 0 = .ok (.iload_n 1, 1) := by decide +kernel
theorem dX8_end_1 : decode cX8_end 1 = .ok (.iconst 1, 1) := by decide +kernel
theorem dX8_end_2 : decode cX8_end 2 = .ok (.if_icmp .lt 10, 3) := by decide +kernel
theorem dX8_end_5 : decode cX8_end 5 = .ok (.iload_n 1, 1) := by decide +kernel
theorem dX8_end_6 : decode cX8_end 6 = .ok (.sipush 999, 3) := by decide +kernel
theorem dX8_end_9 : decode cX8_end 9 = .ok (.if_icmp .le 5, 3) := by decide +kernel
theorem dX8_end_12 : decode cX8_end 12 = .ok (.iconst (-1), 1) := by decide +kernel
theorem dX8_end_13 : decode cX8_end 13 = .ok (.ireturn, 1) := by decide +kernel
theorem dX8_end_14 : decode cX8_end 14 = .ok (.aload_n 0, 1) := by decide +kernel
theorem dX8_end_15 : decode cX8_end 15 = .ok (.getfield 12, 3) := by decide +kernel
theorem dX8_end_18 : decode cX8_end 18 = .ok (.getfield 185, 3) := by decide +kernel
theorem dX8_end_21 : decode cX8_end 21 = .ok (.istore_n 2, 1) := by decide +kernel
theorem dX8_end_22 : decode cX8_end 22 = .ok (.iload_n 1, 1) := by decide +kernel
theorem dX8_end_23 : decode cX8_end 23 = .ok (.iload_n 2, 1) := by decide +kernel
theorem dX8_end_24 : decode cX8_end 24 = .ok (.if_icmp .ne 6, 3) := by decide +kernel
theorem dX8_end_27 : decode cX8_end 27 = .ok (.bipush (-2), 2) := by decide +kernel
theorem dX8_end_29 : decode cX8_end 29 = .ok (.ireturn, 1) := by decide +kernel
theorem dX8_end_30 : decode cX8_end 30 = .ok (.iload_n 1, 1) := by decide +kernel
theorem dX8_end_31 : decode cX8_end 31 = .ok (.aload_n 0, 1) := by decide +kernel
theorem dX8_end_32 : decode cX8_end 32 = .ok (.getfield 19, 3) := by decide +kernel
theorem dX8_end_35 : decode cX8_end 35 = .ok (.invokevirtual 188, 3) := by decide +kernel
theorem dX8_end_38 : decode cX8_end 38 = .ok (.if_icmp .ge 6, 3) := by decide +kernel
theorem dX8_end_41 : decode cX8_end 41 = .ok (.bipush (-5), 2) := by decide +kernel
theorem dX8_end_43 : decode cX8_end 43 = .ok (.ireturn, 1) := by decide +kernel
theorem dX8_end_44 : decode cX8_end 44 = .ok (.aload_n 0, 1) := by decide +kernel
theorem dX8_end_45 : decode cX8_end 45 = .ok (.getfield 29, 3) := by decide +kernel
theorem dX8_end_48 : decode cX8_end 48 = .ok (.aload_n 0, 1) := by decide +kernel
theorem dX8_end_49 : decode cX8_end 49 = .ok (.getfield 12, 3) := by decide +kernel
theorem dX8_end_52 : decode cX8_end 52 = .ok (.invokevirtual 105, 3) := by decide +kernel
theorem dX8_end_55 : decode cX8_end 55 = .ok (.aload_n 0, 1) := by decide +kernel
theorem dX8_end_56 : decode cX8_end 56 = .ok (.getfield 12, 3) := by decide +kernel
theorem dX8_end_59 : decode cX8_end 59 = .ok (.iload_n 1, 1) := by decide +kernel
theorem dX8_end_60 : decode cX8_end 60 = .ok (.putfield 185, 3) := by decide +kernel
theorem dX8_end_63 : decode cX8_end 63 = .ok (.aload_n 0, 1) := by decide +kernel
theorem dX8_end_64 : decode cX8_end 64 = .ok (.bipush 7, 2) := by decide +kernel
theorem dX8_end_66 : decode cX8_end 66 = .ok (.iload_n 1, 1) := by decide +kernel
theorem dX8_end_67 : decode cX8_end 67 = .ok (.iload_n 2, 1) := by decide +kernel
theorem dX8_end_68 : decode cX8_end 68 = .ok (.invokevirtual 112, 3) := by decide +kernel
theorem dX8_end_71 : decode cX8_end 71 = .ok (.iload_n 2, 1) := by decide +kernel
theorem dX8_end_72 : decode cX8_end 72 = .ok (.ireturn, 1) := by decide +kernel
theorem dX8_rename_0 : decode cX8_rename 0 = .ok (.aload_n 0, 1) := by decide +kernel
theorem dX8_rename_1 : decode cX8_rename 1 = .ok (.iload_n 1, 1) := by decide +kernel
theorem dX8_rename_2 : decode cX8_rename 2 = .ok (.invokevirtual 163, 3) := by decide +kernel
theorem dX8_rename_5 : decode cX8_rename 5 = .ok (.ifCond .eq 10, 3) := by decide +kernel
theorem dX8_rename_8 : decode cX8_rename 8 = .ok (.aload_n 0, 1) := by decide +kernel
theorem dX8_rename_9 : decode cX8_rename 9 = .ok (.invokevirtual 99, 3) := by decide +kernel
theorem dX8_rename_12 : decode cX8_rename 12 = .ok (.ifCond .ne 5, 3) := by decide +kernel
theorem dX8_rename_15 : decode cX8_rename 15 = .ok (.iconst (-1), 1) := by decide +kernel
theorem dX8_rename_16 : decode cX8_rename 16 = .ok (.ireturn, 1) := by decide +kernel
theorem dX8_rename_17 : decode cX8_rename 17 = .ok (.iload_n 1, 1) := by decide +kernel
theorem dX8_rename_18 : decode cX8_rename 18 = .ok (.ifCond .ne 6, 3) := by decide +kernel
theorem dX8_rename_21 : decode cX8_rename 21 = .ok (.bipush (-3), 2) := by decide +kernel
theorem dX8_rename_23 : decode cX8_rename 23 = .ok (.ireturn, 1) := by decide +kernel
theorem dX8_rename_24 : decode cX8_rename 24 = .ok (.aload_n 0, 1) := by decide +kernel
theorem dX8_rename_25 : decode cX8_rename 25 = .ok (.getfield 51, 3) := by decide +kernel
theorem dX8_rename_28 : decode cX8_rename 28 = .ok (.getfield 70, 3) := by decide +kernel
theorem dX8_rename_31 : decode cX8_rename 31 = .ok (.istore_n 2, 1) := by decide +kernel
theorem dX8_rename_32 : decode cX8_rename 32 = .ok (.aload_n 0, 1) := by decide +kernel
theorem dX8_rename_33 : decode cX8_rename 33 = .ok (.getfield 29, 3) := by decide +kernel
theorem dX8_rename_36 : decode cX8_rename 36 = .ok (.aload_n 0, 1) := by decide +kernel
theorem dX8_rename_37 : decode cX8_rename 37 = .ok (.getfield 12, 3) := by decide +kernel
theorem dX8_rename_40 : decode cX8_rename 40 = .ok (.invokevirtual 105, 3) := by decide +kernel
theorem dX8_rename_43 : decode cX8_rename 43 = .ok (.aload_n 0, 1) := by decide +kernel
theorem dX8_rename_44 : decode cX8_rename 44 = .ok (.getfield 12, 3) := by decide +kernel
theorem dX8_rename_47 : decode cX8_rename 47 = .ok (.iload_n 1, 1) := by decide +kernel
theorem dX8_rename_48 : decode cX8_rename 48 = .ok (.aload_n 0, 1) := by decide +kernel
theorem dX8_rename_49 : decode cX8_rename 49 = .ok (.getfield 51, 3) := by decide +kernel
theorem dX8_rename_52 : decode cX8_rename 52 = .ok (.iconst 0, 1) := by decide +kernel
theorem dX8_rename_53 : decode cX8_rename 53 = .ok (.iload_n 2, 1) := by decide +kernel
theorem dX8_rename_54 : decode cX8_rename 54 = .ok (.invokevirtual 191, 3) := by decide +kernel
theorem dX8_rename_57 : decode cX8_rename 57 = .ok (.aload_n 0, 1) := by decide +kernel
theorem dX8_rename_58 : decode cX8_rename 58 = .ok (.getfield 51, 3) := by decide +kernel
theorem dX8_rename_61 : decode cX8_rename 61 = .ok (.iconst 0, 1) := by decide +kernel
theorem dX8_rename_62 : decode cX8_rename 62 = .ok (.putfield 70, 3) := by decide +kernel
theorem dX8_rename_65 : decode cX8_rename 65 = .ok (.aload_n 0, 1) := by decide +kernel
theorem dX8_rename_66 : decode cX8_rename 66 = .ok (.bipush 9, 2) := by decide +kernel
theorem dX8_rename_68 : decode cX8_rename 68 = .ok (.iload_n 1, 1) := by decide +kernel
theorem dX8_rename_69 : decode cX8_rename 69 = .ok (.iload_n 2, 1) := by decide +kernel
theorem dX8_rename_70 : decode cX8_rename 70 = .ok (.invokevirtual 112, 3) := by decide +kernel
theorem dX8_rename_73 : decode cX8_rename 73 = .ok (.iload_n 2, 1) := by decide +kernel
theorem dX8_rename_74 : decode cX8_rename 74 = .ok (.ireturn, 1) := by decide +kernel
theorem dX8_reverse_0 : decode cX8_reverse 0 = .ok (.aload_n 0, 1) := by decide +kernel
theorem dX8_reverse_1 : decode cX8_reverse 1 = .ok (.iload_n 1, 1) := by decide +kernel
theorem dX8_reverse_2 : decode cX8_reverse 2 = .ok (.invokevirtual 137, 3) := by decide +kernel
theorem dX8_reverse_5 : decode cX8_reverse 5 = .ok (.ifCond .ne 5, 3) := by decide +kernel
theorem dX8_reverse_8 : decode cX8_reverse 8 = .ok (.iconst (-1), 1) := by decide +kernel
theorem dX8_reverse_9 : decode cX8_reverse 9 = .ok (.ireturn, 1) := by decide +kernel
theorem dX8_reverse_10 : decode cX8_reverse 10 = .ok (.aload_n 0, 1) := by decide +kernel
theorem dX8_reverse_11 : decode cX8_reverse 11 = .ok (.getfield 12, 3) := by decide +kernel
theorem dX8_reverse_14 : decode cX8_reverse 14 = .ok (.getfield 195, 3) := by decide +kernel
theorem dX8_reverse_17 : decode cX8_reverse 17 = .ok (.iload_n 1, 1) := by decide +kernel
theorem dX8_reverse_18 : decode cX8_reverse 18 = .ok (.iaload, 1) := by decide +kernel
theorem dX8_reverse_19 : decode cX8_reverse 19 = .ok (.istore_n 2, 1) := by decide +kernel
theorem dX8_reverse_20 : decode cX8_reverse 20 = .ok (.aload_n 0, 1) := by decide +kernel
theorem dX8_reverse_21 : decode cX8_reverse 21 = .ok (.getfield 12, 3) := by decide +kernel
theorem dX8_reverse_24 : decode cX8_reverse 24 = .ok (.getfield 198, 3) := by decide +kernel
theorem dX8_reverse_27 : decode cX8_reverse 27 = .ok (.iload_n 1, 1) := by decide +kernel
theorem dX8_reverse_28 : decode cX8_reverse 28 = .ok (.iaload, 1) := by decide +kernel
theorem dX8_reverse_29 : decode cX8_reverse 29 = .ok (.istore_n 3, 1) := by decide +kernel
theorem dX8_reverse_30 : decode cX8_reverse 30 = .ok (.aload_n 0, 1) := by decide +kernel
theorem dX8_reverse_31 : decode cX8_reverse 31 = .ok (.getfield 12, 3) := by decide +kernel
theorem dX8_reverse_34 : decode cX8_reverse 34 = .ok (.getfield 151, 3) := by decide +kernel
theorem dX8_reverse_37 : decode cX8_reverse 37 = .ok (.iload_n 1, 1) := by decide +kernel
theorem dX8_reverse_38 : decode cX8_reverse 38 = .ok (.baload, 1) := by decide +kernel
theorem dX8_reverse_39 : decode cX8_reverse 39 = .ok (.ifCond .eq 41, 3) := by decide +kernel
theorem dX8_reverse_42 : decode cX8_reverse 42 = .ok (.aload_n 0, 1) := by decide +kernel
theorem dX8_reverse_43 : decode cX8_reverse 43 = .ok (.iload_n 1, 1) := by decide +kernel
theorem dX8_reverse_44 : decode cX8_reverse 44 = .ok (.invokevirtual 201, 3) := by decide +kernel
theorem dX8_reverse_47 : decode cX8_reverse 47 = .ok (.aload_n 0, 1) := by decide +kernel
theorem dX8_reverse_48 : decode cX8_reverse 48 = .ok (.getfield 23, 3) := by decide +kernel
theorem dX8_reverse_51 : decode cX8_reverse 51 = .ok (.iload_n 3, 1) := by decide +kernel
theorem dX8_reverse_52 : decode cX8_reverse 52 = .ok (.iload_n 2, 1) := by decide +kernel
theorem dX8_reverse_53 : decode cX8_reverse 53 = .ok (.aload_n 0, 1) := by decide +kernel
theorem dX8_reverse_54 : decode cX8_reverse 54 = .ok (.getfield 12, 3) := by decide +kernel
theorem dX8_reverse_57 : decode cX8_reverse 57 = .ok (.getfield 204, 3) := by decide +kernel
theorem dX8_reverse_60 : decode cX8_reverse 60 = .ok (.iload_n 1, 1) := by decide +kernel
theorem dX8_reverse_61 : decode cX8_reverse 61 = .ok (.iaload, 1) := by decide +kernel
theorem dX8_reverse_62 : decode cX8_reverse 62 = .ok (.aload_n 0, 1) := by decide +kernel
theorem dX8_reverse_63 : decode cX8_reverse 63 = .ok (.getfield 12, 3) := by decide +kernel
theorem dX8_reverse_66 : decode cX8_reverse 66 = .ok (.getfield 141, 3) := by decide +kernel
theorem dX8_reverse_69 : decode cX8_reverse 69 = .ok (.iload_n 1, 1) := by decide +kernel
theorem dX8_reverse_70 : decode cX8_reverse 70 = .ok (.iaload, 1) := by decide +kernel
theorem dX8_reverse_71 : decode cX8_reverse 71 = .ok (.invokevirtual 120, 3) := by decide +kernel
theorem dX8_reverse_74 : decode cX8_reverse 74 = .ok (.ifCond .ge 6, 3) := by decide +kernel
theorem dX8_reverse_77 : decode cX8_reverse 77 = .ok (.bipush (-5), 2) := by decide +kernel
theorem dX8_reverse_79 : decode cX8_reverse 79 = .ok (.ireturn, 1) := by decide +kernel
theorem dX8_reverse_80 : decode cX8_reverse 80 = .ok (.aload_n 0, 1) := by decide +kernel
theorem dX8_reverse_81 : decode cX8_reverse 81 = .ok (.getfield 12, 3) := by decide +kernel
theorem dX8_reverse_84 : decode cX8_reverse 84 = .ok (.getfield 151, 3) := by decide +kernel
theorem dX8_reverse_87 : decode cX8_reverse 87 = .ok (.iload_n 1, 1) := by decide +kernel
theorem dX8_reverse_88 : decode cX8_reverse 88 = .ok (.baload, 1) := by decide +kernel
theorem dX8_reverse_89 : decode cX8_reverse 89 = .ok (.invokestatic 159, 3) := by decide +kernel
theorem dX8_reverse_92 : decode cX8_reverse 92 = .ok (.istore 4, 2) := by decide +kernel
theorem dX8_reverse_94 : decode cX8_reverse 94 = .ok (.aload_n 0, 1) := by decide +kernel
theorem dX8_reverse_95 : decode cX8_reverse 95 = .ok (.getfield 29, 3) := by decide +kernel
theorem dX8_reverse_98 : decode cX8_reverse 98 = .ok (.aload_n 0, 1) := by decide +kernel
theorem dX8_reverse_99 : decode cX8_reverse 99 = .ok (.getfield 12, 3) := by decide +kernel
theorem dX8_reverse_102 : decode cX8_reverse 102 = .ok (.invokevirtual 105, 3) := by decide +kernel
theorem dX8_reverse_105 : decode cX8_reverse 105 = .ok (.aload_n 0, 1) := by decide +kernel
theorem dX8_reverse_106 : decode cX8_reverse 106 = .ok (.getfield 12, 3) := by decide +kernel
theorem dX8_reverse_109 : decode cX8_reverse 109 = .ok (.getfield 195, 3) := by decide +kernel
theorem dX8_reverse_112 : decode cX8_reverse 112 = .ok (.iload_n 1, 1) := by decide +kernel
theorem dX8_reverse_113 : decode cX8_reverse 113 = .ok (.iload_n 3, 1) := by decide +kernel
theorem dX8_reverse_114 : decode cX8_reverse 114 = .ok (.iastore, 1) := by decide +kernel
theorem dX8_reverse_115 : decode cX8_reverse 115 = .ok (.aload_n 0, 1) := by decide +kernel
theorem dX8_reverse_116 : decode cX8_reverse 116 = .ok (.getfield 12, 3) := by decide +kernel
theorem dX8_reverse_119 : decode cX8_reverse 119 = .ok (.getfield 198, 3) := by decide +kernel
theorem dX8_reverse_122 : decode cX8_reverse 122 = .ok (.iload_n 1, 1) := by decide +kernel
theorem dX8_reverse_123 : decode cX8_reverse 123 = .ok (.iload_n 2, 1) := by decide +kernel
theorem dX8_reverse_124 : decode cX8_reverse 124 = .ok (.iastore, 1) := by decide +kernel
theorem dX8_reverse_125 : decode cX8_reverse 125 = .ok (.aload_n 0, 1) := by decide +kernel
theorem dX8_reverse_126 : decode cX8_reverse 126 = .ok (.bipush 10, 2) := by decide +kernel
theorem dX8_reverse_128 : decode cX8_reverse 128 = .ok (.iload_n 1, 1) := by decide +kernel
theorem dX8_reverse_129 : decode cX8_reverse 129 = .ok (.iload 4, 2) := by decide +kernel
theorem dX8_reverse_131 : decode cX8_reverse 131 = .ok (.invokevirtual 112, 3) := by decide +kernel
theorem dX8_reverse_134 : decode cX8_reverse 134 = .ok (.iload 4, 2) := by decide +kernel
theorem dX8_reverse_136 : decode cX8_reverse 136 = .ok (.ireturn, 1) := by decide +kernel
theorem dX8_tighten_0 : decode cX8_tighten 0 = .ok (.iconst 0, 1) := by decide +kernel
theorem dX8_tighten_1 : decode cX8_tighten 1 = .ok (.istore_n 1, 1) := by decide +kernel
theorem dX8_tighten_2 : decode cX8_tighten 2 = .ok (.iconst 0, 1) := by decide +kernel
theorem dX8_tighten_3 : decode cX8_tighten 3 = .ok (.istore_n 2, 1) := by decide +kernel
theorem dX8_tighten_4 : decode cX8_tighten 4 = .ok (.iload_n 2, 1) := by decide +kernel
theorem dX8_tighten_5 : decode cX8_tighten 5 = .ok (.aload_n 0, 1) := by decide +kernel
theorem dX8_tighten_6 : decode cX8_tighten 6 = .ok (.getfield 12, 3) := by decide +kernel
theorem dX8_tighten_9 : decode cX8_tighten 9 = .ok (.getfield 96, 3) := by decide +kernel
theorem dX8_tighten_12 : decode cX8_tighten 12 = .ok (.if_icmp .ge 20, 3) := by decide +kernel
theorem dX8_tighten_15 : decode cX8_tighten 15 = .ok (.iload_n 1, 1) := by decide +kernel
theorem dX8_tighten_16 : decode cX8_tighten 16 = .ok (.aload_n 0, 1) := by decide +kernel
theorem dX8_tighten_17 : decode cX8_tighten 17 = .ok (.iload_n 2, 1) := by decide +kernel
theorem dX8_tighten_18 : decode cX8_tighten 18 = .ok (.invokevirtual 207, 3) := by decide +kernel
theorem dX8_tighten_21 : decode cX8_tighten 21 = .ok (.invokestatic 159, 3) := by decide +kernel
theorem dX8_tighten_24 : decode cX8_tighten 24 = .ok (.iadd, 1) := by decide +kernel
theorem dX8_tighten_25 : decode cX8_tighten 25 = .ok (.istore_n 1, 1) := by decide +kernel
theorem dX8_tighten_26 : decode cX8_tighten 26 = .ok (.iinc 2 1, 3) := by decide +kernel
theorem dX8_tighten_29 : decode cX8_tighten 29 = .ok (.goto (-25), 3) := by decide +kernel
theorem dX8_tighten_32 : decode cX8_tighten 32 = .ok (.iload_n 1, 1) := by decide +kernel
theorem dX8_tighten_33 : decode cX8_tighten 33 = .ok (.ifCond .ne 6, 3) := by decide +kernel
theorem dX8_tighten_36 : decode cX8_tighten 36 = .ok (.bipush (-2), 2) := by decide +kernel
theorem dX8_tighten_38 : decode cX8_tighten 38 = .ok (.ireturn, 1) := by decide +kernel
theorem dX8_tighten_39 : decode cX8_tighten 39 = .ok (.aload_n 0, 1) := by decide +kernel
theorem dX8_tighten_40 : decode cX8_tighten 40 = .ok (.getfield 29, 3) := by decide +kernel
theorem dX8_tighten_43 : decode cX8_tighten 43 = .ok (.aload_n 0, 1) := by decide +kernel
theorem dX8_tighten_44 : decode cX8_tighten 44 = .ok (.getfield 12, 3) := by decide +kernel
theorem dX8_tighten_47 : decode cX8_tighten 47 = .ok (.invokevirtual 105, 3) := by decide +kernel
theorem dX8_tighten_50 : decode cX8_tighten 50 = .ok (.iconst 0, 1) := by decide +kernel
theorem dX8_tighten_51 : decode cX8_tighten 51 = .ok (.istore_n 2, 1) := by decide +kernel
theorem dX8_tighten_52 : decode cX8_tighten 52 = .ok (.iload_n 2, 1) := by decide +kernel
theorem dX8_tighten_53 : decode cX8_tighten 53 = .ok (.aload_n 0, 1) := by decide +kernel
theorem dX8_tighten_54 : decode cX8_tighten 54 = .ok (.getfield 12, 3) := by decide +kernel
theorem dX8_tighten_57 : decode cX8_tighten 57 = .ok (.getfield 96, 3) := by decide +kernel
theorem dX8_tighten_60 : decode cX8_tighten 60 = .ok (.if_icmp .ge 31, 3) := by decide +kernel
theorem dX8_tighten_63 : decode cX8_tighten 63 = .ok (.aload_n 0, 1) := by decide +kernel
theorem dX8_tighten_64 : decode cX8_tighten 64 = .ok (.iload_n 2, 1) := by decide +kernel
theorem dX8_tighten_65 : decode cX8_tighten 65 = .ok (.invokevirtual 207, 3) := by decide +kernel
theorem dX8_tighten_68 : decode cX8_tighten 68 = .ok (.ifCond .eq 17, 3) := by decide +kernel
theorem dX8_tighten_71 : decode cX8_tighten 71 = .ok (.aload_n 0, 1) := by decide +kernel
theorem dX8_tighten_72 : decode cX8_tighten 72 = .ok (.getfield 12, 3) := by decide +kernel
theorem dX8_tighten_75 : decode cX8_tighten 75 = .ok (.getfield 141, 3) := by decide +kernel
theorem dX8_tighten_78 : decode cX8_tighten 78 = .ok (.iload_n 2, 1) := by decide +kernel
theorem dX8_tighten_79 : decode cX8_tighten 79 = .ok (.aload_n 0, 1) := by decide +kernel
theorem dX8_tighten_80 : decode cX8_tighten 80 = .ok (.iload_n 2, 1) := by decide +kernel
theorem dX8_tighten_81 : decode cX8_tighten 81 = .ok (.invokevirtual 210, 3) := by decide +kernel
theorem dX8_tighten_84 : decode cX8_tighten 84 = .ok (.iastore, 1) := by decide +kernel
theorem dX8_tighten_85 : decode cX8_tighten 85 = .ok (.iinc 2 1, 3) := by decide +kernel
theorem dX8_tighten_88 : decode cX8_tighten 88 = .ok (.goto (-36), 3) := by decide +kernel
theorem dX8_tighten_91 : decode cX8_tighten 91 = .ok (.aload_n 0, 1) := by decide +kernel
theorem dX8_tighten_92 : decode cX8_tighten 92 = .ok (.bipush 11, 2) := by decide +kernel
theorem dX8_tighten_94 : decode cX8_tighten 94 = .ok (.iload_n 1, 1) := by decide +kernel
theorem dX8_tighten_95 : decode cX8_tighten 95 = .ok (.aload_n 0, 1) := by decide +kernel
theorem dX8_tighten_96 : decode cX8_tighten 96 = .ok (.getfield 19, 3) := by decide +kernel
theorem dX8_tighten_99 : decode cX8_tighten 99 = .ok (.invokevirtual 214, 3) := by decide +kernel
theorem dX8_tighten_102 : decode cX8_tighten 102 = .ok (.invokevirtual 112, 3) := by decide +kernel
theorem dX8_tighten_105 : decode cX8_tighten 105 = .ok (.iload_n 1, 1) := by decide +kernel
theorem dX8_tighten_106 : decode cX8_tighten 106 = .ok (.ireturn, 1) := by decide +kernel
theorem dX8_thin_0 : decode cX8_thin 0 = .ok (.aload_n 0, 1) := by decide +kernel
theorem dX8_thin_1 : decode cX8_thin 1 = .ok (.iconst 0, 1) := by decide +kernel
theorem dX8_thin_2 : decode cX8_thin 2 = .ok (.invokevirtual 217, 3) := by decide +kernel
theorem dX8_thin_5 : decode cX8_thin 5 = .ok (.istore_n 1, 1) := by decide +kernel
theorem dX8_thin_6 : decode cX8_thin 6 = .ok (.iload_n 1, 1) := by decide +kernel
theorem dX8_thin_7 : decode cX8_thin 7 = .ok (.bipush (-2), 2) := by decide +kernel
theorem dX8_thin_9 : decode cX8_thin 9 = .ok (.if_icmp .ne 6, 3) := by decide +kernel
theorem dX8_thin_12 : decode cX8_thin 12 = .ok (.bipush (-2), 2) := by decide +kernel
theorem dX8_thin_14 : decode cX8_thin 14 = .ok (.ireturn, 1) := by decide +kernel
theorem dX8_thin_15 : decode cX8_thin 15 = .ok (.aload_n 0, 1) := by decide +kernel
theorem dX8_thin_16 : decode cX8_thin 16 = .ok (.getfield 29, 3) := by decide +kernel
theorem dX8_thin_19 : decode cX8_thin 19 = .ok (.aload_n 0, 1) := by decide +kernel
theorem dX8_thin_20 : decode cX8_thin 20 = .ok (.getfield 12, 3) := by decide +kernel
theorem dX8_thin_23 : decode cX8_thin 23 = .ok (.invokevirtual 105, 3) := by decide +kernel
theorem dX8_thin_26 : decode cX8_thin 26 = .ok (.aload_n 0, 1) := by decide +kernel
theorem dX8_thin_27 : decode cX8_thin 27 = .ok (.getfield 12, 3) := by decide +kernel
theorem dX8_thin_30 : decode cX8_thin 30 = .ok (.getfield 96, 3) := by decide +kernel
theorem dX8_thin_33 : decode cX8_thin 33 = .ok (.istore_n 2, 1) := by decide +kernel
theorem dX8_thin_34 : decode cX8_thin 34 = .ok (.iconst 0, 1) := by decide +kernel
theorem dX8_thin_35 : decode cX8_thin 35 = .ok (.istore_n 3, 1) := by decide +kernel
theorem dX8_thin_36 : decode cX8_thin 36 = .ok (.iload_n 3, 1) := by decide +kernel
theorem dX8_thin_37 : decode cX8_thin 37 = .ok (.bipush 24, 2) := by decide +kernel
theorem dX8_thin_39 : decode cX8_thin 39 = .ok (.if_icmp .ge 29, 3) := by decide +kernel
theorem dX8_thin_42 : decode cX8_thin 42 = .ok (.iload_n 1, 1) := by decide +kernel
theorem dX8_thin_43 : decode cX8_thin 43 = .ok (.bipush (-2), 2) := by decide +kernel
theorem dX8_thin_45 : decode cX8_thin 45 = .ok (.if_icmp .eq 23, 3) := by decide +kernel
theorem dX8_thin_48 : decode cX8_thin 48 = .ok (.aload_n 0, 1) := by decide +kernel
theorem dX8_thin_49 : decode cX8_thin 49 = .ok (.getfield 12, 3) := by decide +kernel
theorem dX8_thin_52 : decode cX8_thin 52 = .ok (.iload_n 1, 1) := by decide +kernel
theorem dX8_thin_53 : decode cX8_thin 53 = .ok (.invokevirtual 145, 3) := by decide +kernel
theorem dX8_thin_56 : decode cX8_thin 56 = .ok (.aload_n 0, 1) := by decide +kernel
theorem dX8_thin_57 : decode cX8_thin 57 = .ok (.iload_n 1, 1) := by decide +kernel
theorem dX8_thin_58 : decode cX8_thin 58 = .ok (.invokevirtual 217, 3) := by decide +kernel
theorem dX8_thin_61 : decode cX8_thin 61 = .ok (.istore_n 1, 1) := by decide +kernel
theorem dX8_thin_62 : decode cX8_thin 62 = .ok (.iinc 3 1, 3) := by decide +kernel
theorem dX8_thin_65 : decode cX8_thin 65 = .ok (.goto (-29), 3) := by decide +kernel
theorem dX8_thin_68 : decode cX8_thin 68 = .ok (.iload_n 2, 1) := by decide +kernel
theorem dX8_thin_69 : decode cX8_thin 69 = .ok (.aload_n 0, 1) := by decide +kernel
theorem dX8_thin_70 : decode cX8_thin 70 = .ok (.getfield 12, 3) := by decide +kernel
theorem dX8_thin_73 : decode cX8_thin 73 = .ok (.getfield 96, 3) := by decide +kernel
theorem dX8_thin_76 : decode cX8_thin 76 = .ok (.isub, 1) := by decide +kernel
theorem dX8_thin_77 : decode cX8_thin 77 = .ok (.istore_n 3, 1) := by decide +kernel
theorem dX8_thin_78 : decode cX8_thin 78 = .ok (.aload_n 0, 1) := by decide +kernel
theorem dX8_thin_79 : decode cX8_thin 79 = .ok (.bipush 12, 2) := by decide +kernel
theorem dX8_thin_81 : decode cX8_thin 81 = .ok (.iload_n 3, 1) := by decide +kernel
theorem dX8_thin_82 : decode cX8_thin 82 = .ok (.aload_n 0, 1) := by decide +kernel
theorem dX8_thin_83 : decode cX8_thin 83 = .ok (.getfield 12, 3) := by decide +kernel
theorem dX8_thin_86 : decode cX8_thin 86 = .ok (.getfield 96, 3) := by decide +kernel
theorem dX8_thin_89 : decode cX8_thin 89 = .ok (.invokevirtual 112, 3) := by decide +kernel
theorem dX8_thin_92 : decode cX8_thin 92 = .ok (.iload_n 3, 1) := by decide +kernel
theorem dX8_thin_93 : decode cX8_thin 93 = .ok (.ireturn, 1) := by decide +kernel
theorem dX8_pinAll_0 : decode cX8_pinAll 0 = .ok (.aload_n 0, 1) := by decide +kernel
theorem dX8_pinAll_1 : decode cX8_pinAll 1 = .ok (.getfield 12, 3) := by decide +kernel
theorem dX8_pinAll_4 : decode cX8_pinAll 4 = .ok (.getfield 102, 3) := by decide +kernel
theorem dX8_pinAll_7 : decode cX8_pinAll 7 = .ok (.iconst 1, 1) := by decide +kernel
theorem dX8_pinAll_8 : decode cX8_pinAll 8 = .ok (.isub, 1) := by decide +kernel
theorem dX8_pinAll_9 : decode cX8_pinAll 9 = .ok (.aload_n 0, 1) := by decide +kernel
theorem dX8_pinAll_10 : decode cX8_pinAll 10 = .ok (.getfield 12, 3) := by decide +kernel
theorem dX8_pinAll_13 : decode cX8_pinAll 13 = .ok (.invokevirtual 179, 3) := by decide +kernel
theorem dX8_pinAll_16 : decode cX8_pinAll 16 = .ok (.isub, 1) := by decide +kernel
theorem dX8_pinAll_17 : decode cX8_pinAll 17 = .ok (.istore_n 1, 1) := by decide +kernel
theorem dX8_pinAll_18 : decode cX8_pinAll 18 = .ok (.iload_n 1, 1) := by decide +kernel
theorem dX8_pinAll_19 : decode cX8_pinAll 19 = .ok (.ifCond .ne 6, 3) := by decide +kernel
theorem dX8_pinAll_22 : decode cX8_pinAll 22 = .ok (.bipush (-2), 2) := by decide +kernel
theorem dX8_pinAll_24 : decode cX8_pinAll 24 = .ok (.ireturn, 1) := by decide +kernel
theorem dX8_pinAll_25 : decode cX8_pinAll 25 = .ok (.aload_n 0, 1) := by decide +kernel
theorem dX8_pinAll_26 : decode cX8_pinAll 26 = .ok (.getfield 29, 3) := by decide +kernel
theorem dX8_pinAll_29 : decode cX8_pinAll 29 = .ok (.aload_n 0, 1) := by decide +kernel
theorem dX8_pinAll_30 : decode cX8_pinAll 30 = .ok (.getfield 12, 3) := by decide +kernel
theorem dX8_pinAll_33 : decode cX8_pinAll 33 = .ok (.invokevirtual 105, 3) := by decide +kernel
theorem dX8_pinAll_36 : decode cX8_pinAll 36 = .ok (.iconst 1, 1) := by decide +kernel
theorem dX8_pinAll_37 : decode cX8_pinAll 37 = .ok (.istore_n 2, 1) := by decide +kernel
theorem dX8_pinAll_38 : decode cX8_pinAll 38 = .ok (.iload_n 2, 1) := by decide +kernel
theorem dX8_pinAll_39 : decode cX8_pinAll 39 = .ok (.aload_n 0, 1) := by decide +kernel
theorem dX8_pinAll_40 : decode cX8_pinAll 40 = .ok (.getfield 12, 3) := by decide +kernel
theorem dX8_pinAll_43 : decode cX8_pinAll 43 = .ok (.getfield 102, 3) := by decide +kernel
theorem dX8_pinAll_46 : decode cX8_pinAll 46 = .ok (.if_icmp .ge 37, 3) := by decide +kernel
theorem dX8_pinAll_49 : decode cX8_pinAll 49 = .ok (.aload_n 0, 1) := by decide +kernel
theorem dX8_pinAll_50 : decode cX8_pinAll 50 = .ok (.getfield 12, 3) := by decide +kernel
theorem dX8_pinAll_53 : decode cX8_pinAll 53 = .ok (.iload_n 2, 1) := by decide +kernel
theorem dX8_pinAll_54 : decode cX8_pinAll 54 = .ok (.invokevirtual 182, 3) := by decide +kernel
theorem dX8_pinAll_57 : decode cX8_pinAll 57 = .ok (.ifCond .ne 20, 3) := by decide +kernel
theorem dX8_pinAll_60 : decode cX8_pinAll 60 = .ok (.aload_n 0, 1) := by decide +kernel
theorem dX8_pinAll_61 : decode cX8_pinAll 61 = .ok (.getfield 12, 3) := by decide +kernel
theorem dX8_pinAll_64 : decode cX8_pinAll 64 = .ok (.getfield 176, 3) := by decide +kernel
theorem dX8_pinAll_67 : decode cX8_pinAll 67 = .ok (.iload_n 2, 1) := by decide +kernel
theorem dX8_pinAll_68 : decode cX8_pinAll 68 = .ok (.aload_n 0, 1) := by decide +kernel
theorem dX8_pinAll_69 : decode cX8_pinAll 69 = .ok (.getfield 19, 3) := by decide +kernel
theorem dX8_pinAll_72 : decode cX8_pinAll 72 = .ok (.iload_n 2, 1) := by decide +kernel
theorem dX8_pinAll_73 : decode cX8_pinAll 73 = .ok (.invokevirtual 220, 3) := by decide +kernel
theorem dX8_pinAll_76 : decode cX8_pinAll 76 = .ok (.iastore, 1) := by decide +kernel
theorem dX8_pinAll_77 : decode cX8_pinAll 77 = .ok (.iinc 2 1, 3) := by decide +kernel
theorem dX8_pinAll_80 : decode cX8_pinAll 80 = .ok (.goto (-42), 3) := by decide +kernel
theorem dX8_pinAll_83 : decode cX8_pinAll 83 = .ok (.aload_n 0, 1) := by decide +kernel
theorem dX8_pinAll_84 : decode cX8_pinAll 84 = .ok (.bipush 13, 2) := by decide +kernel
theorem dX8_pinAll_86 : decode cX8_pinAll 86 = .ok (.iload_n 1, 1) := by decide +kernel
theorem dX8_pinAll_87 : decode cX8_pinAll 87 = .ok (.aload_n 0, 1) := by decide +kernel
theorem dX8_pinAll_88 : decode cX8_pinAll 88 = .ok (.getfield 12, 3) := by decide +kernel
theorem dX8_pinAll_91 : decode cX8_pinAll 91 = .ok (.invokevirtual 179, 3) := by decide +kernel
theorem dX8_pinAll_94 : decode cX8_pinAll 94 = .ok (.invokevirtual 112, 3) := by decide +kernel
theorem dX8_pinAll_97 : decode cX8_pinAll 97 = .ok (.iload_n 1, 1) := by decide +kernel
theorem dX8_pinAll_98 : decode cX8_pinAll 98 = .ok (.ireturn, 1) := by decide +kernel
theorem dX8_keep_0 : decode cX8_keep 0 = .ok (.iload_n 1, 1) := by decide +kernel
theorem dX8_keep_1 : decode cX8_keep 1 = .ok (.invokestatic 223, 3) := by decide +kernel
theorem dX8_keep_4 : decode cX8_keep 4 = .ok (.ifCond .ne 5, 3) := by decide +kernel
theorem dX8_keep_7 : decode cX8_keep 7 = .ok (.iconst (-1), 1) := by decide +kernel
theorem dX8_keep_8 : decode cX8_keep 8 = .ok (.ireturn, 1) := by decide +kernel
theorem dX8_keep_9 : decode cX8_keep 9 = .ok (.aload_n 0, 1) := by decide +kernel
theorem dX8_keep_10 : decode cX8_keep 10 = .ok (.getfield 36, 3) := by decide +kernel
theorem dX8_keep_13 : decode cX8_keep 13 = .ok (.getfield 226, 3) := by decide +kernel
theorem dX8_keep_16 : decode cX8_keep 16 = .ok (.iload_n 1, 1) := by decide +kernel
theorem dX8_keep_17 : decode cX8_keep 17 = .ok (.aaload, 1) := by decide +kernel
theorem dX8_keep_18 : decode cX8_keep 18 = .ok (.aload_n 0, 1) := by decide +kernel
theorem dX8_keep_19 : decode cX8_keep 19 = .ok (.getfield 12, 3) := by decide +kernel
theorem dX8_keep_22 : decode cX8_keep 22 = .ok (.invokevirtual 90, 3) := by decide +kernel
theorem dX8_keep_25 : decode cX8_keep 25 = .ok (.aload_n 0, 1) := by decide +kernel
