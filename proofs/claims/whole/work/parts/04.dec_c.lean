theorem dX9_init_0 : decode cX9_init 0 = .ok (.aload_n 0, 1) := by decide +kernel
theorem dX9_init_1 : decode cX9_init 1 = .ok (.invokespecial 1, 3) := by decide +kernel
theorem dX9_init_4 : decode cX9_init 4 = .ok (.aload_n 0, 1) := by decide +kernel
theorem dX9_init_5 : decode cX9_init 5 = .ok (.sipush 900, 3) := by decide +kernel
theorem dX9_init_8 : decode cX9_init 8 = .ok (.newarray .byte, 2) := by decide +kernel
theorem dX9_init_10 : decode cX9_init 10 = .ok (.putfield 7, 3) := by decide +kernel
theorem dX9_init_13 : decode cX9_init 13 = .ok (.aload_n 0, 1) := by decide +kernel
theorem dX9_init_14 : decode cX9_init 14 = .ok (.bipush (-2), 2) := by decide +kernel
theorem dX9_init_16 : decode cX9_init 16 = .ok (.putfield 13, 3) := by decide +kernel
theorem dX9_init_19 : decode cX9_init 19 = .ok (.aload_n 0, 1) := by decide +kernel
theorem dX9_init_20 : decode cX9_init 20 = .ok (.sipush 264, 3) := by decide +kernel
theorem dX9_init_23 : decode cX9_init 23 = .ok (.newarray .int, 2) := by decide +kernel
theorem dX9_init_25 : decode cX9_init 25 = .ok (.putfield 17, 3) := by decide +kernel
theorem dX9_init_28 : decode cX9_init 28 = .ok (.aload_n 0, 1) := by decide +kernel
theorem dX9_init_29 : decode cX9_init 29 = .ok (.sipush 264, 3) := by decide +kernel
theorem dX9_init_32 : decode cX9_init 32 = .ok (.newarray .int, 2) := by decide +kernel
theorem dX9_init_34 : decode cX9_init 34 = .ok (.putfield 21, 3) := by decide +kernel
theorem dX9_init_37 : decode cX9_init 37 = .ok (.aload_n 0, 1) := by decide +kernel
theorem dX9_init_38 : decode cX9_init 38 = .ok (.sipush 2112, 3) := by decide +kernel
theorem dX9_init_41 : decode cX9_init 41 = .ok (.newarray .int, 2) := by decide +kernel
theorem dX9_init_43 : decode cX9_init 43 = .ok (.putfield 24, 3) := by decide +kernel
theorem dX9_init_46 : decode cX9_init 46 = .ok (.aload_n 0, 1) := by decide +kernel
theorem dX9_init_47 : decode cX9_init 47 = .ok (.sipush 528, 3) := by decide +kernel
theorem dX9_init_50 : decode cX9_init 50 = .ok (.newarray .int, 2) := by decide +kernel
theorem dX9_init_52 : decode cX9_init 52 = .ok (.putfield 27, 3) := by decide +kernel
theorem dX9_init_55 : decode cX9_init 55 = .ok (.aload_n 0, 1) := by decide +kernel
theorem dX9_init_56 : decode cX9_init 56 = .ok (.iconst 2, 1) := by decide +kernel
theorem dX9_init_57 : decode cX9_init 57 = .ok (.newarray .boolean, 2) := by decide +kernel
theorem dX9_init_59 : decode cX9_init 59 = .ok (.putfield 30, 3) := by decide +kernel
theorem dX9_init_62 : decode cX9_init 62 = .ok (.aload_n 0, 1) := by decide +kernel
theorem dX9_init_63 : decode cX9_init 63 = .ok (.bipush 60, 2) := by decide +kernel
theorem dX9_init_65 : decode cX9_init 65 = .ok (.newarray .int, 2) := by decide +kernel
theorem dX9_init_67 : decode cX9_init 67 = .ok (.putfield 34, 3) := by decide +kernel
theorem dX9_init_70 : decode cX9_init 70 = .ok (.aload_n 0, 1) := by decide +kernel
theorem dX9_init_71 : decode cX9_init 71 = .ok (.bipush 60, 2) := by decide +kernel
theorem dX9_init_73 : decode cX9_init 73 = .ok (.newarray .int, 2) := by decide +kernel
theorem dX9_init_75 : decode cX9_init 75 = .ok (.putfield 37, 3) := by decide +kernel
theorem dX9_init_78 : decode cX9_init 78 = .ok (.aload_n 0, 1) := by decide +kernel
theorem dX9_init_79 : decode cX9_init 79 = .ok (.bipush 60, 2) := by decide +kernel
theorem dX9_init_81 : decode cX9_init 81 = .ok (.newarray .int, 2) := by decide +kernel
theorem dX9_init_83 : decode cX9_init 83 = .ok (.putfield 40, 3) := by decide +kernel
theorem dX9_init_86 : decode cX9_init 86 = .ok (.aload_n 0, 1) := by decide +kernel
theorem dX9_init_87 : decode cX9_init 87 = .ok (.bipush 60, 2) := by decide +kernel
theorem dX9_init_89 : decode cX9_init 89 = .ok (.newarray .int, 2) := by decide +kernel
theorem dX9_init_91 : decode cX9_init 91 = .ok (.putfield 43, 3) := by decide +kernel
theorem dX9_init_94 : decode cX9_init 94 = .ok (.aload_n 0, 1) := by decide +kernel
theorem dX9_init_95 : decode cX9_init 95 = .ok (.bipush 100, 2) := by decide +kernel
theorem dX9_init_97 : decode cX9_init 97 = .ok (.newarray .int, 2) := by decide +kernel
theorem dX9_init_99 : decode cX9_init 99 = .ok (.putfield 46, 3) := by decide +kernel
theorem dX9_init_102 : decode cX9_init 102 = .ok (.aload_n 0, 1) := by decide +kernel
theorem dX9_init_103 : decode cX9_init 103 = .ok (.bipush 120, 2) := by decide +kernel
theorem dX9_init_105 : decode cX9_init 105 = .ok (.newarray .int, 2) := by decide +kernel
theorem dX9_init_107 : decode cX9_init 107 = .ok (.putfield 49, 3) := by decide +kernel
theorem dX9_init_110 : decode cX9_init 110 = .ok (.aload_n 0, 1) := by decide +kernel
theorem dX9_init_111 : decode cX9_init 111 = .ok (.bipush 12, 2) := by decide +kernel
theorem dX9_init_113 : decode cX9_init 113 = .ok (.newarray .int, 2) := by decide +kernel
theorem dX9_init_115 : decode cX9_init 115 = .ok (.putfield 52, 3) := by decide +kernel
theorem dX9_init_118 : decode cX9_init 118 = .ok (.aload_n 0, 1) := by decide +kernel
theorem dX9_init_119 : decode cX9_init 119 = .ok (.bipush 100, 2) := by decide +kernel
theorem dX9_init_121 : decode cX9_init 121 = .ok (.newarray .int, 2) := by decide +kernel
theorem dX9_init_123 : decode cX9_init 123 = .ok (.putfield 55, 3) := by decide +kernel
theorem dX9_init_126 : decode cX9_init 126 = .ok (.aload_n 0, 1) := by decide +kernel
theorem dX9_init_127 : decode cX9_init 127 = .ok (.sipush 1200, 3) := by decide +kernel
theorem dX9_init_130 : decode cX9_init 130 = .ok (.newarray .byte, 2) := by decide +kernel
theorem dX9_init_132 : decode cX9_init 132 = .ok (.putfield 58, 3) := by decide +kernel
theorem dX9_init_135 : decode cX9_init 135 = .ok (.aload_n 0, 1) := by decide +kernel
theorem dX9_init_136 : decode cX9_init 136 = .ok (.getfield 17, 3) := by decide +kernel
theorem dX9_init_139 : decode cX9_init 139 = .ok (.iconst 0, 1) := by decide +kernel
theorem dX9_init_140 : decode cX9_init 140 = .ok (.bipush 100, 2) := by decide +kernel
theorem dX9_init_142 : decode cX9_init 142 = .ok (.iastore, 1) := by decide +kernel
theorem dX9_init_143 : decode cX9_init 143 = .ok (.aload_n 0, 1) := by decide +kernel
theorem dX9_init_144 : decode cX9_init 144 = .ok (.getfield 17, 3) := by decide +kernel
theorem dX9_init_147 : decode cX9_init 147 = .ok (.iconst 1, 1) := by decide +kernel
theorem dX9_init_148 : decode cX9_init 148 = .ok (.iconst 1, 1) := by decide +kernel
theorem dX9_init_149 : decode cX9_init 149 = .ok (.iastore, 1) := by decide +kernel
theorem dX9_init_150 : decode cX9_init 150 = .ok (.aload_n 0, 1) := by decide +kernel
theorem dX9_init_151 : decode cX9_init 151 = .ok (.getfield 17, 3) := by decide +kernel
theorem dX9_init_154 : decode cX9_init 154 = .ok (.iconst 3, 1) := by decide +kernel
theorem dX9_init_155 : decode cX9_init 155 = .ok (.ldc 61, 2) := by decide +kernel
theorem dX9_init_157 : decode cX9_init 157 = .ok (.iastore, 1) := by decide +kernel
theorem dX9_init_158 : decode cX9_init 158 = .ok (.return_, 1) := by decide +kernel
theorem dX9_in_0 : decode cX9_in 0 = .ok (.iload_n 0, 1) := by decide +kernel
theorem dX9_in_1 : decode cX9_in 1 = .ok (.iload_n 1, 1) := by decide +kernel
theorem dX9_in_2 : decode cX9_in 2 = .ok (.if_icmp .lt 12, 3) := by decide +kernel
theorem dX9_in_5 : decode cX9_in 5 = .ok (.iload_n 0, 1) := by decide +kernel
theorem dX9_in_6 : decode cX9_in 6 = .ok (.iload_n 2, 1) := by decide +kernel
theorem dX9_in_7 : decode cX9_in 7 = .ok (.if_icmp .gt 7, 3) := by decide +kernel
theorem dX9_in_10 : decode cX9_in 10 = .ok (.iconst 1, 1) := by decide +kernel
theorem dX9_in_11 : decode cX9_in 11 = .ok (.goto 4, 3) := by decide +kernel
theorem dX9_in_14 : decode cX9_in 14 = .ok (.iconst 0, 1) := by decide +kernel
theorem dX9_in_15 : decode cX9_in 15 = .ok (.ireturn, 1) := by decide +kernel
theorem dX9_begins_0 : decode cX9_begins 0 = .ok (.iconst 0, 1) := by decide +kernel
theorem dX9_begins_1 : decode cX9_begins 1 = .ok (.istore_n 1, 1) := by decide +kernel
theorem dX9_begins_2 : decode cX9_begins 2 = .ok (.iload_n 1, 1) := by decide +kernel
theorem dX9_begins_3 : decode cX9_begins 3 = .ok (.sipush 264, 3) := by decide +kernel
theorem dX9_begins_6 : decode cX9_begins 6 = .ok (.if_icmp .ge 21, 3) := by decide +kernel
theorem dX9_begins_9 : decode cX9_begins 9 = .ok (.aload_n 0, 1) := by decide +kernel
theorem dX9_begins_10 : decode cX9_begins 10 = .ok (.getfield 21, 3) := by decide +kernel
theorem dX9_begins_13 : decode cX9_begins 13 = .ok (.iload_n 1, 1) := by decide +kernel
theorem dX9_begins_14 : decode cX9_begins 14 = .ok (.aload_n 0, 1) := by decide +kernel
theorem dX9_begins_15 : decode cX9_begins 15 = .ok (.getfield 17, 3) := by decide +kernel
theorem dX9_begins_18 : decode cX9_begins 18 = .ok (.iload_n 1, 1) := by decide +kernel
theorem dX9_begins_19 : decode cX9_begins 19 = .ok (.iaload, 1) := by decide +kernel
theorem dX9_begins_20 : decode cX9_begins 20 = .ok (.iastore, 1) := by decide +kernel
theorem dX9_begins_21 : decode cX9_begins 21 = .ok (.iinc 1 1, 3) := by decide +kernel
theorem dX9_begins_24 : decode cX9_begins 24 = .ok (.goto (-22), 3) := by decide +kernel
theorem dX9_begins_27 : decode cX9_begins 27 = .ok (.return_, 1) := by decide +kernel
theorem dX9_fails_0 : decode cX9_fails 0 = .ok (.iconst 0, 1) := by decide +kernel
theorem dX9_fails_1 : decode cX9_fails 1 = .ok (.istore_n 2, 1) := by decide +kernel
theorem dX9_fails_2 : decode cX9_fails 2 = .ok (.iload_n 2, 1) := by decide +kernel
theorem dX9_fails_3 : decode cX9_fails 3 = .ok (.sipush 264, 3) := by decide +kernel
theorem dX9_fails_6 : decode cX9_fails 6 = .ok (.if_icmp .ge 21, 3) := by decide +kernel
theorem dX9_fails_9 : decode cX9_fails 9 = .ok (.aload_n 0, 1) := by decide +kernel
theorem dX9_fails_10 : decode cX9_fails 10 = .ok (.getfield 17, 3) := by decide +kernel
theorem dX9_fails_13 : decode cX9_fails 13 = .ok (.iload_n 2, 1) := by decide +kernel
theorem dX9_fails_14 : decode cX9_fails 14 = .ok (.aload_n 0, 1) := by decide +kernel
theorem dX9_fails_15 : decode cX9_fails 15 = .ok (.getfield 21, 3) := by decide +kernel
theorem dX9_fails_18 : decode cX9_fails 18 = .ok (.iload_n 2, 1) := by decide +kernel
theorem dX9_fails_19 : decode cX9_fails 19 = .ok (.iaload, 1) := by decide +kernel
theorem dX9_fails_20 : decode cX9_fails 20 = .ok (.iastore, 1) := by decide +kernel
theorem dX9_fails_21 : decode cX9_fails 21 = .ok (.iinc 2 1, 3) := by decide +kernel
theorem dX9_fails_24 : decode cX9_fails 24 = .ok (.goto (-22), 3) := by decide +kernel
theorem dX9_fails_27 : decode cX9_fails 27 = .ok (.iload_n 1, 1) := by decide +kernel
theorem dX9_fails_28 : decode cX9_fails 28 = .ok (.ireturn, 1) := by decide +kernel
theorem dX9_done_0 : decode cX9_done 0 = .ok (.aload_n 0, 1) := by decide +kernel
theorem dX9_done_1 : decode cX9_done 1 = .ok (.getfield 62, 3) := by decide +kernel
theorem dX9_done_4 : decode cX9_done 4 = .ok (.bipush 8, 2) := by decide +kernel
theorem dX9_done_6 : decode cX9_done 6 = .ok (.if_icmp .ne 44, 3) := by decide +kernel
theorem dX9_done_9 : decode cX9_done 9 = .ok (.iconst 0, 1) := by decide +kernel
theorem dX9_done_10 : decode cX9_done 10 = .ok (.istore_n 2, 1) := by decide +kernel
theorem dX9_done_11 : decode cX9_done 11 = .ok (.iload_n 2, 1) := by decide +kernel
theorem dX9_done_12 : decode cX9_done 12 = .ok (.sipush 1848, 3) := by decide +kernel
theorem dX9_done_15 : decode cX9_done 15 = .ok (.if_icmp .ge 25, 3) := by decide +kernel
theorem dX9_done_18 : decode cX9_done 18 = .ok (.aload_n 0, 1) := by decide +kernel
theorem dX9_done_19 : decode cX9_done 19 = .ok (.getfield 24, 3) := by decide +kernel
theorem dX9_done_22 : decode cX9_done 22 = .ok (.iload_n 2, 1) := by decide +kernel
theorem dX9_done_23 : decode cX9_done 23 = .ok (.aload_n 0, 1) := by decide +kernel
theorem dX9_done_24 : decode cX9_done 24 = .ok (.getfield 24, 3) := by decide +kernel
theorem dX9_done_27 : decode cX9_done 27 = .ok (.iload_n 2, 1) := by decide +kernel
theorem dX9_done_28 : decode cX9_done 28 = .ok (.sipush 264, 3) := by decide +kernel
theorem dX9_done_31 : decode cX9_done 31 = .ok (.iadd, 1) := by decide +kernel
theorem dX9_done_32 : decode cX9_done 32 = .ok (.iaload, 1) := by decide +kernel
theorem dX9_done_33 : decode cX9_done 33 = .ok (.iastore, 1) := by decide +kernel
theorem dX9_done_34 : decode cX9_done 34 = .ok (.iinc 2 1, 3) := by decide +kernel
theorem dX9_done_37 : decode cX9_done 37 = .ok (.goto (-26), 3) := by decide +kernel
theorem dX9_done_40 : decode cX9_done 40 = .ok (.aload_n 0, 1) := by decide +kernel
theorem dX9_done_41 : decode cX9_done 41 = .ok (.dup, 1) := by decide +kernel
theorem dX9_done_42 : decode cX9_done 42 = .ok (.getfield 62, 3) := by decide +kernel
theorem dX9_done_45 : decode cX9_done 45 = .ok (.iconst 1, 1) := by decide +kernel
theorem dX9_done_46 : decode cX9_done 46 = .ok (.isub, 1) := by decide +kernel
theorem dX9_done_47 : decode cX9_done 47 = .ok (.putfield 62, 3) := by decide +kernel
theorem dX9_done_50 : decode cX9_done 50 = .ok (.iconst 0, 1) := by decide +kernel
theorem dX9_done_51 : decode cX9_done 51 = .ok (.istore_n 2, 1) := by decide +kernel
theorem dX9_done_52 : decode cX9_done 52 = .ok (.iload_n 2, 1) := by decide +kernel
theorem dX9_done_53 : decode cX9_done 53 = .ok (.sipush 264, 3) := by decide +kernel
theorem dX9_done_56 : decode cX9_done 56 = .ok (.if_icmp .ge 30, 3) := by decide +kernel
theorem dX9_done_59 : decode cX9_done 59 = .ok (.aload_n 0, 1) := by decide +kernel
theorem dX9_done_60 : decode cX9_done 60 = .ok (.getfield 24, 3) := by decide +kernel
theorem dX9_done_63 : decode cX9_done 63 = .ok (.sipush 264, 3) := by decide +kernel
theorem dX9_done_66 : decode cX9_done 66 = .ok (.aload_n 0, 1) := by decide +kernel
theorem dX9_done_67 : decode cX9_done 67 = .ok (.getfield 62, 3) := by decide +kernel
theorem dX9_done_70 : decode cX9_done 70 = .ok (.imul, 1) := by decide +kernel
theorem dX9_done_71 : decode cX9_done 71 = .ok (.iload_n 2, 1) := by decide +kernel
theorem dX9_done_72 : decode cX9_done 72 = .ok (.iadd, 1) := by decide +kernel
theorem dX9_done_73 : decode cX9_done 73 = .ok (.aload_n 0, 1) := by decide +kernel
theorem dX9_done_74 : decode cX9_done 74 = .ok (.getfield 21, 3) := by decide +kernel
theorem dX9_done_77 : decode cX9_done 77 = .ok (.iload_n 2, 1) := by decide +kernel
theorem dX9_done_78 : decode cX9_done 78 = .ok (.iaload, 1) := by decide +kernel
theorem dX9_done_79 : decode cX9_done 79 = .ok (.iastore, 1) := by decide +kernel
theorem dX9_done_80 : decode cX9_done 80 = .ok (.iinc 2 1, 3) := by decide +kernel
theorem dX9_done_83 : decode cX9_done 83 = .ok (.goto (-31), 3) := by decide +kernel
theorem dX9_done_86 : decode cX9_done 86 = .ok (.aload_n 0, 1) := by decide +kernel
theorem dX9_done_87 : decode cX9_done 87 = .ok (.dup, 1) := by decide +kernel
theorem dX9_done_88 : decode cX9_done 88 = .ok (.getfield 62, 3) := by decide +kernel
theorem dX9_done_91 : decode cX9_done 91 = .ok (.iconst 1, 1) := by decide +kernel
theorem dX9_done_92 : decode cX9_done 92 = .ok (.iadd, 1) := by decide +kernel
theorem dX9_done_93 : decode cX9_done 93 = .ok (.putfield 62, 3) := by decide +kernel
theorem dX9_done_96 : decode cX9_done 96 = .ok (.iload_n 1, 1) := by decide +kernel
theorem dX9_done_97 : decode cX9_done 97 = .ok (.ireturn, 1) := by decide +kernel
theorem dX9_undo_0 : decode cX9_undo 0 = .ok (.aload_n 0, 1) := by decide +kernel
theorem dX9_undo_1 : decode cX9_undo 1 = .ok (.getfield 62, 3) := by decide +kernel
theorem dX9_undo_4 : decode cX9_undo 4 = .ok (.ifCond .ne 5, 3) := by decide +kernel
theorem dX9_undo_7 : decode cX9_undo 7 = .ok (.iconst (-1), 1) := by decide +kernel
theorem dX9_undo_8 : decode cX9_undo 8 = .ok (.ireturn, 1) := by decide +kernel
theorem dX9_undo_9 : decode cX9_undo 9 = .ok (.aload_n 0, 1) := by decide +kernel
theorem dX9_undo_10 : decode cX9_undo 10 = .ok (.dup, 1) := by decide +kernel
theorem dX9_undo_11 : decode cX9_undo 11 = .ok (.getfield 62, 3) := by decide +kernel
theorem dX9_undo_14 : decode cX9_undo 14 = .ok (.iconst 1, 1) := by decide +kernel
theorem dX9_undo_15 : decode cX9_undo 15 = .ok (.isub, 1) := by decide +kernel
theorem dX9_undo_16 : decode cX9_undo 16 = .ok (.putfield 62, 3) := by decide +kernel
theorem dX9_undo_19 : decode cX9_undo 19 = .ok (.iconst 0, 1) := by decide +kernel
theorem dX9_undo_20 : decode cX9_undo 20 = .ok (.istore_n 1, 1) := by decide +kernel
theorem dX9_undo_21 : decode cX9_undo 21 = .ok (.iload_n 1, 1) := by decide +kernel
theorem dX9_undo_22 : decode cX9_undo 22 = .ok (.sipush 264, 3) := by decide +kernel
theorem dX9_undo_25 : decode cX9_undo 25 = .ok (.if_icmp .ge 30, 3) := by decide +kernel
theorem dX9_undo_28 : decode cX9_undo 28 = .ok (.aload_n 0, 1) := by decide +kernel
theorem dX9_undo_29 : decode cX9_undo 29 = .ok (.getfield 17, 3) := by decide +kernel
theorem dX9_undo_32 : decode cX9_undo 32 = .ok (.iload_n 1, 1) := by decide +kernel
theorem dX9_undo_33 : decode cX9_undo 33 = .ok (.aload_n 0, 1) := by decide +kernel
theorem dX9_undo_34 : decode cX9_undo 34 = .ok (.getfield 24, 3) := by decide +kernel
theorem dX9_undo_37 : decode cX9_undo 37 = .ok (.sipush 264, 3) := by decide +kernel
theorem dX9_undo_40 : decode cX9_undo 40 = .ok (.aload_n 0, 1) := by decide +kernel
theorem dX9_undo_41 : decode cX9_undo 41 = .ok (.getfield 62, 3) := by decide +kernel
theorem dX9_undo_44 : decode cX9_undo 44 = .ok (.imul, 1) := by decide +kernel
theorem dX9_undo_45 : decode cX9_undo 45 = .ok (.iload_n 1, 1) := by decide +kernel
theorem dX9_undo_46 : decode cX9_undo 46 = .ok (.iadd, 1) := by decide +kernel
theorem dX9_undo_47 : decode cX9_undo 47 = .ok (.iaload, 1) := by decide +kernel
theorem dX9_undo_48 : decode cX9_undo 48 = .ok (.iastore, 1) := by decide +kernel
theorem dX9_undo_49 : decode cX9_undo 49 = .ok (.iinc 1 1, 3) := by decide +kernel
theorem dX9_undo_52 : decode cX9_undo 52 = .ok (.goto (-31), 3) := by decide +kernel
theorem dX9_undo_55 : decode cX9_undo 55 = .ok (.aload_n 0, 1) := by decide +kernel
theorem dX9_undo_56 : decode cX9_undo 56 = .ok (.getfield 62, 3) := by decide +kernel
theorem dX9_undo_59 : decode cX9_undo 59 = .ok (.ireturn, 1) := by decide +kernel
theorem dX9_keep_0 : decode cX9_keep 0 = .ok (.iload_n 1, 1) := by decide +kernel
theorem dX9_keep_1 : decode cX9_keep 1 = .ok (.iconst 0, 1) := by decide +kernel
theorem dX9_keep_2 : decode cX9_keep 2 = .ok (.iconst 1, 1) := by decide +kernel
theorem dX9_keep_3 : decode cX9_keep 3 = .ok (.invokestatic 65, 3) := by decide +kernel
theorem dX9_keep_6 : decode cX9_keep 6 = .ok (.ifCond .ne 5, 3) := by decide +kernel
theorem dX9_keep_9 : decode cX9_keep 9 = .ok (.iconst (-1), 1) := by decide +kernel
theorem dX9_keep_10 : decode cX9_keep 10 = .ok (.ireturn, 1) := by decide +kernel
theorem dX9_keep_11 : decode cX9_keep 11 = .ok (.iconst 0, 1) := by decide +kernel
theorem dX9_keep_12 : decode cX9_keep 12 = .ok (.istore_n 2, 1) := by decide +kernel
theorem dX9_keep_13 : decode cX9_keep 13 = .ok (.iload_n 2, 1) := by decide +kernel
theorem dX9_keep_14 : decode cX9_keep 14 = .ok (.sipush 264, 3) := by decide +kernel
theorem dX9_keep_17 : decode cX9_keep 17 = .ok (.if_icmp .ge 27, 3) := by decide +kernel
theorem dX9_keep_20 : decode cX9_keep 20 = .ok (.aload_n 0, 1) := by decide +kernel
theorem dX9_keep_21 : decode cX9_keep 21 = .ok (.getfield 27, 3) := by decide +kernel
theorem dX9_keep_24 : decode cX9_keep 24 = .ok (.sipush 264, 3) := by decide +kernel
theorem dX9_keep_27 : decode cX9_keep 27 = .ok (.iload_n 1, 1) := by decide +kernel
theorem dX9_keep_28 : decode cX9_keep 28 = .ok (.imul, 1) := by decide +kernel
theorem dX9_keep_29 : decode cX9_keep 29 = .ok (.iload_n 2, 1) := by decide +kernel
theorem dX9_keep_30 : decode cX9_keep 30 = .ok (.iadd, 1) := by decide +kernel
theorem dX9_keep_31 : decode cX9_keep 31 = .ok (.aload_n 0, 1) := by decide +kernel
theorem dX9_keep_32 : decode cX9_keep 32 = .ok (.getfield 17, 3) := by decide +kernel
theorem dX9_keep_35 : decode cX9_keep 35 = .ok (.iload_n 2, 1) := by decide +kernel
theorem dX9_keep_36 : decode cX9_keep 36 = .ok (.iaload, 1) := by decide +kernel
theorem dX9_keep_37 : decode cX9_keep 37 = .ok (.iastore, 1) := by decide +kernel
theorem dX9_keep_38 : decode cX9_keep 38 = .ok (.iinc 2 1, 3) := by decide +kernel
theorem dX9_keep_41 : decode cX9_keep 41 = .ok (.goto (-28), 3) := by decide +kernel
theorem dX9_keep_44 : decode cX9_keep 44 = .ok (.aload_n 0, 1) := by decide +kernel
theorem dX9_keep_45 : decode cX9_keep 45 = .ok (.getfield 30, 3) := by decide +kernel
theorem dX9_keep_48 : decode cX9_keep 48 = .ok (.iload_n 1, 1) := by decide +kernel
theorem dX9_keep_49 : decode cX9_keep 49 = .ok (.iconst 1, 1) := by decide +kernel
theorem dX9_keep_50 : decode cX9_keep 50 = .ok (.bastore, 1) := by decide +kernel
theorem dX9_keep_51 : decode cX9_keep 51 = .ok (.aload_n 0, 1) := by decide +kernel
theorem dX9_keep_52 : decode cX9_keep 52 = .ok (.getfield 17, 3) := by decide +kernel
theorem dX9_keep_55 : decode cX9_keep 55 = .ok (.iconst 2, 1) := by decide +kernel
theorem dX9_keep_56 : decode cX9_keep 56 = .ok (.iaload, 1) := by decide +kernel
theorem dX9_keep_57 : decode cX9_keep 57 = .ok (.ireturn, 1) := by decide +kernel
theorem dX9_restore_0 : decode cX9_restore 0 = .ok (.iload_n 1, 1) := by decide +kernel
theorem dX9_restore_1 : decode cX9_restore 1 = .ok (.iconst 0, 1) := by decide +kernel
theorem dX9_restore_2 : decode cX9_restore 2 = .ok (.iconst 1, 1) := by decide +kernel
theorem dX9_restore_3 : decode cX9_restore 3 = .ok (.invokestatic 65, 3) := by decide +kernel
theorem dX9_restore_6 : decode cX9_restore 6 = .ok (.ifCond .ne 5, 3) := by decide +kernel
theorem dX9_restore_9 : decode cX9_restore 9 = .ok (.iconst (-1), 1) := by decide +kernel
theorem dX9_restore_10 : decode cX9_restore 10 = .ok (.ireturn, 1) := by decide +kernel
theorem dX9_restore_11 : decode cX9_restore 11 = .ok (.aload_n 0, 1) := by decide +kernel
theorem dX9_restore_12 : decode cX9_restore 12 = .ok (.getfield 30, 3) := by decide +kernel
theorem dX9_restore_15 : decode cX9_restore 15 = .ok (.iload_n 1, 1) := by decide +kernel
theorem dX9_restore_16 : decode cX9_restore 16 = .ok (.baload, 1) := by decide +kernel
theorem dX9_restore_17 : decode cX9_restore 17 = .ok (.ifCond .ne 6, 3) := by decide +kernel
theorem dX9_restore_20 : decode cX9_restore 20 = .ok (.bipush (-2), 2) := by decide +kernel
theorem dX9_restore_22 : decode cX9_restore 22 = .ok (.ireturn, 1) := by decide +kernel
theorem dX9_restore_23 : decode cX9_restore 23 = .ok (.aload_n 0, 1) := by decide +kernel
theorem dX9_restore_24 : decode cX9_restore 24 = .ok (.invokevirtual 69, 3) := by decide +kernel
theorem dX9_restore_27 : decode cX9_restore 27 = .ok (.iconst 0, 1) := by decide +kernel
theorem dX9_restore_28 : decode cX9_restore 28 = .ok (.istore_n 2, 1) := by decide +kernel
theorem dX9_restore_29 : decode cX9_restore 29 = .ok (.iload_n 2, 1) := by decide +kernel
theorem dX9_restore_30 : decode cX9_restore 30 = .ok (.sipush 264, 3) := by decide +kernel
theorem dX9_restore_33 : decode cX9_restore 33 = .ok (.if_icmp .ge 27, 3) := by decide +kernel
theorem dX9_restore_36 : decode cX9_restore 36 = .ok (.aload_n 0, 1) := by decide +kernel
theorem dX9_restore_37 : decode cX9_restore 37 = .ok (.getfield 17, 3) := by decide +kernel
theorem dX9_restore_40 : decode cX9_restore 40 = .ok (.iload_n 2, 1) := by decide +kernel
theorem dX9_restore_41 : decode cX9_restore 41 = .ok (.aload_n 0, 1) := by decide +kernel
theorem dX9_restore_42 : decode cX9_restore 42 = .ok (.getfield 27, 3) := by decide +kernel
theorem dX9_restore_45 : decode cX9_restore 45 = .ok (.sipush 264, 3) := by decide +kernel
theorem dX9_restore_48 : decode cX9_restore 48 = .ok (.iload_n 1, 1) := by decide +kernel
theorem dX9_restore_49 : decode cX9_restore 49 = .ok (.imul, 1) := by decide +kernel
theorem dX9_restore_50 : decode cX9_restore 50 = .ok (.iload_n 2, 1) := by decide +kernel
theorem dX9_restore_51 : decode cX9_restore 51 = .ok (.iadd, 1) := by decide +kernel
theorem dX9_restore_52 : decode cX9_restore 52 = .ok (.iaload, 1) := by decide +kernel
theorem dX9_restore_53 : decode cX9_restore 53 = .ok (.iastore, 1) := by decide +kernel
theorem dX9_restore_54 : decode cX9_restore 54 = .ok (.iinc 2 1, 3) := by decide +kernel
theorem dX9_restore_57 : decode cX9_restore 57 = .ok (.goto (-28), 3) := by decide +kernel
theorem dX9_restore_60 : decode cX9_restore 60 = .ok (.aload_n 0, 1) := by decide +kernel
theorem dX9_restore_61 : decode cX9_restore 61 = .ok (.aload_n 0, 1) := by decide +kernel
theorem dX9_restore_62 : decode cX9_restore 62 = .ok (.getfield 17, 3) := by decide +kernel
theorem dX9_restore_65 : decode cX9_restore 65 = .ok (.iconst 2, 1) := by decide +kernel
theorem dX9_restore_66 : decode cX9_restore 66 = .ok (.iaload, 1) := by decide +kernel
theorem dX9_restore_67 : decode cX9_restore 67 = .ok (.invokevirtual 72, 3) := by decide +kernel
theorem dX9_restore_70 : decode cX9_restore 70 = .ok (.ireturn, 1) := by decide +kernel
theorem dX9_logs_0 : decode cX9_logs 0 = .ok (.aload_n 0, 1) := by decide +kernel
theorem dX9_logs_1 : decode cX9_logs 1 = .ok (.getfield 17, 3) := by decide +kernel
theorem dX9_logs_4 : decode cX9_logs 4 = .ok (.sipush 143, 3) := by decide +kernel
theorem dX9_logs_7 : decode cX9_logs 7 = .ok (.iaload, 1) := by decide +kernel
theorem dX9_logs_8 : decode cX9_logs 8 = .ok (.bipush 40, 2) := by decide +kernel
theorem dX9_logs_10 : decode cX9_logs 10 = .ok (.if_icmp .ne 55, 3) := by decide +kernel
theorem dX9_logs_13 : decode cX9_logs 13 = .ok (.iconst 0, 1) := by decide +kernel
theorem dX9_logs_14 : decode cX9_logs 14 = .ok (.istore 4, 2) := by decide +kernel
theorem dX9_logs_16 : decode cX9_logs 16 = .ok (.iload 4, 2) := by decide +kernel
theorem dX9_logs_18 : decode cX9_logs 18 = .ok (.bipush 117, 2) := by decide +kernel
theorem dX9_logs_20 : decode cX9_logs 20 = .ok (.if_icmp .ge 33, 3) := by decide +kernel
theorem dX9_logs_23 : decode cX9_logs 23 = .ok (.aload_n 0, 1) := by decide +kernel
theorem dX9_logs_24 : decode cX9_logs 24 = .ok (.getfield 17, 3) := by decide +kernel
theorem dX9_logs_27 : decode cX9_logs 27 = .ok (.sipush 144, 3) := by decide +kernel
theorem dX9_logs_30 : decode cX9_logs 30 = .ok (.iload 4, 2) := by decide +kernel
theorem dX9_logs_32 : decode cX9_logs 32 = .ok (.iadd, 1) := by decide +kernel
theorem dX9_logs_33 : decode cX9_logs 33 = .ok (.aload_n 0, 1) := by decide +kernel
theorem dX9_logs_34 : decode cX9_logs 34 = .ok (.getfield 17, 3) := by decide +kernel
theorem dX9_logs_37 : decode cX9_logs 37 = .ok (.sipush 144, 3) := by decide +kernel
theorem dX9_logs_40 : decode cX9_logs 40 = .ok (.iload 4, 2) := by decide +kernel
theorem dX9_logs_42 : decode cX9_logs 42 = .ok (.iadd, 1) := by decide +kernel
theorem dX9_logs_43 : decode cX9_logs 43 = .ok (.iconst 3, 1) := by decide +kernel
theorem dX9_logs_44 : decode cX9_logs 44 = .ok (.iadd, 1) := by decide +kernel
theorem dX9_logs_45 : decode cX9_logs 45 = .ok (.iaload, 1) := by decide +kernel
theorem dX9_logs_46 : decode cX9_logs 46 = .ok (.iastore, 1) := by decide +kernel
theorem dX9_logs_47 : decode cX9_logs 47 = .ok (.iinc 4 1, 3) := by decide +kernel
theorem dX9_logs_50 : decode cX9_logs 50 = .ok (.goto (-34), 3) := by decide +kernel
theorem dX9_logs_53 : decode cX9_logs 53 = .ok (.aload_n 0, 1) := by decide +kernel
theorem dX9_logs_54 : decode cX9_logs 54 = .ok (.getfield 17, 3) := by decide +kernel
theorem dX9_logs_57 : decode cX9_logs 57 = .ok (.sipush 143, 3) := by decide +kernel
theorem dX9_logs_60 : decode cX9_logs 60 = .ok (.dup2, 1) := by decide +kernel
theorem dX9_logs_61 : decode cX9_logs 61 = .ok (.iaload, 1) := by decide +kernel
theorem dX9_logs_62 : decode cX9_logs 62 = .ok (.iconst 1, 1) := by decide +kernel
theorem dX9_logs_63 : decode cX9_logs 63 = .ok (.isub, 1) := by decide +kernel
theorem dX9_logs_64 : decode cX9_logs 64 = .ok (.iastore, 1) := by decide +kernel
theorem dX9_logs_65 : decode cX9_logs 65 = .ok (.sipush 144, 3) := by decide +kernel
theorem dX9_logs_68 : decode cX9_logs 68 = .ok (.iconst 3, 1) := by decide +kernel
theorem dX9_logs_69 : decode cX9_logs 69 = .ok (.aload_n 0, 1) := by decide +kernel
theorem dX9_logs_70 : decode cX9_logs 70 = .ok (.getfield 17, 3) := by decide +kernel
theorem dX9_logs_73 : decode cX9_logs 73 = .ok (.sipush 143, 3) := by decide +kernel
theorem dX9_logs_76 : decode cX9_logs 76 = .ok (.iaload, 1) := by decide +kernel
theorem dX9_logs_77 : decode cX9_logs 77 = .ok (.imul, 1) := by decide +kernel
theorem dX9_logs_78 : decode cX9_logs 78 = .ok (.iadd, 1) := by decide +kernel
theorem dX9_logs_79 : decode cX9_logs 79 = .ok (.istore 4, 2) := by decide +kernel
theorem dX9_logs_81 : decode cX9_logs 81 = .ok (.aload_n 0, 1) := by decide +kernel
theorem dX9_logs_82 : decode cX9_logs 82 = .ok (.getfield 17, 3) := by decide +kernel
theorem dX9_logs_85 : decode cX9_logs 85 = .ok (.iload 4, 2) := by decide +kernel
theorem dX9_logs_87 : decode cX9_logs 87 = .ok (.iload_n 1, 1) := by decide +kernel
theorem dX9_logs_88 : decode cX9_logs 88 = .ok (.iastore, 1) := by decide +kernel
theorem dX9_logs_89 : decode cX9_logs 89 = .ok (.aload_n 0, 1) := by decide +kernel
theorem dX9_logs_90 : decode cX9_logs 90 = .ok (.getfield 17, 3) := by decide +kernel
theorem dX9_logs_93 : decode cX9_logs 93 = .ok (.iload 4, 2) := by decide +kernel
theorem dX9_logs_95 : decode cX9_logs 95 = .ok (.iconst 1, 1) := by decide +kernel
theorem dX9_logs_96 : decode cX9_logs 96 = .ok (.iadd, 1) := by decide +kernel
theorem dX9_logs_97 : decode cX9_logs 97 = .ok (.iload_n 2, 1) := by decide +kernel
theorem dX9_logs_98 : decode cX9_logs 98 = .ok (.iastore, 1) := by decide +kernel
theorem dX9_logs_99 : decode cX9_logs 99 = .ok (.aload_n 0, 1) := by decide +kernel
theorem dX9_logs_100 : decode cX9_logs 100 = .ok (.getfield 17, 3) := by decide +kernel
theorem dX9_logs_103 : decode cX9_logs 103 = .ok (.iload 4, 2) := by decide +kernel
theorem dX9_logs_105 : decode cX9_logs 105 = .ok (.iconst 2, 1) := by decide +kernel
theorem dX9_logs_106 : decode cX9_logs 106 = .ok (.iadd, 1) := by decide +kernel
theorem dX9_logs_107 : decode cX9_logs 107 = .ok (.iload_n 3, 1) := by decide +kernel
theorem dX9_logs_108 : decode cX9_logs 108 = .ok (.iastore, 1) := by decide +kernel
theorem dX9_logs_109 : decode cX9_logs 109 = .ok (.aload_n 0, 1) := by decide +kernel
theorem dX9_logs_110 : decode cX9_logs 110 = .ok (.getfield 17, 3) := by decide +kernel
theorem dX9_logs_113 : decode cX9_logs 113 = .ok (.sipush 143, 3) := by decide +kernel
theorem dX9_logs_116 : decode cX9_logs 116 = .ok (.dup2, 1) := by decide +kernel
theorem dX9_logs_117 : decode cX9_logs 117 = .ok (.iaload, 1) := by decide +kernel
theorem dX9_logs_118 : decode cX9_logs 118 = .ok (.iconst 1, 1) := by decide +kernel
theorem dX9_logs_119 : decode cX9_logs 119 = .ok (.iadd, 1) := by decide +kernel
theorem dX9_logs_120 : decode cX9_logs 120 = .ok (.iastore, 1) := by decide +kernel
theorem dX9_logs_121 : decode cX9_logs 121 = .ok (.return_, 1) := by decide +kernel
theorem dX9_log_0 : decode cX9_log 0 = .ok (.iload_n 1, 1) := by decide +kernel
theorem dX9_log_1 : decode cX9_log 1 = .ok (.ifCond .lt 12, 3) := by decide +kernel
theorem dX9_log_4 : decode cX9_log 4 = .ok (.iload_n 2, 1) := by decide +kernel
theorem dX9_log_5 : decode cX9_log 5 = .ok (.iconst 0, 1) := by decide +kernel
theorem dX9_log_6 : decode cX9_log 6 = .ok (.iconst 2, 1) := by decide +kernel
theorem dX9_log_7 : decode cX9_log 7 = .ok (.invokestatic 65, 3) := by decide +kernel
theorem dX9_log_10 : decode cX9_log 10 = .ok (.ifCond .ne 5, 3) := by decide +kernel
theorem dX9_log_13 : decode cX9_log 13 = .ok (.iconst (-1), 1) := by decide +kernel
theorem dX9_log_14 : decode cX9_log 14 = .ok (.ireturn, 1) := by decide +kernel
theorem dX9_log_15 : decode cX9_log 15 = .ok (.iload_n 1, 1) := by decide +kernel
theorem dX9_log_16 : decode cX9_log 16 = .ok (.aload_n 0, 1) := by decide +kernel
theorem dX9_log_17 : decode cX9_log 17 = .ok (.getfield 17, 3) := by decide +kernel
theorem dX9_log_20 : decode cX9_log 20 = .ok (.sipush 143, 3) := by decide +kernel
theorem dX9_log_23 : decode cX9_log 23 = .ok (.iaload, 1) := by decide +kernel
theorem dX9_log_24 : decode cX9_log 24 = .ok (.if_icmp .ge 20, 3) := by decide +kernel
theorem dX9_log_27 : decode cX9_log 27 = .ok (.aload_n 0, 1) := by decide +kernel
theorem dX9_log_28 : decode cX9_log 28 = .ok (.getfield 17, 3) := by decide +kernel
theorem dX9_log_31 : decode cX9_log 31 = .ok (.sipush 144, 3) := by decide +kernel
theorem dX9_log_34 : decode cX9_log 34 = .ok (.iconst 3, 1) := by decide +kernel
theorem dX9_log_35 : decode cX9_log 35 = .ok (.iload_n 1, 1) := by decide +kernel
theorem dX9_log_36 : decode cX9_log 36 = .ok (.imul, 1) := by decide +kernel
theorem dX9_log_37 : decode cX9_log 37 = .ok (.iadd, 1) := by decide +kernel
theorem dX9_log_38 : decode cX9_log 38 = .ok (.iload_n 2, 1) := by decide +kernel
theorem dX9_log_39 : decode cX9_log 39 = .ok (.iadd, 1) := by decide +kernel
theorem dX9_log_40 : decode cX9_log 40 = .ok (.iaload, 1) := by decide +kernel
theorem dX9_log_41 : decode cX9_log 41 = .ok (.goto 5, 3) := by decide +kernel
theorem dX9_log_44 : decode cX9_log 44 = .ok (.bipush (-2), 2) := by decide +kernel
theorem dX9_log_46 : decode cX9_log 46 = .ok (.ireturn, 1) := by decide +kernel
theorem dX9_of_0 : decode cX9_of 0 = .ok (.aload_n 0, 1) := by decide +kernel
theorem dX9_of_1 : decode cX9_of 1 = .ok (.getfield 17, 3) := by decide +kernel
theorem dX9_of_4 : decode cX9_of 4 = .ok (.bipush 13, 2) := by decide +kernel
theorem dX9_of_6 : decode cX9_of 6 = .ok (.iconst 5, 1) := by decide +kernel
theorem dX9_of_7 : decode cX9_of 7 = .ok (.iload_n 1, 1) := by decide +kernel
theorem dX9_of_8 : decode cX9_of 8 = .ok (.imul, 1) := by decide +kernel
theorem dX9_of_9 : decode cX9_of 9 = .ok (.iadd, 1) := by decide +kernel
theorem dX9_of_10 : decode cX9_of 10 = .ok (.iload_n 2, 1) := by decide +kernel
theorem dX9_of_11 : decode cX9_of 11 = .ok (.iadd, 1) := by decide +kernel
theorem dX9_of_12 : decode cX9_of 12 = .ok (.iaload, 1) := by decide +kernel
theorem dX9_of_13 : decode cX9_of 13 = .ok (.ireturn, 1) := by decide +kernel
theorem dX9_puts_0 : decode cX9_puts 0 = .ok (.aload_n 0, 1) := by decide +kernel
theorem dX9_puts_1 : decode cX9_puts 1 = .ok (.getfield 17, 3) := by decide +kernel
theorem dX9_puts_4 : decode cX9_puts 4 = .ok (.bipush 13, 2) := by decide +kernel
theorem dX9_puts_6 : decode cX9_puts 6 = .ok (.iconst 5, 1) := by decide +kernel
theorem dX9_puts_7 : decode cX9_puts 7 = .ok (.iload_n 1, 1) := by decide +kernel
theorem dX9_puts_8 : decode cX9_puts 8 = .ok (.imul, 1) := by decide +kernel
theorem dX9_puts_9 : decode cX9_puts 9 = .ok (.iadd, 1) := by decide +kernel
theorem dX9_puts_10 : decode cX9_puts 10 = .ok (.iload_n 2, 1) := by decide +kernel
theorem dX9_puts_11 : decode cX9_puts 11 = .ok (.iadd, 1) := by decide +kernel
theorem dX9_puts_12 : decode cX9_puts 12 = .ok (.iload_n 3, 1) := by decide +kernel
theorem dX9_puts_13 : decode cX9_puts 13 = .ok (.iastore, 1) := by decide +kernel
theorem dX9_puts_14 : decode cX9_puts 14 = .ok (.return_, 1) := by decide +kernel
theorem dX9_isOn_0 : decode cX9_isOn 0 = .ok (.aload_n 0, 1) := by decide +kernel
theorem dX9_isOn_1 : decode cX9_isOn 1 = .ok (.iload_n 1, 1) := by decide +kernel
theorem dX9_isOn_2 : decode cX9_isOn 2 = .ok (.iconst 4, 1) := by decide +kernel
theorem dX9_isOn_3 : decode cX9_isOn 3 = .ok (.invokevirtual 76, 3) := by decide +kernel
theorem dX9_isOn_6 : decode cX9_isOn 6 = .ok (.iconst 1, 1) := by decide +kernel
theorem dX9_isOn_7 : decode cX9_isOn 7 = .ok (.if_icmp .ne 7, 3) := by decide +kernel
theorem dX9_isOn_10 : decode cX9_isOn 10 = .ok (.iconst 1, 1) := by decide +kernel
theorem dX9_isOn_11 : decode cX9_isOn 11 = .ok (.goto 4, 3) := by decide +kernel
theorem dX9_isOn_14 : decode cX9_isOn 14 = .ok (.iconst 0, 1) := by decide +kernel
theorem dX9_isOn_15 : decode cX9_isOn 15 = .ok (.ireturn, 1) := by decide +kernel
theorem dX9_isEvent_0 : decode cX9_isEvent 0 = .ok (.iload_n 1, 1) := by decide +kernel
theorem dX9_isEvent_1 : decode cX9_isEvent 1 = .ok (.iconst 0, 1) := by decide +kernel
theorem dX9_isEvent_2 : decode cX9_isEvent 2 = .ok (.aload_n 0, 1) := by decide +kernel
theorem dX9_isEvent_3 : decode cX9_isEvent 3 = .ok (.getfield 17, 3) := by decide +kernel
theorem dX9_isEvent_6 : decode cX9_isEvent 6 = .ok (.iconst 1, 1) := by decide +kernel
theorem dX9_isEvent_7 : decode cX9_isEvent 7 = .ok (.iaload, 1) := by decide +kernel
theorem dX9_isEvent_8 : decode cX9_isEvent 8 = .ok (.iconst 1, 1) := by decide +kernel
theorem dX9_isEvent_9 : decode cX9_isEvent 9 = .ok (.isub, 1) := by decide +kernel
theorem dX9_isEvent_10 : decode cX9_isEvent 10 = .ok (.invokestatic 65, 3) := by decide +kernel
theorem dX9_isEvent_13 : decode cX9_isEvent 13 = .ok (.ireturn, 1) := by decide +kernel
theorem dX9_isGap_0 : decode cX9_isGap 0 = .ok (.iload_n 1, 1) := by decide +kernel
theorem dX9_isGap_1 : decode cX9_isGap 1 = .ok (.iconst 0, 1) := by decide +kernel
theorem dX9_isGap_2 : decode cX9_isGap 2 = .ok (.aload_n 0, 1) := by decide +kernel
theorem dX9_isGap_3 : decode cX9_isGap 3 = .ok (.getfield 17, 3) := by decide +kernel
theorem dX9_isGap_6 : decode cX9_isGap 6 = .ok (.iconst 2, 1) := by decide +kernel
theorem dX9_isGap_7 : decode cX9_isGap 7 = .ok (.iaload, 1) := by decide +kernel
theorem dX9_isGap_8 : decode cX9_isGap 8 = .ok (.iconst 1, 1) := by decide +kernel
theorem dX9_isGap_9 : decode cX9_isGap 9 = .ok (.isub, 1) := by decide +kernel
theorem dX9_isGap_10 : decode cX9_isGap 10 = .ok (.invokestatic 65, 3) := by decide +kernel
theorem dX9_isGap_13 : decode cX9_isGap 13 = .ok (.ireturn, 1) := by decide +kernel
theorem dX9_isPinned_0 : decode cX9_isPinned 0 = .ok (.aload_n 0, 1) := by decide +kernel
theorem dX9_isPinned_1 : decode cX9_isPinned 1 = .ok (.getfield 17, 3) := by decide +kernel
theorem dX9_isPinned_4 : decode cX9_isPinned 4 = .ok (.sipush 133, 3) := by decide +kernel
theorem dX9_isPinned_7 : decode cX9_isPinned 7 = .ok (.iload_n 1, 1) := by decide +kernel
theorem dX9_isPinned_8 : decode cX9_isPinned 8 = .ok (.iadd, 1) := by decide +kernel
theorem dX9_isPinned_9 : decode cX9_isPinned 9 = .ok (.iaload, 1) := by decide +kernel
theorem dX9_isPinned_10 : decode cX9_isPinned 10 = .ok (.ifCond .le 7, 3) := by decide +kernel
theorem dX9_isPinned_13 : decode cX9_isPinned 13 = .ok (.iconst 1, 1) := by decide +kernel
theorem dX9_isPinned_14 : decode cX9_isPinned 14 = .ok (.goto 4, 3) := by decide +kernel
theorem dX9_isPinned_17 : decode cX9_isPinned 17 = .ok (.iconst 0, 1) := by decide +kernel
theorem dX9_isPinned_18 : decode cX9_isPinned 18 = .ok (.ireturn, 1) := by decide +kernel
theorem dX9_isN_0 : decode cX9_isN 0 = .ok (.iload_n 0, 1) := by decide +kernel
theorem dX9_isN_1 : decode cX9_isN 1 = .ok (.iconst 0, 1) := by decide +kernel
theorem dX9_isN_2 : decode cX9_isN 2 = .ok (.iconst 1, 1) := by decide +kernel
theorem dX9_isN_3 : decode cX9_isN 3 = .ok (.invokestatic 65, 3) := by decide +kernel
theorem dX9_isN_6 : decode cX9_isN 6 = .ok (.ifCond .eq 18, 3) := by decide +kernel
theorem dX9_isN_9 : decode cX9_isN 9 = .ok (.iload_n 1, 1) := by decide +kernel
theorem dX9_isN_10 : decode cX9_isN 10 = .ok (.iconst 0, 1) := by decide +kernel
theorem dX9_isN_11 : decode cX9_isN 11 = .ok (.sipush 999, 3) := by decide +kernel
theorem dX9_isN_14 : decode cX9_isN 14 = .ok (.invokestatic 65, 3) := by decide +kernel
theorem dX9_isN_17 : decode cX9_isN 17 = .ok (.ifCond .eq 7, 3) := by decide +kernel
theorem dX9_isN_20 : decode cX9_isN 20 = .ok (.iconst 1, 1) := by decide +kernel
theorem dX9_isN_21 : decode cX9_isN 21 = .ok (.goto 4, 3) := by decide +kernel
theorem dX9_isN_24 : decode cX9_isN 24 = .ok (.iconst 0, 1) := by decide +kernel
theorem dX9_isN_25 : decode cX9_isN 25 = .ok (.ireturn, 1) := by decide +kernel
theorem dX9_areTwo_0 : decode cX9_areTwo 0 = .ok (.aload_n 0, 1) := by decide +kernel
theorem dX9_areTwo_1 : decode cX9_areTwo 1 = .ok (.iload_n 1, 1) := by decide +kernel
theorem dX9_areTwo_2 : decode cX9_areTwo 2 = .ok (.invokevirtual 80, 3) := by decide +kernel
theorem dX9_areTwo_5 : decode cX9_areTwo 5 = .ok (.ifCond .eq 20, 3) := by decide +kernel
theorem dX9_areTwo_8 : decode cX9_areTwo 8 = .ok (.aload_n 0, 1) := by decide +kernel
theorem dX9_areTwo_9 : decode cX9_areTwo 9 = .ok (.iload_n 2, 1) := by decide +kernel
theorem dX9_areTwo_10 : decode cX9_areTwo 10 = .ok (.invokevirtual 80, 3) := by decide +kernel
theorem dX9_areTwo_13 : decode cX9_areTwo 13 = .ok (.ifCond .eq 12, 3) := by decide +kernel
theorem dX9_areTwo_16 : decode cX9_areTwo 16 = .ok (.iload_n 1, 1) := by decide +kernel
theorem dX9_areTwo_17 : decode cX9_areTwo 17 = .ok (.iload_n 2, 1) := by decide +kernel
theorem dX9_areTwo_18 : decode cX9_areTwo 18 = .ok (.if_icmp .eq 7, 3) := by decide +kernel
theorem dX9_areTwo_21 : decode cX9_areTwo 21 = .ok (.iconst 1, 1) := by decide +kernel
theorem dX9_areTwo_22 : decode cX9_areTwo 22 = .ok (.goto 4, 3) := by decide +kernel
theorem dX9_areTwo_25 : decode cX9_areTwo 25 = .ok (.iconst 0, 1) := by decide +kernel
theorem dX9_areTwo_26 : decode cX9_areTwo 26 = .ok (.ireturn, 1) := by decide +kernel
theorem dX9_fromOf_0 : decode cX9_fromOf 0 = .ok (.aload_n 0, 1) := by decide +kernel
theorem dX9_fromOf_1 : decode cX9_fromOf 1 = .ok (.iload_n 1, 1) := by decide +kernel
theorem dX9_fromOf_2 : decode cX9_fromOf 2 = .ok (.aload_n 0, 1) := by decide +kernel
theorem dX9_fromOf_3 : decode cX9_fromOf 3 = .ok (.iload_n 1, 1) := by decide +kernel
theorem dX9_fromOf_4 : decode cX9_fromOf 4 = .ok (.iconst 2, 1) := by decide +kernel
theorem dX9_fromOf_5 : decode cX9_fromOf 5 = .ok (.invokevirtual 76, 3) := by decide +kernel
theorem dX9_fromOf_8 : decode cX9_fromOf 8 = .ok (.ifCond .ne 7, 3) := by decide +kernel
theorem dX9_fromOf_11 : decode cX9_fromOf 11 = .ok (.iconst 0, 1) := by decide +kernel
theorem dX9_fromOf_12 : decode cX9_fromOf 12 = .ok (.goto 4, 3) := by decide +kernel
theorem dX9_fromOf_15 : decode cX9_fromOf 15 = .ok (.iconst 1, 1) := by decide +kernel
theorem dX9_fromOf_16 : decode cX9_fromOf 16 = .ok (.invokevirtual 76, 3) := by decide +kernel
theorem dX9_fromOf_19 : decode cX9_fromOf 19 = .ok (.ireturn, 1) := by decide +kernel
theorem dX9_toOf_0 : decode cX9_toOf 0 = .ok (.aload_n 0, 1) := by decide +kernel
theorem dX9_toOf_1 : decode cX9_toOf 1 = .ok (.iload_n 1, 1) := by decide +kernel
theorem dX9_toOf_2 : decode cX9_toOf 2 = .ok (.aload_n 0, 1) := by decide +kernel
theorem dX9_toOf_3 : decode cX9_toOf 3 = .ok (.iload_n 1, 1) := by decide +kernel
theorem dX9_toOf_4 : decode cX9_toOf 4 = .ok (.iconst 2, 1) := by decide +kernel
theorem dX9_toOf_5 : decode cX9_toOf 5 = .ok (.invokevirtual 76, 3) := by decide +kernel
theorem dX9_toOf_8 : decode cX9_toOf 8 = .ok (.ifCond .ne 7, 3) := by decide +kernel
theorem dX9_toOf_11 : decode cX9_toOf 11 = .ok (.iconst 1, 1) := by decide +kernel
theorem dX9_toOf_12 : decode cX9_toOf 12 = .ok (.goto 4, 3) := by decide +kernel
theorem dX9_toOf_15 : decode cX9_toOf 15 = .ok (.iconst 0, 1) := by decide +kernel
theorem dX9_toOf_16 : decode cX9_toOf 16 = .ok (.invokevirtual 76, 3) := by decide +kernel
theorem dX9_toOf_19 : decode cX9_toOf 19 = .ok (.ireturn, 1) := by decide +kernel
theorem dX9_lengthOf_0 : decode cX9_lengthOf 0 = .ok (.aload_n 0, 1) := by decide +kernel
theorem dX9_lengthOf_1 : decode cX9_lengthOf 1 = .ok (.iload_n 1, 1) := by decide +kernel
theorem dX9_lengthOf_2 : decode cX9_lengthOf 2 = .ok (.iconst 2, 1) := by decide +kernel
theorem dX9_lengthOf_3 : decode cX9_lengthOf 3 = .ok (.invokevirtual 76, 3) := by decide +kernel
theorem dX9_lengthOf_6 : decode cX9_lengthOf 6 = .ok (.ifCond .ne 12, 3) := by decide +kernel
theorem dX9_lengthOf_9 : decode cX9_lengthOf 9 = .ok (.aload_n 0, 1) := by decide +kernel
theorem dX9_lengthOf_10 : decode cX9_lengthOf 10 = .ok (.iload_n 1, 1) := by decide +kernel
theorem dX9_lengthOf_11 : decode cX9_lengthOf 11 = .ok (.iconst 3, 1) := by decide +kernel
theorem dX9_lengthOf_12 : decode cX9_lengthOf 12 = .ok (.invokevirtual 76, 3) := by decide +kernel
theorem dX9_lengthOf_15 : decode cX9_lengthOf 15 = .ok (.goto 10, 3) := by decide +kernel
theorem dX9_lengthOf_18 : decode cX9_lengthOf 18 = .ok (.aload_n 0, 1) := by decide +kernel
theorem dX9_lengthOf_19 : decode cX9_lengthOf 19 = .ok (.iload_n 1, 1) := by decide +kernel
theorem dX9_lengthOf_20 : decode cX9_lengthOf 20 = .ok (.iconst 3, 1) := by decide +kernel
theorem dX9_lengthOf_21 : decode cX9_lengthOf 21 = .ok (.invokevirtual 76, 3) := by decide +kernel
theorem dX9_lengthOf_24 : decode cX9_lengthOf 24 = .ok (.ineg, 1) := by decide +kernel
theorem dX9_lengthOf_25 : decode cX9_lengthOf 25 = .ok (.ireturn, 1) := by decide +kernel
theorem dX9_laysStep_0 : decode cX9_laysStep 0 = .ok (.aload_n 0, 1) := by decide +kernel
theorem dX9_laysStep_1 : decode cX9_laysStep 1 = .ok (.getfield 34, 3) := by decide +kernel
theorem dX9_laysStep_4 : decode cX9_laysStep 4 = .ok (.aload_n 0, 1) := by decide +kernel
theorem dX9_laysStep_5 : decode cX9_laysStep 5 = .ok (.getfield 84, 3) := by decide +kernel
theorem dX9_laysStep_8 : decode cX9_laysStep 8 = .ok (.iload_n 1, 1) := by decide +kernel
theorem dX9_laysStep_9 : decode cX9_laysStep 9 = .ok (.iastore, 1) := by decide +kernel
theorem dX9_laysStep_10 : decode cX9_laysStep 10 = .ok (.aload_n 0, 1) := by decide +kernel
theorem dX9_laysStep_11 : decode cX9_laysStep 11 = .ok (.getfield 37, 3) := by decide +kernel
theorem dX9_laysStep_14 : decode cX9_laysStep 14 = .ok (.aload_n 0, 1) := by decide +kernel
theorem dX9_laysStep_15 : decode cX9_laysStep 15 = .ok (.getfield 84, 3) := by decide +kernel
theorem dX9_laysStep_18 : decode cX9_laysStep 18 = .ok (.iload_n 2, 1) := by decide +kernel
theorem dX9_laysStep_19 : decode cX9_laysStep 19 = .ok (.iastore, 1) := by decide +kernel
theorem dX9_laysStep_20 : decode cX9_laysStep 20 = .ok (.aload_n 0, 1) := by decide +kernel
theorem dX9_laysStep_21 : decode cX9_laysStep 21 = .ok (.getfield 40, 3) := by decide +kernel
theorem dX9_laysStep_24 : decode cX9_laysStep 24 = .ok (.aload_n 0, 1) := by decide +kernel
theorem dX9_laysStep_25 : decode cX9_laysStep 25 = .ok (.getfield 84, 3) := by decide +kernel
theorem dX9_laysStep_28 : decode cX9_laysStep 28 = .ok (.iload_n 3, 1) := by decide +kernel
theorem dX9_laysStep_29 : decode cX9_laysStep 29 = .ok (.iastore, 1) := by decide +kernel
theorem dX9_laysStep_30 : decode cX9_laysStep 30 = .ok (.aload_n 0, 1) := by decide +kernel
theorem dX9_laysStep_31 : decode cX9_laysStep 31 = .ok (.getfield 43, 3) := by decide +kernel
theorem dX9_laysStep_34 : decode cX9_laysStep 34 = .ok (.aload_n 0, 1) := by decide +kernel
theorem dX9_laysStep_35 : decode cX9_laysStep 35 = .ok (.getfield 84, 3) := by decide +kernel
theorem dX9_laysStep_38 : decode cX9_laysStep 38 = .ok (.iload 4, 2) := by decide +kernel
theorem dX9_laysStep_40 : decode cX9_laysStep 40 = .ok (.iastore, 1) := by decide +kernel
theorem dX9_laysStep_41 : decode cX9_laysStep 41 = .ok (.aload_n 0, 1) := by decide +kernel
theorem dX9_laysStep_42 : decode cX9_laysStep 42 = .ok (.dup, 1) := by decide +kernel
theorem dX9_laysStep_43 : decode cX9_laysStep 43 = .ok (.getfield 84, 3) := by decide +kernel
theorem dX9_laysStep_46 : decode cX9_laysStep 46 = .ok (.iconst 1, 1) := by decide +kernel
theorem dX9_laysStep_47 : decode cX9_laysStep 47 = .ok (.iadd, 1) := by decide +kernel
theorem dX9_laysStep_48 : decode cX9_laysStep 48 = .ok (.putfield 84, 3) := by decide +kernel
theorem dX9_laysStep_51 : decode cX9_laysStep 51 = .ok (.return_, 1) := by decide +kernel
theorem dX9_laysSteps_0 : decode cX9_laysSteps 0 = .ok (.aload_n 0, 1) := by decide +kernel
theorem dX9_laysSteps_1 : decode cX9_laysSteps 1 = .ok (.iconst 0, 1) := by decide +kernel
theorem dX9_laysSteps_2 : decode cX9_laysSteps 2 = .ok (.putfield 84, 3) := by decide +kernel
theorem dX9_laysSteps_5 : decode cX9_laysSteps 5 = .ok (.iconst 0, 1) := by decide +kernel
theorem dX9_laysSteps_6 : decode cX9_laysSteps 6 = .ok (.istore_n 1, 1) := by decide +kernel
theorem dX9_laysSteps_7 : decode cX9_laysSteps 7 = .ok (.iload_n 1, 1) := by decide +kernel
theorem dX9_laysSteps_8 : decode cX9_laysSteps 8 = .ok (.aload_n 0, 1) := by decide +kernel
theorem dX9_laysSteps_9 : decode cX9_laysSteps 9 = .ok (.getfield 17, 3) := by decide +kernel
theorem dX9_laysSteps_12 : decode cX9_laysSteps 12 = .ok (.iconst 2, 1) := by decide +kernel
theorem dX9_laysSteps_13 : decode cX9_laysSteps 13 = .ok (.iaload, 1) := by decide +kernel
theorem dX9_laysSteps_14 : decode cX9_laysSteps 14 = .ok (.if_icmp .ge 37, 3) := by decide +kernel
theorem dX9_laysSteps_17 : decode cX9_laysSteps 17 = .ok (.aload_n 0, 1) := by decide +kernel
theorem dX9_laysSteps_18 : decode cX9_laysSteps 18 = .ok (.iload_n 1, 1) := by decide +kernel
theorem dX9_laysSteps_19 : decode cX9_laysSteps 19 = .ok (.invokevirtual 87, 3) := by decide +kernel
theorem dX9_laysSteps_22 : decode cX9_laysSteps 22 = .ok (.ifCond .eq 23, 3) := by decide +kernel
theorem dX9_laysSteps_25 : decode cX9_laysSteps 25 = .ok (.aload_n 0, 1) := by decide +kernel
theorem dX9_laysSteps_26 : decode cX9_laysSteps 26 = .ok (.aload_n 0, 1) := by decide +kernel
theorem dX9_laysSteps_27 : decode cX9_laysSteps 27 = .ok (.iload_n 1, 1) := by decide +kernel
theorem dX9_laysSteps_28 : decode cX9_laysSteps 28 = .ok (.invokevirtual 90, 3) := by decide +kernel
theorem dX9_laysSteps_31 : decode cX9_laysSteps 31 = .ok (.aload_n 0, 1) := by decide +kernel
theorem dX9_laysSteps_32 : decode cX9_laysSteps 32 = .ok (.iload_n 1, 1) := by decide +kernel
theorem dX9_laysSteps_33 : decode cX9_laysSteps 33 = .ok (.invokevirtual 93, 3) := by decide +kernel
theorem dX9_laysSteps_36 : decode cX9_laysSteps 36 = .ok (.aload_n 0, 1) := by decide +kernel
theorem dX9_laysSteps_37 : decode cX9_laysSteps 37 = .ok (.iload_n 1, 1) := by decide +kernel
theorem dX9_laysSteps_38 : decode cX9_laysSteps 38 = .ok (.invokevirtual 96, 3) := by decide +kernel
theorem dX9_laysSteps_41 : decode cX9_laysSteps 41 = .ok (.iload_n 1, 1) := by decide +kernel
theorem dX9_laysSteps_42 : decode cX9_laysSteps 42 = .ok (.invokevirtual 99, 3) := by decide +kernel
theorem dX9_laysSteps_45 : decode cX9_laysSteps 45 = .ok (.iinc 1 1, 3) := by decide +kernel
theorem dX9_laysSteps_48 : decode cX9_laysSteps 48 = .ok (.goto (-41), 3) := by decide +kernel
theorem dX9_laysSteps_51 : decode cX9_laysSteps 51 = .ok (.iconst 1, 1) := by decide +kernel
theorem dX9_laysSteps_52 : decode cX9_laysSteps 52 = .ok (.istore_n 1, 1) := by decide +kernel
theorem dX9_laysSteps_53 : decode cX9_laysSteps 53 = .ok (.iload_n 1, 1) := by decide +kernel
theorem dX9_laysSteps_54 : decode cX9_laysSteps 54 = .ok (.aload_n 0, 1) := by decide +kernel
theorem dX9_laysSteps_55 : decode cX9_laysSteps 55 = .ok (.getfield 17, 3) := by decide +kernel
theorem dX9_laysSteps_58 : decode cX9_laysSteps 58 = .ok (.iconst 1, 1) := by decide +kernel
theorem dX9_laysSteps_59 : decode cX9_laysSteps 59 = .ok (.iaload, 1) := by decide +kernel
theorem dX9_laysSteps_60 : decode cX9_laysSteps 60 = .ok (.if_icmp .ge 37, 3) := by decide +kernel
theorem dX9_laysSteps_63 : decode cX9_laysSteps 63 = .ok (.aload_n 0, 1) := by decide +kernel
theorem dX9_laysSteps_64 : decode cX9_laysSteps 64 = .ok (.iconst 0, 1) := by decide +kernel
theorem dX9_laysSteps_65 : decode cX9_laysSteps 65 = .ok (.iload_n 1, 1) := by decide +kernel
theorem dX9_laysSteps_66 : decode cX9_laysSteps 66 = .ok (.aload_n 0, 1) := by decide +kernel
theorem dX9_laysSteps_67 : decode cX9_laysSteps 67 = .ok (.getfield 17, 3) := by decide +kernel
theorem dX9_laysSteps_70 : decode cX9_laysSteps 70 = .ok (.iconst 0, 1) := by decide +kernel
theorem dX9_laysSteps_71 : decode cX9_laysSteps 71 = .ok (.iaload, 1) := by decide +kernel
theorem dX9_laysSteps_72 : decode cX9_laysSteps 72 = .ok (.bipush 100, 2) := by decide +kernel
theorem dX9_laysSteps_74 : decode cX9_laysSteps 74 = .ok (.iload_n 1, 1) := by decide +kernel
theorem dX9_laysSteps_75 : decode cX9_laysSteps 75 = .ok (.iadd, 1) := by decide +kernel
theorem dX9_laysSteps_76 : decode cX9_laysSteps 76 = .ok (.invokevirtual 99, 3) := by decide +kernel
theorem dX9_laysSteps_79 : decode cX9_laysSteps 79 = .ok (.aload_n 0, 1) := by decide +kernel
theorem dX9_laysSteps_80 : decode cX9_laysSteps 80 = .ok (.iload_n 1, 1) := by decide +kernel
theorem dX9_laysSteps_81 : decode cX9_laysSteps 81 = .ok (.iconst 0, 1) := by decide +kernel
theorem dX9_laysSteps_82 : decode cX9_laysSteps 82 = .ok (.iconst 0, 1) := by decide +kernel
theorem dX9_laysSteps_83 : decode cX9_laysSteps 83 = .ok (.sipush 200, 3) := by decide +kernel
theorem dX9_laysSteps_86 : decode cX9_laysSteps 86 = .ok (.iload_n 1, 1) := by decide +kernel
theorem dX9_laysSteps_87 : decode cX9_laysSteps 87 = .ok (.iadd, 1) := by decide +kernel
theorem dX9_laysSteps_88 : decode cX9_laysSteps 88 = .ok (.invokevirtual 99, 3) := by decide +kernel
theorem dX9_laysSteps_91 : decode cX9_laysSteps 91 = .ok (.iinc 1 1, 3) := by decide +kernel
theorem dX9_laysSteps_94 : decode cX9_laysSteps 94 = .ok (.goto (-41), 3) := by decide +kernel
theorem dX9_laysSteps_97 : decode cX9_laysSteps 97 = .ok (.iconst 1, 1) := by decide +kernel
theorem dX9_laysSteps_98 : decode cX9_laysSteps 98 = .ok (.istore_n 1, 1) := by decide +kernel
theorem dX9_laysSteps_99 : decode cX9_laysSteps 99 = .ok (.iload_n 1, 1) := by decide +kernel
theorem dX9_laysSteps_100 : decode cX9_laysSteps 100 = .ok (.aload_n 0, 1) := by decide +kernel
theorem dX9_laysSteps_101 : decode cX9_laysSteps 101 = .ok (.getfield 17, 3) := by decide +kernel
theorem dX9_laysSteps_104 : decode cX9_laysSteps 104 = .ok (.iconst 1, 1) := by decide +kernel
theorem dX9_laysSteps_105 : decode cX9_laysSteps 105 = .ok (.iaload, 1) := by decide +kernel
theorem dX9_laysSteps_106 : decode cX9_laysSteps 106 = .ok (.if_icmp .ge 63, 3) := by decide +kernel
theorem dX9_laysSteps_109 : decode cX9_laysSteps 109 = .ok (.aload_n 0, 1) := by decide +kernel
theorem dX9_laysSteps_110 : decode cX9_laysSteps 110 = .ok (.iload_n 1, 1) := by decide +kernel
theorem dX9_laysSteps_111 : decode cX9_laysSteps 111 = .ok (.invokevirtual 103, 3) := by decide +kernel
theorem dX9_laysSteps_114 : decode cX9_laysSteps 114 = .ok (.ifCond .eq 49, 3) := by decide +kernel
theorem dX9_laysSteps_117 : decode cX9_laysSteps 117 = .ok (.aload_n 0, 1) := by decide +kernel
theorem dX9_laysSteps_118 : decode cX9_laysSteps 118 = .ok (.iconst 0, 1) := by decide +kernel
theorem dX9_laysSteps_119 : decode cX9_laysSteps 119 = .ok (.iload_n 1, 1) := by decide +kernel
theorem dX9_laysSteps_120 : decode cX9_laysSteps 120 = .ok (.aload_n 0, 1) := by decide +kernel
theorem dX9_laysSteps_121 : decode cX9_laysSteps 121 = .ok (.getfield 17, 3) := by decide +kernel
theorem dX9_laysSteps_124 : decode cX9_laysSteps 124 = .ok (.sipush 133, 3) := by decide +kernel
theorem dX9_laysSteps_127 : decode cX9_laysSteps 127 = .ok (.iload_n 1, 1) := by decide +kernel
theorem dX9_laysSteps_128 : decode cX9_laysSteps 128 = .ok (.iadd, 1) := by decide +kernel
theorem dX9_laysSteps_129 : decode cX9_laysSteps 129 = .ok (.iaload, 1) := by decide +kernel
theorem dX9_laysSteps_130 : decode cX9_laysSteps 130 = .ok (.iconst 1, 1) := by decide +kernel
theorem dX9_laysSteps_131 : decode cX9_laysSteps 131 = .ok (.isub, 1) := by decide +kernel
theorem dX9_laysSteps_132 : decode cX9_laysSteps 132 = .ok (.sipush 300, 3) := by decide +kernel
theorem dX9_laysSteps_135 : decode cX9_laysSteps 135 = .ok (.iload_n 1, 1) := by decide +kernel
theorem dX9_laysSteps_136 : decode cX9_laysSteps 136 = .ok (.iadd, 1) := by decide +kernel
theorem dX9_laysSteps_137 : decode cX9_laysSteps 137 = .ok (.invokevirtual 99, 3) := by decide +kernel
theorem dX9_laysSteps_140 : decode cX9_laysSteps 140 = .ok (.aload_n 0, 1) := by decide +kernel
theorem dX9_laysSteps_141 : decode cX9_laysSteps 141 = .ok (.iload_n 1, 1) := by decide +kernel
theorem dX9_laysSteps_142 : decode cX9_laysSteps 142 = .ok (.iconst 0, 1) := by decide +kernel
theorem dX9_laysSteps_143 : decode cX9_laysSteps 143 = .ok (.iconst 1, 1) := by decide +kernel
theorem dX9_laysSteps_144 : decode cX9_laysSteps 144 = .ok (.aload_n 0, 1) := by decide +kernel
theorem dX9_laysSteps_145 : decode cX9_laysSteps 145 = .ok (.getfield 17, 3) := by decide +kernel
theorem dX9_laysSteps_148 : decode cX9_laysSteps 148 = .ok (.sipush 133, 3) := by decide +kernel
theorem dX9_laysSteps_151 : decode cX9_laysSteps 151 = .ok (.iload_n 1, 1) := by decide +kernel
theorem dX9_laysSteps_152 : decode cX9_laysSteps 152 = .ok (.iadd, 1) := by decide +kernel
theorem dX9_laysSteps_153 : decode cX9_laysSteps 153 = .ok (.iaload, 1) := by decide +kernel
theorem dX9_laysSteps_154 : decode cX9_laysSteps 154 = .ok (.isub, 1) := by decide +kernel
theorem dX9_laysSteps_155 : decode cX9_laysSteps 155 = .ok (.sipush 400, 3) := by decide +kernel
theorem dX9_laysSteps_158 : decode cX9_laysSteps 158 = .ok (.iload_n 1, 1) := by decide +kernel
theorem dX9_laysSteps_159 : decode cX9_laysSteps 159 = .ok (.iadd, 1) := by decide +kernel
theorem dX9_laysSteps_160 : decode cX9_laysSteps 160 = .ok (.invokevirtual 99, 3) := by decide +kernel
theorem dX9_laysSteps_163 : decode cX9_laysSteps 163 = .ok (.iinc 1 1, 3) := by decide +kernel
theorem dX9_laysSteps_166 : decode cX9_laysSteps 166 = .ok (.goto (-67), 3) := by decide +kernel
theorem dX9_laysSteps_169 : decode cX9_laysSteps 169 = .ok (.return_, 1) := by decide +kernel
theorem dX9_pair_0 : decode cX9_pair 0 = .ok (.bipush 10, 2) := by decide +kernel
theorem dX9_pair_2 : decode cX9_pair 2 = .ok (.iload_n 0, 1) := by decide +kernel
theorem dX9_pair_3 : decode cX9_pair 3 = .ok (.imul, 1) := by decide +kernel
theorem dX9_pair_4 : decode cX9_pair 4 = .ok (.iload_n 1, 1) := by decide +kernel
theorem dX9_pair_5 : decode cX9_pair 5 = .ok (.iadd, 1) := by decide +kernel
theorem dX9_pair_6 : decode cX9_pair 6 = .ok (.ireturn, 1) := by decide +kernel
theorem dX9_boundOf_0 : decode cX9_boundOf 0 = .ok (.aload_n 0, 1) := by decide +kernel
theorem dX9_boundOf_1 : decode cX9_boundOf 1 = .ok (.getfield 46, 3) := by decide +kernel
theorem dX9_boundOf_4 : decode cX9_boundOf 4 = .ok (.iload_n 1, 1) := by decide +kernel
theorem dX9_boundOf_5 : decode cX9_boundOf 5 = .ok (.iload_n 2, 1) := by decide +kernel
theorem dX9_boundOf_6 : decode cX9_boundOf 6 = .ok (.invokestatic 106, 3) := by decide +kernel
theorem dX9_boundOf_9 : decode cX9_boundOf 9 = .ok (.iaload, 1) := by decide +kernel
theorem dX9_boundOf_10 : decode cX9_boundOf 10 = .ok (.ireturn, 1) := by decide +kernel
theorem dX9_lays_0 : decode cX9_lays 0 = .ok (.aload_n 0, 1) := by decide +kernel
theorem dX9_lays_1 : decode cX9_lays 1 = .ok (.invokevirtual 109, 3) := by decide +kernel
theorem dX9_lays_4 : decode cX9_lays 4 = .ok (.aload_n 0, 1) := by decide +kernel
theorem dX9_lays_5 : decode cX9_lays 5 = .ok (.getfield 17, 3) := by decide +kernel
theorem dX9_lays_8 : decode cX9_lays 8 = .ok (.iconst 1, 1) := by decide +kernel
theorem dX9_lays_9 : decode cX9_lays 9 = .ok (.iaload, 1) := by decide +kernel
theorem dX9_lays_10 : decode cX9_lays 10 = .ok (.istore_n 1, 1) := by decide +kernel
theorem dX9_lays_11 : decode cX9_lays 11 = .ok (.iconst 0, 1) := by decide +kernel
theorem dX9_lays_12 : decode cX9_lays 12 = .ok (.istore_n 2, 1) := by decide +kernel
theorem dX9_lays_13 : decode cX9_lays 13 = .ok (.iload_n 2, 1) := by decide +kernel
theorem dX9_lays_14 : decode cX9_lays 14 = .ok (.iload_n 1, 1) := by decide +kernel
theorem dX9_lays_15 : decode cX9_lays 15 = .ok (.if_icmp .ge 43, 3) := by decide +kernel
theorem dX9_lays_18 : decode cX9_lays 18 = .ok (.iconst 0, 1) := by decide +kernel
theorem dX9_lays_19 : decode cX9_lays 19 = .ok (.istore_n 3, 1) := by decide +kernel
theorem dX9_lays_20 : decode cX9_lays 20 = .ok (.iload_n 3, 1) := by decide +kernel
theorem dX9_lays_21 : decode cX9_lays 21 = .ok (.iload_n 1, 1) := by decide +kernel
theorem dX9_lays_22 : decode cX9_lays 22 = .ok (.if_icmp .ge 30, 3) := by decide +kernel
theorem dX9_lays_25 : decode cX9_lays 25 = .ok (.aload_n 0, 1) := by decide +kernel
theorem dX9_lays_26 : decode cX9_lays 26 = .ok (.getfield 46, 3) := by decide +kernel
theorem dX9_lays_29 : decode cX9_lays 29 = .ok (.iload_n 2, 1) := by decide +kernel
theorem dX9_lays_30 : decode cX9_lays 30 = .ok (.iload_n 3, 1) := by decide +kernel
theorem dX9_lays_31 : decode cX9_lays 31 = .ok (.invokestatic 106, 3) := by decide +kernel
theorem dX9_lays_34 : decode cX9_lays 34 = .ok (.iload_n 2, 1) := by decide +kernel
theorem dX9_lays_35 : decode cX9_lays 35 = .ok (.iload_n 3, 1) := by decide +kernel
theorem dX9_lays_36 : decode cX9_lays 36 = .ok (.if_icmp .ne 7, 3) := by decide +kernel
theorem dX9_lays_39 : decode cX9_lays 39 = .ok (.iconst 0, 1) := by decide +kernel
theorem dX9_lays_40 : decode cX9_lays 40 = .ok (.goto 5, 3) := by decide +kernel
theorem dX9_lays_43 : decode cX9_lays 43 = .ok (.ldc 112, 2) := by decide +kernel
theorem dX9_lays_45 : decode cX9_lays 45 = .ok (.iastore, 1) := by decide +kernel
theorem dX9_lays_46 : decode cX9_lays 46 = .ok (.iinc 3 1, 3) := by decide +kernel
theorem dX9_lays_49 : decode cX9_lays 49 = .ok (.goto (-29), 3) := by decide +kernel
theorem dX9_lays_52 : decode cX9_lays 52 = .ok (.iinc 2 1, 3) := by decide +kernel
theorem dX9_lays_55 : decode cX9_lays 55 = .ok (.goto (-42), 3) := by decide +kernel
theorem dX9_lays_58 : decode cX9_lays 58 = .ok (.iconst 0, 1) := by decide +kernel
theorem dX9_lays_59 : decode cX9_lays 59 = .ok (.istore_n 2, 1) := by decide +kernel
theorem dX9_lays_60 : decode cX9_lays 60 = .ok (.iload_n 2, 1) := by decide +kernel
theorem dX9_lays_61 : decode cX9_lays 61 = .ok (.aload_n 0, 1) := by decide +kernel
theorem dX9_lays_62 : decode cX9_lays 62 = .ok (.getfield 84, 3) := by decide +kernel
theorem dX9_lays_65 : decode cX9_lays 65 = .ok (.if_icmp .ge 61, 3) := by decide +kernel
theorem dX9_lays_68 : decode cX9_lays 68 = .ok (.aload_n 0, 1) := by decide +kernel
theorem dX9_lays_69 : decode cX9_lays 69 = .ok (.getfield 34, 3) := by decide +kernel
theorem dX9_lays_72 : decode cX9_lays 72 = .ok (.iload_n 2, 1) := by decide +kernel
theorem dX9_lays_73 : decode cX9_lays 73 = .ok (.iaload, 1) := by decide +kernel
theorem dX9_lays_74 : decode cX9_lays 74 = .ok (.aload_n 0, 1) := by decide +kernel
theorem dX9_lays_75 : decode cX9_lays 75 = .ok (.getfield 37, 3) := by decide +kernel
theorem dX9_lays_78 : decode cX9_lays 78 = .ok (.iload_n 2, 1) := by decide +kernel
theorem dX9_lays_79 : decode cX9_lays 79 = .ok (.iaload, 1) := by decide +kernel
theorem dX9_lays_80 : decode cX9_lays 80 = .ok (.invokestatic 106, 3) := by decide +kernel
theorem dX9_lays_83 : decode cX9_lays 83 = .ok (.istore_n 3, 1) := by decide +kernel
theorem dX9_lays_84 : decode cX9_lays 84 = .ok (.aload_n 0, 1) := by decide +kernel
theorem dX9_lays_85 : decode cX9_lays 85 = .ok (.getfield 46, 3) := by decide +kernel
theorem dX9_lays_88 : decode cX9_lays 88 = .ok (.iload_n 3, 1) := by decide +kernel
theorem dX9_lays_89 : decode cX9_lays 89 = .ok (.aload_n 0, 1) := by decide +kernel
theorem dX9_lays_90 : decode cX9_lays 90 = .ok (.getfield 40, 3) := by decide +kernel
theorem dX9_lays_93 : decode cX9_lays 93 = .ok (.iload_n 2, 1) := by decide +kernel
theorem dX9_lays_94 : decode cX9_lays 94 = .ok (.iaload, 1) := by decide +kernel
theorem dX9_lays_95 : decode cX9_lays 95 = .ok (.aload_n 0, 1) := by decide +kernel
theorem dX9_lays_96 : decode cX9_lays 96 = .ok (.getfield 46, 3) := by decide +kernel
theorem dX9_lays_99 : decode cX9_lays 99 = .ok (.iload_n 3, 1) := by decide +kernel
theorem dX9_lays_100 : decode cX9_lays 100 = .ok (.iaload, 1) := by decide +kernel
theorem dX9_lays_101 : decode cX9_lays 101 = .ok (.if_icmp .ge 12, 3) := by decide +kernel
theorem dX9_lays_104 : decode cX9_lays 104 = .ok (.aload_n 0, 1) := by decide +kernel
theorem dX9_lays_105 : decode cX9_lays 105 = .ok (.getfield 40, 3) := by decide +kernel
theorem dX9_lays_108 : decode cX9_lays 108 = .ok (.iload_n 2, 1) := by decide +kernel
theorem dX9_lays_109 : decode cX9_lays 109 = .ok (.iaload, 1) := by decide +kernel
theorem dX9_lays_110 : decode cX9_lays 110 = .ok (.goto 9, 3) := by decide +kernel
theorem dX9_lays_113 : decode cX9_lays 113 = .ok (.aload_n 0, 1) := by decide +kernel
theorem dX9_lays_114 : decode cX9_lays 114 = .ok (.getfield 46, 3) := by decide +kernel
theorem dX9_lays_117 : decode cX9_lays 117 = .ok (.iload_n 3, 1) := by decide +kernel
theorem dX9_lays_118 : decode cX9_lays 118 = .ok (.iaload, 1) := by decide +kernel
theorem dX9_lays_119 : decode cX9_lays 119 = .ok (.iastore, 1) := by decide +kernel
theorem dX9_lays_120 : decode cX9_lays 120 = .ok (.iinc 2 1, 3) := by decide +kernel
theorem dX9_lays_123 : decode cX9_lays 123 = .ok (.goto (-63), 3) := by decide +kernel
theorem dX9_lays_126 : decode cX9_lays 126 = .ok (.iconst 0, 1) := by decide +kernel
theorem dX9_lays_127 : decode cX9_lays 127 = .ok (.istore_n 2, 1) := by decide +kernel
theorem dX9_lays_128 : decode cX9_lays 128 = .ok (.iload_n 2, 1) := by decide +kernel
theorem dX9_lays_129 : decode cX9_lays 129 = .ok (.iload_n 1, 1) := by decide +kernel
theorem dX9_lays_130 : decode cX9_lays 130 = .ok (.if_icmp .ge 104, 3) := by decide +kernel
theorem dX9_lays_133 : decode cX9_lays 133 = .ok (.iconst 0, 1) := by decide +kernel
theorem dX9_lays_134 : decode cX9_lays 134 = .ok (.istore_n 3, 1) := by decide +kernel
theorem dX9_lays_135 : decode cX9_lays 135 = .ok (.iload_n 3, 1) := by decide +kernel
theorem dX9_lays_136 : decode cX9_lays 136 = .ok (.iload_n 1, 1) := by decide +kernel
theorem dX9_lays_137 : decode cX9_lays 137 = .ok (.if_icmp .ge 91, 3) := by decide +kernel
theorem dX9_lays_140 : decode cX9_lays 140 = .ok (.iconst 0, 1) := by decide +kernel
theorem dX9_lays_141 : decode cX9_lays 141 = .ok (.istore 4, 2) := by decide +kernel
theorem dX9_lays_143 : decode cX9_lays 143 = .ok (.iload 4, 2) := by decide +kernel
theorem dX9_lays_145 : decode cX9_lays 145 = .ok (.iload_n 1, 1) := by decide +kernel
theorem dX9_lays_146 : decode cX9_lays 146 = .ok (.if_icmp .ge 76, 3) := by decide +kernel
theorem dX9_lays_149 : decode cX9_lays 149 = .ok (.aload_n 0, 1) := by decide +kernel
theorem dX9_lays_150 : decode cX9_lays 150 = .ok (.iload_n 3, 1) := by decide +kernel
theorem dX9_lays_151 : decode cX9_lays 151 = .ok (.iload_n 2, 1) := by decide +kernel
theorem dX9_lays_152 : decode cX9_lays 152 = .ok (.invokevirtual 113, 3) := by decide +kernel
theorem dX9_lays_155 : decode cX9_lays 155 = .ok (.aload_n 0, 1) := by decide +kernel
theorem dX9_lays_156 : decode cX9_lays 156 = .ok (.iload_n 2, 1) := by decide +kernel
theorem dX9_lays_157 : decode cX9_lays 157 = .ok (.iload 4, 2) := by decide +kernel
theorem dX9_lays_159 : decode cX9_lays 159 = .ok (.invokevirtual 113, 3) := by decide +kernel
theorem dX9_lays_162 : decode cX9_lays 162 = .ok (.iadd, 1) := by decide +kernel
theorem dX9_lays_163 : decode cX9_lays 163 = .ok (.istore 5, 2) := by decide +kernel
theorem dX9_lays_165 : decode cX9_lays 165 = .ok (.iload 5, 2) := by decide +kernel
theorem dX9_lays_167 : decode cX9_lays 167 = .ok (.ldc 116, 2) := by decide +kernel
theorem dX9_lays_169 : decode cX9_lays 169 = .ok (.if_icmp .ge 8, 3) := by decide +kernel
theorem dX9_lays_172 : decode cX9_lays 172 = .ok (.ldc 116, 2) := by decide +kernel
theorem dX9_lays_174 : decode cX9_lays 174 = .ok (.goto 5, 3) := by decide +kernel
theorem dX9_lays_177 : decode cX9_lays 177 = .ok (.iload 5, 2) := by decide +kernel
theorem dX9_lays_179 : decode cX9_lays 179 = .ok (.istore 5, 2) := by decide +kernel
theorem dX9_lays_181 : decode cX9_lays 181 = .ok (.aload_n 0, 1) := by decide +kernel
theorem dX9_lays_182 : decode cX9_lays 182 = .ok (.getfield 46, 3) := by decide +kernel
theorem dX9_lays_185 : decode cX9_lays 185 = .ok (.iload_n 3, 1) := by decide +kernel
theorem dX9_lays_186 : decode cX9_lays 186 = .ok (.iload 4, 2) := by decide +kernel
theorem dX9_lays_188 : decode cX9_lays 188 = .ok (.invokestatic 106, 3) := by decide +kernel
theorem dX9_lays_191 : decode cX9_lays 191 = .ok (.iload 5, 2) := by decide +kernel
theorem dX9_lays_193 : decode cX9_lays 193 = .ok (.aload_n 0, 1) := by decide +kernel
theorem dX9_lays_194 : decode cX9_lays 194 = .ok (.iload_n 3, 1) := by decide +kernel
theorem dX9_lays_195 : decode cX9_lays 195 = .ok (.iload 4, 2) := by decide +kernel
theorem dX9_lays_197 : decode cX9_lays 197 = .ok (.invokevirtual 113, 3) := by decide +kernel
theorem dX9_lays_200 : decode cX9_lays 200 = .ok (.if_icmp .ge 8, 3) := by decide +kernel
theorem dX9_lays_203 : decode cX9_lays 203 = .ok (.iload 5, 2) := by decide +kernel
theorem dX9_lays_205 : decode cX9_lays 205 = .ok (.goto 10, 3) := by decide +kernel
theorem dX9_lays_208 : decode cX9_lays 208 = .ok (.aload_n 0, 1) := by decide +kernel
theorem dX9_lays_209 : decode cX9_lays 209 = .ok (.iload_n 3, 1) := by decide +kernel
theorem dX9_lays_210 : decode cX9_lays 210 = .ok (.iload 4, 2) := by decide +kernel
theorem dX9_lays_212 : decode cX9_lays 212 = .ok (.invokevirtual 113, 3) := by decide +kernel
theorem dX9_lays_215 : decode cX9_lays 215 = .ok (.iastore, 1) := by decide +kernel
theorem dX9_lays_216 : decode cX9_lays 216 = .ok (.iinc 4 1, 3) := by decide +kernel
theorem dX9_lays_219 : decode cX9_lays 219 = .ok (.goto (-76), 3) := by decide +kernel
theorem dX9_lays_222 : decode cX9_lays 222 = .ok (.iinc 3 1, 3) := by decide +kernel
theorem dX9_lays_225 : decode cX9_lays 225 = .ok (.goto (-90), 3) := by decide +kernel
theorem dX9_lays_228 : decode cX9_lays 228 = .ok (.iinc 2 1, 3) := by decide +kernel
theorem dX9_lays_231 : decode cX9_lays 231 = .ok (.goto (-103), 3) := by decide +kernel
theorem dX9_lays_234 : decode cX9_lays 234 = .ok (.iconst 1, 1) := by decide +kernel
theorem dX9_lays_235 : decode cX9_lays 235 = .ok (.istore_n 2, 1) := by decide +kernel
theorem dX9_lays_236 : decode cX9_lays 236 = .ok (.iconst 0, 1) := by decide +kernel
theorem dX9_lays_237 : decode cX9_lays 237 = .ok (.istore_n 3, 1) := by decide +kernel
theorem dX9_lays_238 : decode cX9_lays 238 = .ok (.iload_n 3, 1) := by decide +kernel
theorem dX9_lays_239 : decode cX9_lays 239 = .ok (.iload_n 1, 1) := by decide +kernel
theorem dX9_lays_240 : decode cX9_lays 240 = .ok (.if_icmp .ge 28, 3) := by decide +kernel
theorem dX9_lays_243 : decode cX9_lays 243 = .ok (.iload_n 2, 1) := by decide +kernel
theorem dX9_lays_244 : decode cX9_lays 244 = .ok (.ifCond .eq 16, 3) := by decide +kernel
theorem dX9_lays_247 : decode cX9_lays 247 = .ok (.aload_n 0, 1) := by decide +kernel
theorem dX9_lays_248 : decode cX9_lays 248 = .ok (.iload_n 3, 1) := by decide +kernel
theorem dX9_lays_249 : decode cX9_lays 249 = .ok (.iload_n 3, 1) := by decide +kernel
theorem dX9_lays_250 : decode cX9_lays 250 = .ok (.invokevirtual 113, 3) := by decide +kernel
theorem dX9_lays_253 : decode cX9_lays 253 = .ok (.ifCond .lt 7, 3) := by decide +kernel
theorem dX9_lays_256 : decode cX9_lays 256 = .ok (.iconst 1, 1) := by decide +kernel
theorem dX9_lays_257 : decode cX9_lays 257 = .ok (.goto 4, 3) := by decide +kernel
theorem dX9_lays_260 : decode cX9_lays 260 = .ok (.iconst 0, 1) := by decide +kernel
theorem dX9_lays_261 : decode cX9_lays 261 = .ok (.istore_n 2, 1) := by decide +kernel
theorem dX9_lays_262 : decode cX9_lays 262 = .ok (.iinc 3 1, 3) := by decide +kernel
theorem dX9_lays_265 : decode cX9_lays 265 = .ok (.goto (-27), 3) := by decide +kernel
theorem dX9_lays_268 : decode cX9_lays 268 = .ok (.iload_n 2, 1) := by decide +kernel
theorem dX9_lays_269 : decode cX9_lays 269 = .ok (.ireturn, 1) := by decide +kernel
theorem dX9_earliest_0 : decode cX9_earliest 0 = .ok (.aload_n 0, 1) := by decide +kernel
theorem dX9_earliest_1 : decode cX9_earliest 1 = .ok (.iload_n 1, 1) := by decide +kernel
theorem dX9_earliest_2 : decode cX9_earliest 2 = .ok (.iconst 0, 1) := by decide +kernel
theorem dX9_earliest_3 : decode cX9_earliest 3 = .ok (.invokevirtual 113, 3) := by decide +kernel
theorem dX9_earliest_6 : decode cX9_earliest 6 = .ok (.ineg, 1) := by decide +kernel
theorem dX9_earliest_7 : decode cX9_earliest 7 = .ok (.ireturn, 1) := by decide +kernel
theorem dX9_latest_0 : decode cX9_latest 0 = .ok (.aload_n 0, 1) := by decide +kernel
theorem dX9_latest_1 : decode cX9_latest 1 = .ok (.iconst 0, 1) := by decide +kernel
theorem dX9_latest_2 : decode cX9_latest 2 = .ok (.iload_n 1, 1) := by decide +kernel
theorem dX9_latest_3 : decode cX9_latest 3 = .ok (.invokevirtual 113, 3) := by decide +kernel
theorem dX9_latest_6 : decode cX9_latest 6 = .ok (.ireturn, 1) := by decide +kernel
theorem dX9_roomOf_0 : decode cX9_roomOf 0 = .ok (.aload_n 0, 1) := by decide +kernel
theorem dX9_roomOf_1 : decode cX9_roomOf 1 = .ok (.iload_n 1, 1) := by decide +kernel
theorem dX9_roomOf_2 : decode cX9_roomOf 2 = .ok (.invokevirtual 117, 3) := by decide +kernel
theorem dX9_roomOf_5 : decode cX9_roomOf 5 = .ok (.aload_n 0, 1) := by decide +kernel
theorem dX9_roomOf_6 : decode cX9_roomOf 6 = .ok (.iload_n 1, 1) := by decide +kernel
theorem dX9_roomOf_7 : decode cX9_roomOf 7 = .ok (.invokevirtual 120, 3) := by decide +kernel
theorem dX9_roomOf_10 : decode cX9_roomOf 10 = .ok (.isub, 1) := by decide +kernel
theorem dX9_roomOf_11 : decode cX9_roomOf 11 = .ok (.ireturn, 1) := by decide +kernel
theorem dX9_allRoom_0 : decode cX9_allRoom 0 = .ok (.iconst 0, 1) := by decide +kernel
theorem dX9_allRoom_1 : decode cX9_allRoom 1 = .ok (.istore_n 1, 1) := by decide +kernel
theorem dX9_allRoom_2 : decode cX9_allRoom 2 = .ok (.iconst 0, 1) := by decide +kernel
theorem dX9_allRoom_3 : decode cX9_allRoom 3 = .ok (.istore_n 2, 1) := by decide +kernel
theorem dX9_allRoom_4 : decode cX9_allRoom 4 = .ok (.iload_n 2, 1) := by decide +kernel
theorem dX9_allRoom_5 : decode cX9_allRoom 5 = .ok (.aload_n 0, 1) := by decide +kernel
theorem dX9_allRoom_6 : decode cX9_allRoom 6 = .ok (.getfield 17, 3) := by decide +kernel
theorem dX9_allRoom_9 : decode cX9_allRoom 9 = .ok (.iconst 1, 1) := by decide +kernel
theorem dX9_allRoom_10 : decode cX9_allRoom 10 = .ok (.iaload, 1) := by decide +kernel
theorem dX9_allRoom_11 : decode cX9_allRoom 11 = .ok (.if_icmp .ge 17, 3) := by decide +kernel
theorem dX9_allRoom_14 : decode cX9_allRoom 14 = .ok (.iload_n 1, 1) := by decide +kernel
theorem dX9_allRoom_15 : decode cX9_allRoom 15 = .ok (.aload_n 0, 1) := by decide +kernel
theorem dX9_allRoom_16 : decode cX9_allRoom 16 = .ok (.iload_n 2, 1) := by decide +kernel
theorem dX9_allRoom_17 : decode cX9_allRoom 17 = .ok (.invokevirtual 123, 3) := by decide +kernel
theorem dX9_allRoom_20 : decode cX9_allRoom 20 = .ok (.iadd, 1) := by decide +kernel
theorem dX9_allRoom_21 : decode cX9_allRoom 21 = .ok (.istore_n 1, 1) := by decide +kernel
theorem dX9_allRoom_22 : decode cX9_allRoom 22 = .ok (.iinc 2 1, 3) := by decide +kernel
theorem dX9_allRoom_25 : decode cX9_allRoom 25 = .ok (.goto (-21), 3) := by decide +kernel
theorem dX9_allRoom_28 : decode cX9_allRoom 28 = .ok (.iload_n 1, 1) := by decide +kernel
theorem dX9_allRoom_29 : decode cX9_allRoom 29 = .ok (.ireturn, 1) := by decide +kernel
theorem dX9_isTight_0 : decode cX9_isTight 0 = .ok (.aload_n 0, 1) := by decide +kernel
theorem dX9_isTight_1 : decode cX9_isTight 1 = .ok (.iload_n 1, 1) := by decide +kernel
theorem dX9_isTight_2 : decode cX9_isTight 2 = .ok (.invokevirtual 87, 3) := by decide +kernel
theorem dX9_isTight_5 : decode cX9_isTight 5 = .ok (.ifCond .eq 29, 3) := by decide +kernel
theorem dX9_isTight_8 : decode cX9_isTight 8 = .ok (.aload_n 0, 1) := by decide +kernel
theorem dX9_isTight_9 : decode cX9_isTight 9 = .ok (.iload_n 1, 1) := by decide +kernel
theorem dX9_isTight_10 : decode cX9_isTight 10 = .ok (.invokevirtual 96, 3) := by decide +kernel
theorem dX9_isTight_13 : decode cX9_isTight 13 = .ok (.aload_n 0, 1) := by decide +kernel
theorem dX9_isTight_14 : decode cX9_isTight 14 = .ok (.aload_n 0, 1) := by decide +kernel
theorem dX9_isTight_15 : decode cX9_isTight 15 = .ok (.iload_n 1, 1) := by decide +kernel
theorem dX9_isTight_16 : decode cX9_isTight 16 = .ok (.invokevirtual 90, 3) := by decide +kernel
theorem dX9_isTight_19 : decode cX9_isTight 19 = .ok (.aload_n 0, 1) := by decide +kernel
theorem dX9_isTight_20 : decode cX9_isTight 20 = .ok (.iload_n 1, 1) := by decide +kernel
theorem dX9_isTight_21 : decode cX9_isTight 21 = .ok (.invokevirtual 93, 3) := by decide +kernel
theorem dX9_isTight_24 : decode cX9_isTight 24 = .ok (.invokevirtual 113, 3) := by decide +kernel
theorem dX9_isTight_27 : decode cX9_isTight 27 = .ok (.if_icmp .ne 7, 3) := by decide +kernel
theorem dX9_isTight_30 : decode cX9_isTight 30 = .ok (.iconst 1, 1) := by decide +kernel
theorem dX9_isTight_31 : decode cX9_isTight 31 = .ok (.goto 4, 3) := by decide +kernel
theorem dX9_isTight_34 : decode cX9_isTight 34 = .ok (.iconst 0, 1) := by decide +kernel
theorem dX9_isTight_35 : decode cX9_isTight 35 = .ok (.ireturn, 1) := by decide +kernel
theorem dX9_isNeeded_0 : decode cX9_isNeeded 0 = .ok (.aload_n 0, 1) := by decide +kernel
theorem dX9_isNeeded_1 : decode cX9_isNeeded 1 = .ok (.invokevirtual 126, 3) := by decide +kernel
theorem dX9_isNeeded_4 : decode cX9_isNeeded 4 = .ok (.istore_n 2, 1) := by decide +kernel
theorem dX9_isNeeded_5 : decode cX9_isNeeded 5 = .ok (.aload_n 0, 1) := by decide +kernel
theorem dX9_isNeeded_6 : decode cX9_isNeeded 6 = .ok (.iload_n 1, 1) := by decide +kernel
theorem dX9_isNeeded_7 : decode cX9_isNeeded 7 = .ok (.invokevirtual 130, 3) := by decide +kernel
theorem dX9_isNeeded_10 : decode cX9_isNeeded 10 = .ok (.ifCond .ne 5, 3) := by decide +kernel
theorem dX9_isNeeded_13 : decode cX9_isNeeded 13 = .ok (.iconst 0, 1) := by decide +kernel
theorem dX9_isNeeded_14 : decode cX9_isNeeded 14 = .ok (.ireturn, 1) := by decide +kernel
theorem dX9_isNeeded_15 : decode cX9_isNeeded 15 = .ok (.aload_n 0, 1) := by decide +kernel
theorem dX9_isNeeded_16 : decode cX9_isNeeded 16 = .ok (.iload_n 1, 1) := by decide +kernel
theorem dX9_isNeeded_17 : decode cX9_isNeeded 17 = .ok (.iconst 4, 1) := by decide +kernel
theorem dX9_isNeeded_18 : decode cX9_isNeeded 18 = .ok (.iconst 0, 1) := by decide +kernel
theorem dX9_isNeeded_19 : decode cX9_isNeeded 19 = .ok (.invokevirtual 133, 3) := by decide +kernel
theorem dX9_isNeeded_22 : decode cX9_isNeeded 22 = .ok (.aload_n 0, 1) := by decide +kernel
theorem dX9_isNeeded_23 : decode cX9_isNeeded 23 = .ok (.invokevirtual 126, 3) := by decide +kernel
theorem dX9_isNeeded_26 : decode cX9_isNeeded 26 = .ok (.istore_n 2, 1) := by decide +kernel
theorem dX9_isNeeded_27 : decode cX9_isNeeded 27 = .ok (.aload_n 0, 1) := by decide +kernel
theorem dX9_isNeeded_28 : decode cX9_isNeeded 28 = .ok (.aload_n 0, 1) := by decide +kernel
theorem dX9_isNeeded_29 : decode cX9_isNeeded 29 = .ok (.iload_n 1, 1) := by decide +kernel
theorem dX9_isNeeded_30 : decode cX9_isNeeded 30 = .ok (.invokevirtual 90, 3) := by decide +kernel
theorem dX9_isNeeded_33 : decode cX9_isNeeded 33 = .ok (.aload_n 0, 1) := by decide +kernel
theorem dX9_isNeeded_34 : decode cX9_isNeeded 34 = .ok (.iload_n 1, 1) := by decide +kernel
theorem dX9_isNeeded_35 : decode cX9_isNeeded 35 = .ok (.invokevirtual 93, 3) := by decide +kernel
theorem dX9_isNeeded_38 : decode cX9_isNeeded 38 = .ok (.invokevirtual 113, 3) := by decide +kernel
theorem dX9_isNeeded_41 : decode cX9_isNeeded 41 = .ok (.aload_n 0, 1) := by decide +kernel
theorem dX9_isNeeded_42 : decode cX9_isNeeded 42 = .ok (.iload_n 1, 1) := by decide +kernel
theorem dX9_isNeeded_43 : decode cX9_isNeeded 43 = .ok (.invokevirtual 96, 3) := by decide +kernel
theorem dX9_isNeeded_46 : decode cX9_isNeeded 46 = .ok (.if_icmp .le 7, 3) := by decide +kernel
theorem dX9_isNeeded_49 : decode cX9_isNeeded 49 = .ok (.iconst 1, 1) := by decide +kernel
theorem dX9_isNeeded_50 : decode cX9_isNeeded 50 = .ok (.goto 4, 3) := by decide +kernel
theorem dX9_isNeeded_53 : decode cX9_isNeeded 53 = .ok (.iconst 0, 1) := by decide +kernel
theorem dX9_isNeeded_54 : decode cX9_isNeeded 54 = .ok (.istore_n 3, 1) := by decide +kernel
theorem dX9_isNeeded_55 : decode cX9_isNeeded 55 = .ok (.aload_n 0, 1) := by decide +kernel
theorem dX9_isNeeded_56 : decode cX9_isNeeded 56 = .ok (.iload_n 1, 1) := by decide +kernel
theorem dX9_isNeeded_57 : decode cX9_isNeeded 57 = .ok (.iconst 4, 1) := by decide +kernel
theorem dX9_isNeeded_58 : decode cX9_isNeeded 58 = .ok (.iconst 1, 1) := by decide +kernel
theorem dX9_isNeeded_59 : decode cX9_isNeeded 59 = .ok (.invokevirtual 133, 3) := by decide +kernel
theorem dX9_isNeeded_62 : decode cX9_isNeeded 62 = .ok (.aload_n 0, 1) := by decide +kernel
theorem dX9_isNeeded_63 : decode cX9_isNeeded 63 = .ok (.invokevirtual 126, 3) := by decide +kernel
theorem dX9_isNeeded_66 : decode cX9_isNeeded 66 = .ok (.istore_n 2, 1) := by decide +kernel
theorem dX9_isNeeded_67 : decode cX9_isNeeded 67 = .ok (.iload_n 3, 1) := by decide +kernel
theorem dX9_isNeeded_68 : decode cX9_isNeeded 68 = .ok (.ireturn, 1) := by decide +kernel
theorem dX9_comes_0 : decode cX9_comes 0 = .ok (.aload_n 0, 1) := by decide +kernel
theorem dX9_comes_1 : decode cX9_comes 1 = .ok (.getfield 17, 3) := by decide +kernel
theorem dX9_comes_4 : decode cX9_comes 4 = .ok (.iconst 2, 1) := by decide +kernel
theorem dX9_comes_5 : decode cX9_comes 5 = .ok (.iaload, 1) := by decide +kernel
theorem dX9_comes_6 : decode cX9_comes 6 = .ok (.istore 6, 2) := by decide +kernel
theorem dX9_comes_8 : decode cX9_comes 8 = .ok (.aload_n 0, 1) := by decide +kernel
theorem dX9_comes_9 : decode cX9_comes 9 = .ok (.iload 6, 2) := by decide +kernel
theorem dX9_comes_11 : decode cX9_comes 11 = .ok (.iconst 0, 1) := by decide +kernel
theorem dX9_comes_12 : decode cX9_comes 12 = .ok (.iload_n 1, 1) := by decide +kernel
theorem dX9_comes_13 : decode cX9_comes 13 = .ok (.invokevirtual 133, 3) := by decide +kernel
theorem dX9_comes_16 : decode cX9_comes 16 = .ok (.aload_n 0, 1) := by decide +kernel
theorem dX9_comes_17 : decode cX9_comes 17 = .ok (.iload 6, 2) := by decide +kernel
theorem dX9_comes_19 : decode cX9_comes 19 = .ok (.iconst 1, 1) := by decide +kernel
theorem dX9_comes_20 : decode cX9_comes 20 = .ok (.iload_n 2, 1) := by decide +kernel
theorem dX9_comes_21 : decode cX9_comes 21 = .ok (.invokevirtual 133, 3) := by decide +kernel
theorem dX9_comes_24 : decode cX9_comes 24 = .ok (.aload_n 0, 1) := by decide +kernel
theorem dX9_comes_25 : decode cX9_comes 25 = .ok (.iload 6, 2) := by decide +kernel
theorem dX9_comes_27 : decode cX9_comes 27 = .ok (.iconst 2, 1) := by decide +kernel
theorem dX9_comes_28 : decode cX9_comes 28 = .ok (.iload_n 3, 1) := by decide +kernel
theorem dX9_comes_29 : decode cX9_comes 29 = .ok (.invokevirtual 133, 3) := by decide +kernel
theorem dX9_comes_32 : decode cX9_comes 32 = .ok (.aload_n 0, 1) := by decide +kernel
theorem dX9_comes_33 : decode cX9_comes 33 = .ok (.iload 6, 2) := by decide +kernel
theorem dX9_comes_35 : decode cX9_comes 35 = .ok (.iconst 3, 1) := by decide +kernel
theorem dX9_comes_36 : decode cX9_comes 36 = .ok (.iload 4, 2) := by decide +kernel
theorem dX9_comes_38 : decode cX9_comes 38 = .ok (.invokevirtual 133, 3) := by decide +kernel
theorem dX9_comes_41 : decode cX9_comes 41 = .ok (.aload_n 0, 1) := by decide +kernel
theorem dX9_comes_42 : decode cX9_comes 42 = .ok (.iload 6, 2) := by decide +kernel
theorem dX9_comes_44 : decode cX9_comes 44 = .ok (.iconst 4, 1) := by decide +kernel
theorem dX9_comes_45 : decode cX9_comes 45 = .ok (.iload 5, 2) := by decide +kernel
theorem dX9_comes_47 : decode cX9_comes 47 = .ok (.invokevirtual 133, 3) := by decide +kernel
theorem dX9_comes_50 : decode cX9_comes 50 = .ok (.aload_n 0, 1) := by decide +kernel
theorem dX9_comes_51 : decode cX9_comes 51 = .ok (.getfield 17, 3) := by decide +kernel
theorem dX9_comes_54 : decode cX9_comes 54 = .ok (.iconst 2, 1) := by decide +kernel
theorem dX9_comes_55 : decode cX9_comes 55 = .ok (.dup2, 1) := by decide +kernel
theorem dX9_comes_56 : decode cX9_comes 56 = .ok (.iaload, 1) := by decide +kernel
theorem dX9_comes_57 : decode cX9_comes 57 = .ok (.iconst 1, 1) := by decide +kernel
theorem dX9_comes_58 : decode cX9_comes 58 = .ok (.iadd, 1) := by decide +kernel
theorem dX9_comes_59 : decode cX9_comes 59 = .ok (.iastore, 1) := by decide +kernel
theorem dX9_comes_60 : decode cX9_comes 60 = .ok (.iload 6, 2) := by decide +kernel
theorem dX9_comes_62 : decode cX9_comes 62 = .ok (.ireturn, 1) := by decide +kernel
theorem dX9_doneIf_0 : decode cX9_doneIf 0 = .ok (.aload_n 0, 1) := by decide +kernel
theorem dX9_doneIf_1 : decode cX9_doneIf 1 = .ok (.invokevirtual 126, 3) := by decide +kernel
theorem dX9_doneIf_4 : decode cX9_doneIf 4 = .ok (.ifCond .ne 10, 3) := by decide +kernel
theorem dX9_doneIf_7 : decode cX9_doneIf 7 = .ok (.aload_n 0, 1) := by decide +kernel
theorem dX9_doneIf_8 : decode cX9_doneIf 8 = .ok (.bipush (-5), 2) := by decide +kernel
theorem dX9_doneIf_10 : decode cX9_doneIf 10 = .ok (.invokevirtual 137, 3) := by decide +kernel
theorem dX9_doneIf_13 : decode cX9_doneIf 13 = .ok (.ireturn, 1) := by decide +kernel
theorem dX9_doneIf_14 : decode cX9_doneIf 14 = .ok (.aload_n 0, 1) := by decide +kernel
theorem dX9_doneIf_15 : decode cX9_doneIf 15 = .ok (.iload_n 1, 1) := by decide +kernel
theorem dX9_doneIf_16 : decode cX9_doneIf 16 = .ok (.iload_n 2, 1) := by decide +kernel
theorem dX9_doneIf_17 : decode cX9_doneIf 17 = .ok (.iload_n 3, 1) := by decide +kernel
theorem dX9_doneIf_18 : decode cX9_doneIf 18 = .ok (.invokevirtual 140, 3) := by decide +kernel
theorem dX9_doneIf_21 : decode cX9_doneIf 21 = .ok (.aload_n 0, 1) := by decide +kernel
theorem dX9_doneIf_22 : decode cX9_doneIf 22 = .ok (.iload 4, 2) := by decide +kernel
theorem dX9_doneIf_24 : decode cX9_doneIf 24 = .ok (.invokevirtual 72, 3) := by decide +kernel
theorem dX9_doneIf_27 : decode cX9_doneIf 27 = .ok (.ireturn, 1) := by decide +kernel
theorem dX9_tell_0 : decode cX9_tell 0 = .ok (.aload_n 0, 1) := by decide +kernel
theorem dX9_tell_1 : decode cX9_tell 1 = .ok (.iload_n 1, 1) := by decide +kernel
theorem dX9_tell_2 : decode cX9_tell 2 = .ok (.iload_n 2, 1) := by decide +kernel
theorem dX9_tell_3 : decode cX9_tell 3 = .ok (.invokevirtual 143, 3) := by decide +kernel
theorem dX9_tell_6 : decode cX9_tell 6 = .ok (.ifCond .eq 12, 3) := by decide +kernel
theorem dX9_tell_9 : decode cX9_tell 9 = .ok (.iload_n 3, 1) := by decide +kernel
theorem dX9_tell_10 : decode cX9_tell 10 = .ok (.iload 4, 2) := by decide +kernel
theorem dX9_tell_12 : decode cX9_tell 12 = .ok (.invokestatic 147, 3) := by decide +kernel
theorem dX9_tell_15 : decode cX9_tell 15 = .ok (.ifCond .ne 5, 3) := by decide +kernel
theorem dX9_tell_18 : decode cX9_tell 18 = .ok (.iconst (-1), 1) := by decide +kernel
theorem dX9_tell_19 : decode cX9_tell 19 = .ok (.ireturn, 1) := by decide +kernel
theorem dX9_tell_20 : decode cX9_tell 20 = .ok (.aload_n 0, 1) := by decide +kernel
theorem dX9_tell_21 : decode cX9_tell 21 = .ok (.getfield 17, 3) := by decide +kernel
theorem dX9_tell_24 : decode cX9_tell 24 = .ok (.iconst 2, 1) := by decide +kernel
theorem dX9_tell_25 : decode cX9_tell 25 = .ok (.iaload, 1) := by decide +kernel
theorem dX9_tell_26 : decode cX9_tell 26 = .ok (.bipush 24, 2) := by decide +kernel
theorem dX9_tell_28 : decode cX9_tell 28 = .ok (.if_icmp .ne 6, 3) := by decide +kernel
theorem dX9_tell_31 : decode cX9_tell 31 = .ok (.bipush (-4), 2) := by decide +kernel
theorem dX9_tell_33 : decode cX9_tell 33 = .ok (.ireturn, 1) := by decide +kernel
theorem dX9_tell_34 : decode cX9_tell 34 = .ok (.aload_n 0, 1) := by decide +kernel
theorem dX9_tell_35 : decode cX9_tell 35 = .ok (.invokevirtual 69, 3) := by decide +kernel
theorem dX9_tell_38 : decode cX9_tell 38 = .ok (.aload_n 0, 1) := by decide +kernel
theorem dX9_tell_39 : decode cX9_tell 39 = .ok (.iload_n 1, 1) := by decide +kernel
theorem dX9_tell_40 : decode cX9_tell 40 = .ok (.iload_n 2, 1) := by decide +kernel
theorem dX9_tell_41 : decode cX9_tell 41 = .ok (.iload_n 3, 1) := by decide +kernel
theorem dX9_tell_42 : decode cX9_tell 42 = .ok (.iload 4, 2) := by decide +kernel
theorem dX9_tell_44 : decode cX9_tell 44 = .ok (.iconst 1, 1) := by decide +kernel
theorem dX9_tell_45 : decode cX9_tell 45 = .ok (.invokevirtual 150, 3) := by decide +kernel
theorem dX9_tell_48 : decode cX9_tell 48 = .ok (.istore 5, 2) := by decide +kernel
theorem dX9_tell_50 : decode cX9_tell 50 = .ok (.aload_n 0, 1) := by decide +kernel
theorem dX9_tell_51 : decode cX9_tell 51 = .ok (.invokevirtual 126, 3) := by decide +kernel
theorem dX9_tell_54 : decode cX9_tell 54 = .ok (.ifCond .ne 27, 3) := by decide +kernel
theorem dX9_tell_57 : decode cX9_tell 57 = .ok (.aload_n 0, 1) := by decide +kernel
theorem dX9_tell_58 : decode cX9_tell 58 = .ok (.bipush (-5), 2) := by decide +kernel
theorem dX9_tell_60 : decode cX9_tell 60 = .ok (.invokevirtual 137, 3) := by decide +kernel
theorem dX9_tell_63 : decode cX9_tell 63 = .ok (.istore 6, 2) := by decide +kernel
theorem dX9_tell_65 : decode cX9_tell 65 = .ok (.aload_n 0, 1) := by decide +kernel
theorem dX9_tell_66 : decode cX9_tell 66 = .ok (.bipush 8, 2) := by decide +kernel
theorem dX9_tell_68 : decode cX9_tell 68 = .ok (.iload_n 3, 1) := by decide +kernel
theorem dX9_tell_69 : decode cX9_tell 69 = .ok (.iload 4, 2) := by decide +kernel
theorem dX9_tell_71 : decode cX9_tell 71 = .ok (.invokevirtual 140, 3) := by decide +kernel
theorem dX9_tell_74 : decode cX9_tell 74 = .ok (.aload_n 0, 1) := by decide +kernel
theorem dX9_tell_75 : decode cX9_tell 75 = .ok (.bipush (-5), 2) := by decide +kernel
theorem dX9_tell_77 : decode cX9_tell 77 = .ok (.invokevirtual 72, 3) := by decide +kernel
theorem dX9_tell_80 : decode cX9_tell 80 = .ok (.ireturn, 1) := by decide +kernel
theorem dX9_tell_81 : decode cX9_tell 81 = .ok (.aload_n 0, 1) := by decide +kernel
theorem dX9_tell_82 : decode cX9_tell 82 = .ok (.iconst 1, 1) := by decide +kernel
theorem dX9_tell_83 : decode cX9_tell 83 = .ok (.iload 5, 2) := by decide +kernel
theorem dX9_tell_85 : decode cX9_tell 85 = .ok (.iload 4, 2) := by decide +kernel
theorem dX9_tell_87 : decode cX9_tell 87 = .ok (.invokevirtual 140, 3) := by decide +kernel
theorem dX9_tell_90 : decode cX9_tell 90 = .ok (.aload_n 0, 1) := by decide +kernel
theorem dX9_tell_91 : decode cX9_tell 91 = .ok (.iload 5, 2) := by decide +kernel
theorem dX9_tell_93 : decode cX9_tell 93 = .ok (.invokevirtual 72, 3) := by decide +kernel
theorem dX9_tell_96 : decode cX9_tell 96 = .ok (.ireturn, 1) := by decide +kernel
theorem dX9_drops_0 : decode cX9_drops 0 = .ok (.iload_n 1, 1) := by decide +kernel
theorem dX9_drops_1 : decode cX9_drops 1 = .ok (.istore_n 2, 1) := by decide +kernel
theorem dX9_drops_2 : decode cX9_drops 2 = .ok (.iload_n 2, 1) := by decide +kernel
theorem dX9_drops_3 : decode cX9_drops 3 = .ok (.iconst 1, 1) := by decide +kernel
theorem dX9_drops_4 : decode cX9_drops 4 = .ok (.iadd, 1) := by decide +kernel
theorem dX9_drops_5 : decode cX9_drops 5 = .ok (.aload_n 0, 1) := by decide +kernel
theorem dX9_drops_6 : decode cX9_drops 6 = .ok (.getfield 17, 3) := by decide +kernel
theorem dX9_drops_9 : decode cX9_drops 9 = .ok (.iconst 2, 1) := by decide +kernel
theorem dX9_drops_10 : decode cX9_drops 10 = .ok (.iaload, 1) := by decide +kernel
theorem dX9_drops_11 : decode cX9_drops 11 = .ok (.if_icmp .ge 36, 3) := by decide +kernel
theorem dX9_drops_14 : decode cX9_drops 14 = .ok (.iconst 0, 1) := by decide +kernel
theorem dX9_drops_15 : decode cX9_drops 15 = .ok (.istore_n 3, 1) := by decide +kernel
theorem dX9_drops_16 : decode cX9_drops 16 = .ok (.iload_n 3, 1) := by decide +kernel
theorem dX9_drops_17 : decode cX9_drops 17 = .ok (.iconst 5, 1) := by decide +kernel
theorem dX9_drops_18 : decode cX9_drops 18 = .ok (.if_icmp .ge 23, 3) := by decide +kernel
theorem dX9_drops_21 : decode cX9_drops 21 = .ok (.aload_n 0, 1) := by decide +kernel
theorem dX9_drops_22 : decode cX9_drops 22 = .ok (.iload_n 2, 1) := by decide +kernel
theorem dX9_drops_23 : decode cX9_drops 23 = .ok (.iload_n 3, 1) := by decide +kernel
theorem dX9_drops_24 : decode cX9_drops 24 = .ok (.aload_n 0, 1) := by decide +kernel
theorem dX9_drops_25 : decode cX9_drops 25 = .ok (.iload_n 2, 1) := by decide +kernel
theorem dX9_drops_26 : decode cX9_drops 26 = .ok (.iconst 1, 1) := by decide +kernel
theorem dX9_drops_27 : decode cX9_drops 27 = .ok (.iadd, 1) := by decide +kernel
theorem dX9_drops_28 : decode cX9_drops 28 = .ok (.iload_n 3, 1) := by decide +kernel
theorem dX9_drops_29 : decode cX9_drops 29 = .ok (.invokevirtual 76, 3) := by decide +kernel
theorem dX9_drops_32 : decode cX9_drops 32 = .ok (.invokevirtual 133, 3) := by decide +kernel
theorem dX9_drops_35 : decode cX9_drops 35 = .ok (.iinc 3 1, 3) := by decide +kernel
theorem dX9_drops_38 : decode cX9_drops 38 = .ok (.goto (-22), 3) := by decide +kernel
theorem dX9_drops_41 : decode cX9_drops 41 = .ok (.iinc 2 1, 3) := by decide +kernel
theorem dX9_drops_44 : decode cX9_drops 44 = .ok (.goto (-42), 3) := by decide +kernel
theorem dX9_drops_47 : decode cX9_drops 47 = .ok (.aload_n 0, 1) := by decide +kernel
theorem dX9_drops_48 : decode cX9_drops 48 = .ok (.getfield 17, 3) := by decide +kernel
theorem dX9_drops_51 : decode cX9_drops 51 = .ok (.iconst 2, 1) := by decide +kernel
theorem dX9_drops_52 : decode cX9_drops 52 = .ok (.dup2, 1) := by decide +kernel
theorem dX9_drops_53 : decode cX9_drops 53 = .ok (.iaload, 1) := by decide +kernel
theorem dX9_drops_54 : decode cX9_drops 54 = .ok (.iconst 1, 1) := by decide +kernel
theorem dX9_drops_55 : decode cX9_drops 55 = .ok (.isub, 1) := by decide +kernel
theorem dX9_drops_56 : decode cX9_drops 56 = .ok (.iastore, 1) := by decide +kernel
theorem dX9_drops_57 : decode cX9_drops 57 = .ok (.return_, 1) := by decide +kernel
theorem dX9_drop_0 : decode cX9_drop 0 = .ok (.aload_n 0, 1) := by decide +kernel
theorem dX9_drop_1 : decode cX9_drop 1 = .ok (.iload_n 1, 1) := by decide +kernel
theorem dX9_drop_2 : decode cX9_drop 2 = .ok (.invokevirtual 154, 3) := by decide +kernel
theorem dX9_drop_5 : decode cX9_drop 5 = .ok (.ifCond .ne 5, 3) := by decide +kernel
theorem dX9_drop_8 : decode cX9_drop 8 = .ok (.iconst (-1), 1) := by decide +kernel
theorem dX9_drop_9 : decode cX9_drop 9 = .ok (.ireturn, 1) := by decide +kernel
theorem dX9_drop_10 : decode cX9_drop 10 = .ok (.aload_n 0, 1) := by decide +kernel
theorem dX9_drop_11 : decode cX9_drop 11 = .ok (.invokevirtual 69, 3) := by decide +kernel
theorem dX9_drop_14 : decode cX9_drop 14 = .ok (.aload_n 0, 1) := by decide +kernel
theorem dX9_drop_15 : decode cX9_drop 15 = .ok (.iconst 2, 1) := by decide +kernel
theorem dX9_drop_16 : decode cX9_drop 16 = .ok (.iload_n 1, 1) := by decide +kernel
theorem dX9_drop_17 : decode cX9_drop 17 = .ok (.aload_n 0, 1) := by decide +kernel
theorem dX9_drop_18 : decode cX9_drop 18 = .ok (.iload_n 1, 1) := by decide +kernel
theorem dX9_drop_19 : decode cX9_drop 19 = .ok (.iconst 3, 1) := by decide +kernel
theorem dX9_drop_20 : decode cX9_drop 20 = .ok (.invokevirtual 76, 3) := by decide +kernel
theorem dX9_drop_23 : decode cX9_drop 23 = .ok (.invokevirtual 140, 3) := by decide +kernel
theorem dX9_drop_26 : decode cX9_drop 26 = .ok (.aload_n 0, 1) := by decide +kernel
theorem dX9_drop_27 : decode cX9_drop 27 = .ok (.iload_n 1, 1) := by decide +kernel
theorem dX9_drop_28 : decode cX9_drop 28 = .ok (.invokevirtual 157, 3) := by decide +kernel
theorem dX9_drop_31 : decode cX9_drop 31 = .ok (.aload_n 0, 1) := by decide +kernel
theorem dX9_drop_32 : decode cX9_drop 32 = .ok (.aload_n 0, 1) := by decide +kernel
theorem dX9_drop_33 : decode cX9_drop 33 = .ok (.getfield 17, 3) := by decide +kernel
theorem dX9_drop_36 : decode cX9_drop 36 = .ok (.iconst 2, 1) := by decide +kernel
theorem dX9_drop_37 : decode cX9_drop 37 = .ok (.iaload, 1) := by decide +kernel
theorem dX9_drop_38 : decode cX9_drop 38 = .ok (.invokevirtual 72, 3) := by decide +kernel
theorem dX9_drop_41 : decode cX9_drop 41 = .ok (.ireturn, 1) := by decide +kernel
theorem dX9_set_0 : decode cX9_set 0 = .ok (.aload_n 0, 1) := by decide +kernel
theorem dX9_set_1 : decode cX9_set 1 = .ok (.iload_n 1, 1) := by decide +kernel
theorem dX9_set_2 : decode cX9_set 2 = .ok (.invokevirtual 154, 3) := by decide +kernel
theorem dX9_set_5 : decode cX9_set 5 = .ok (.ifCond .eq 14, 3) := by decide +kernel
theorem dX9_set_8 : decode cX9_set 8 = .ok (.iload_n 2, 1) := by decide +kernel
theorem dX9_set_9 : decode cX9_set 9 = .ok (.iconst 0, 1) := by decide +kernel
theorem dX9_set_10 : decode cX9_set 10 = .ok (.sipush 999, 3) := by decide +kernel
theorem dX9_set_13 : decode cX9_set 13 = .ok (.invokestatic 65, 3) := by decide +kernel
theorem dX9_set_16 : decode cX9_set 16 = .ok (.ifCond .ne 5, 3) := by decide +kernel
theorem dX9_set_19 : decode cX9_set 19 = .ok (.iconst (-1), 1) := by decide +kernel
theorem dX9_set_20 : decode cX9_set 20 = .ok (.ireturn, 1) := by decide +kernel
theorem dX9_set_21 : decode cX9_set 21 = .ok (.aload_n 0, 1) := by decide +kernel
theorem dX9_set_22 : decode cX9_set 22 = .ok (.iload_n 1, 1) := by decide +kernel
theorem dX9_set_23 : decode cX9_set 23 = .ok (.iconst 3, 1) := by decide +kernel
theorem dX9_set_24 : decode cX9_set 24 = .ok (.invokevirtual 76, 3) := by decide +kernel
theorem dX9_set_27 : decode cX9_set 27 = .ok (.istore_n 3, 1) := by decide +kernel
theorem dX9_set_28 : decode cX9_set 28 = .ok (.iload_n 3, 1) := by decide +kernel
theorem dX9_set_29 : decode cX9_set 29 = .ok (.iload_n 2, 1) := by decide +kernel
theorem dX9_set_30 : decode cX9_set 30 = .ok (.if_icmp .ne 6, 3) := by decide +kernel
theorem dX9_set_33 : decode cX9_set 33 = .ok (.bipush (-2), 2) := by decide +kernel
theorem dX9_set_35 : decode cX9_set 35 = .ok (.ireturn, 1) := by decide +kernel
theorem dX9_set_36 : decode cX9_set 36 = .ok (.aload_n 0, 1) := by decide +kernel
theorem dX9_set_37 : decode cX9_set 37 = .ok (.invokevirtual 69, 3) := by decide +kernel
theorem dX9_set_40 : decode cX9_set 40 = .ok (.aload_n 0, 1) := by decide +kernel
theorem dX9_set_41 : decode cX9_set 41 = .ok (.iload_n 1, 1) := by decide +kernel
theorem dX9_set_42 : decode cX9_set 42 = .ok (.iconst 3, 1) := by decide +kernel
theorem dX9_set_43 : decode cX9_set 43 = .ok (.iload_n 2, 1) := by decide +kernel
theorem dX9_set_44 : decode cX9_set 44 = .ok (.invokevirtual 133, 3) := by decide +kernel
theorem dX9_set_47 : decode cX9_set 47 = .ok (.aload_n 0, 1) := by decide +kernel
theorem dX9_set_48 : decode cX9_set 48 = .ok (.iconst 3, 1) := by decide +kernel
theorem dX9_set_49 : decode cX9_set 49 = .ok (.iload_n 1, 1) := by decide +kernel
theorem dX9_set_50 : decode cX9_set 50 = .ok (.iload_n 3, 1) := by decide +kernel
theorem dX9_set_51 : decode cX9_set 51 = .ok (.iload_n 3, 1) := by decide +kernel
theorem dX9_set_52 : decode cX9_set 52 = .ok (.invokevirtual 161, 3) := by decide +kernel
theorem dX9_set_55 : decode cX9_set 55 = .ok (.ireturn, 1) := by decide +kernel
theorem dX9_turn_0 : decode cX9_turn 0 = .ok (.aload_n 0, 1) := by decide +kernel
theorem dX9_turn_1 : decode cX9_turn 1 = .ok (.iload_n 1, 1) := by decide +kernel
theorem dX9_turn_2 : decode cX9_turn 2 = .ok (.invokevirtual 154, 3) := by decide +kernel
theorem dX9_turn_5 : decode cX9_turn 5 = .ok (.ifCond .ne 5, 3) := by decide +kernel
theorem dX9_turn_8 : decode cX9_turn 8 = .ok (.iconst (-1), 1) := by decide +kernel
theorem dX9_turn_9 : decode cX9_turn 9 = .ok (.ireturn, 1) := by decide +kernel
theorem dX9_turn_10 : decode cX9_turn 10 = .ok (.aload_n 0, 1) := by decide +kernel
theorem dX9_turn_11 : decode cX9_turn 11 = .ok (.invokevirtual 69, 3) := by decide +kernel
theorem dX9_turn_14 : decode cX9_turn 14 = .ok (.iconst 1, 1) := by decide +kernel
theorem dX9_turn_15 : decode cX9_turn 15 = .ok (.aload_n 0, 1) := by decide +kernel
theorem dX9_turn_16 : decode cX9_turn 16 = .ok (.iload_n 1, 1) := by decide +kernel
theorem dX9_turn_17 : decode cX9_turn 17 = .ok (.iconst 4, 1) := by decide +kernel
theorem dX9_turn_18 : decode cX9_turn 18 = .ok (.invokevirtual 76, 3) := by decide +kernel
theorem dX9_turn_21 : decode cX9_turn 21 = .ok (.isub, 1) := by decide +kernel
theorem dX9_turn_22 : decode cX9_turn 22 = .ok (.istore_n 2, 1) := by decide +kernel
theorem dX9_turn_23 : decode cX9_turn 23 = .ok (.aload_n 0, 1) := by decide +kernel
theorem dX9_turn_24 : decode cX9_turn 24 = .ok (.iload_n 1, 1) := by decide +kernel
theorem dX9_turn_25 : decode cX9_turn 25 = .ok (.iconst 4, 1) := by decide +kernel
theorem dX9_turn_26 : decode cX9_turn 26 = .ok (.iload_n 2, 1) := by decide +kernel
theorem dX9_turn_27 : decode cX9_turn 27 = .ok (.invokevirtual 133, 3) := by decide +kernel
theorem dX9_turn_30 : decode cX9_turn 30 = .ok (.aload_n 0, 1) := by decide +kernel
theorem dX9_turn_31 : decode cX9_turn 31 = .ok (.iconst 4, 1) := by decide +kernel
theorem dX9_turn_32 : decode cX9_turn 32 = .ok (.iload_n 1, 1) := by decide +kernel
theorem dX9_turn_33 : decode cX9_turn 33 = .ok (.iload_n 2, 1) := by decide +kernel
theorem dX9_turn_34 : decode cX9_turn 34 = .ok (.iload_n 2, 1) := by decide +kernel
theorem dX9_turn_35 : decode cX9_turn 35 = .ok (.invokevirtual 161, 3) := by decide +kernel
theorem dX9_turn_38 : decode cX9_turn 38 = .ok (.ireturn, 1) := by decide +kernel
theorem dX9_pinned_0 : decode cX9_pinned 0 = .ok (.iconst 0, 1) := by decide +kernel
theorem dX9_pinned_1 : decode cX9_pinned 1 = .ok (.istore_n 1, 1) := by decide +kernel
theorem dX9_pinned_2 : decode cX9_pinned 2 = .ok (.iconst 1, 1) := by decide +kernel
theorem dX9_pinned_3 : decode cX9_pinned 3 = .ok (.istore_n 2, 1) := by decide +kernel
theorem dX9_pinned_4 : decode cX9_pinned 4 = .ok (.iload_n 2, 1) := by decide +kernel
theorem dX9_pinned_5 : decode cX9_pinned 5 = .ok (.aload_n 0, 1) := by decide +kernel
theorem dX9_pinned_6 : decode cX9_pinned 6 = .ok (.getfield 17, 3) := by decide +kernel
theorem dX9_pinned_9 : decode cX9_pinned 9 = .ok (.iconst 1, 1) := by decide +kernel
theorem dX9_pinned_10 : decode cX9_pinned 10 = .ok (.iaload, 1) := by decide +kernel
theorem dX9_pinned_11 : decode cX9_pinned 11 = .ok (.if_icmp .ge 25, 3) := by decide +kernel
theorem dX9_pinned_14 : decode cX9_pinned 14 = .ok (.iload_n 1, 1) := by decide +kernel
theorem dX9_pinned_15 : decode cX9_pinned 15 = .ok (.aload_n 0, 1) := by decide +kernel
theorem dX9_pinned_16 : decode cX9_pinned 16 = .ok (.iload_n 2, 1) := by decide +kernel
theorem dX9_pinned_17 : decode cX9_pinned 17 = .ok (.invokevirtual 103, 3) := by decide +kernel
theorem dX9_pinned_20 : decode cX9_pinned 20 = .ok (.ifCond .eq 7, 3) := by decide +kernel
theorem dX9_pinned_23 : decode cX9_pinned 23 = .ok (.iconst 1, 1) := by decide +kernel
theorem dX9_pinned_24 : decode cX9_pinned 24 = .ok (.goto 4, 3) := by decide +kernel
theorem dX9_pinned_27 : decode cX9_pinned 27 = .ok (.iconst 0, 1) := by decide +kernel
theorem dX9_pinned_28 : decode cX9_pinned 28 = .ok (.iadd, 1) := by decide +kernel
theorem dX9_pinned_29 : decode cX9_pinned 29 = .ok (.istore_n 1, 1) := by decide +kernel
theorem dX9_pinned_30 : decode cX9_pinned 30 = .ok (.iinc 2 1, 3) := by decide +kernel
theorem dX9_pinned_33 : decode cX9_pinned 33 = .ok (.goto (-29), 3) := by decide +kernel
theorem dX9_pinned_36 : decode cX9_pinned 36 = .ok (.iload_n 1, 1) := by decide +kernel
theorem dX9_pinned_37 : decode cX9_pinned 37 = .ok (.ireturn, 1) := by decide +kernel
theorem dX9_pin_0 : decode cX9_pin 0 = .ok (.aload_n 0, 1) := by decide +kernel
theorem dX9_pin_1 : decode cX9_pin 1 = .ok (.iload_n 1, 1) := by decide +kernel
theorem dX9_pin_2 : decode cX9_pin 2 = .ok (.invokevirtual 80, 3) := by decide +kernel
theorem dX9_pin_5 : decode cX9_pin 5 = .ok (.ifCond .eq 17, 3) := by decide +kernel
theorem dX9_pin_8 : decode cX9_pin 8 = .ok (.iload_n 2, 1) := by decide +kernel
theorem dX9_pin_9 : decode cX9_pin 9 = .ok (.iconst 0, 1) := by decide +kernel
theorem dX9_pin_10 : decode cX9_pin 10 = .ok (.aload_n 0, 1) := by decide +kernel
theorem dX9_pin_11 : decode cX9_pin 11 = .ok (.getfield 17, 3) := by decide +kernel
theorem dX9_pin_14 : decode cX9_pin 14 = .ok (.iconst 0, 1) := by decide +kernel
theorem dX9_pin_15 : decode cX9_pin 15 = .ok (.iaload, 1) := by decide +kernel
theorem dX9_pin_16 : decode cX9_pin 16 = .ok (.invokestatic 65, 3) := by decide +kernel
theorem dX9_pin_19 : decode cX9_pin 19 = .ok (.ifCond .ne 5, 3) := by decide +kernel
theorem dX9_pin_22 : decode cX9_pin 22 = .ok (.iconst (-1), 1) := by decide +kernel
theorem dX9_pin_23 : decode cX9_pin 23 = .ok (.ireturn, 1) := by decide +kernel
theorem dX9_pin_24 : decode cX9_pin 24 = .ok (.iload_n 1, 1) := by decide +kernel
theorem dX9_pin_25 : decode cX9_pin 25 = .ok (.ifCond .eq 11, 3) := by decide +kernel
theorem dX9_pin_28 : decode cX9_pin 28 = .ok (.aload_n 0, 1) := by decide +kernel
theorem dX9_pin_29 : decode cX9_pin 29 = .ok (.iload_n 1, 1) := by decide +kernel
theorem dX9_pin_30 : decode cX9_pin 30 = .ok (.invokevirtual 103, 3) := by decide +kernel
theorem dX9_pin_33 : decode cX9_pin 33 = .ok (.ifCond .eq 6, 3) := by decide +kernel
theorem dX9_pin_36 : decode cX9_pin 36 = .ok (.bipush (-3), 2) := by decide +kernel
theorem dX9_pin_38 : decode cX9_pin 38 = .ok (.ireturn, 1) := by decide +kernel
theorem dX9_pin_39 : decode cX9_pin 39 = .ok (.aload_n 0, 1) := by decide +kernel
theorem dX9_pin_40 : decode cX9_pin 40 = .ok (.invokevirtual 69, 3) := by decide +kernel
theorem dX9_pin_43 : decode cX9_pin 43 = .ok (.aload_n 0, 1) := by decide +kernel
theorem dX9_pin_44 : decode cX9_pin 44 = .ok (.getfield 17, 3) := by decide +kernel
theorem dX9_pin_47 : decode cX9_pin 47 = .ok (.sipush 133, 3) := by decide +kernel
theorem dX9_pin_50 : decode cX9_pin 50 = .ok (.iload_n 1, 1) := by decide +kernel
theorem dX9_pin_51 : decode cX9_pin 51 = .ok (.iadd, 1) := by decide +kernel
theorem dX9_pin_52 : decode cX9_pin 52 = .ok (.iload_n 2, 1) := by decide +kernel
theorem dX9_pin_53 : decode cX9_pin 53 = .ok (.iconst 1, 1) := by decide +kernel
theorem dX9_pin_54 : decode cX9_pin 54 = .ok (.iadd, 1) := by decide +kernel
theorem dX9_pin_55 : decode cX9_pin 55 = .ok (.iastore, 1) := by decide +kernel
theorem dX9_pin_56 : decode cX9_pin 56 = .ok (.aload_n 0, 1) := by decide +kernel
theorem dX9_pin_57 : decode cX9_pin 57 = .ok (.iconst 5, 1) := by decide +kernel
theorem dX9_pin_58 : decode cX9_pin 58 = .ok (.iload_n 1, 1) := by decide +kernel
theorem dX9_pin_59 : decode cX9_pin 59 = .ok (.iload_n 2, 1) := by decide +kernel
theorem dX9_pin_60 : decode cX9_pin 60 = .ok (.aload_n 0, 1) := by decide +kernel
theorem dX9_pin_61 : decode cX9_pin 61 = .ok (.invokevirtual 165, 3) := by decide +kernel
theorem dX9_pin_64 : decode cX9_pin 64 = .ok (.invokevirtual 161, 3) := by decide +kernel
theorem dX9_pin_67 : decode cX9_pin 67 = .ok (.ireturn, 1) := by decide +kernel
theorem dX9_unpin_0 : decode cX9_unpin 0 = .ok (.aload_n 0, 1) := by decide +kernel
theorem dX9_unpin_1 : decode cX9_unpin 1 = .ok (.iload_n 1, 1) := by decide +kernel
theorem dX9_unpin_2 : decode cX9_unpin 2 = .ok (.invokevirtual 80, 3) := by decide +kernel
theorem dX9_unpin_5 : decode cX9_unpin 5 = .ok (.ifCond .ne 5, 3) := by decide +kernel
theorem dX9_unpin_8 : decode cX9_unpin 8 = .ok (.iconst (-1), 1) := by decide +kernel
theorem dX9_unpin_9 : decode cX9_unpin 9 = .ok (.ireturn, 1) := by decide +kernel
theorem dX9_unpin_10 : decode cX9_unpin 10 = .ok (.aload_n 0, 1) := by decide +kernel
theorem dX9_unpin_11 : decode cX9_unpin 11 = .ok (.iload_n 1, 1) := by decide +kernel
theorem dX9_unpin_12 : decode cX9_unpin 12 = .ok (.invokevirtual 103, 3) := by decide +kernel
theorem dX9_unpin_15 : decode cX9_unpin 15 = .ok (.ifCond .ne 6, 3) := by decide +kernel
theorem dX9_unpin_18 : decode cX9_unpin 18 = .ok (.bipush (-3), 2) := by decide +kernel
theorem dX9_unpin_20 : decode cX9_unpin 20 = .ok (.ireturn, 1) := by decide +kernel
theorem dX9_unpin_21 : decode cX9_unpin 21 = .ok (.aload_n 0, 1) := by decide +kernel
theorem dX9_unpin_22 : decode cX9_unpin 22 = .ok (.invokevirtual 69, 3) := by decide +kernel
theorem dX9_unpin_25 : decode cX9_unpin 25 = .ok (.aload_n 0, 1) := by decide +kernel
theorem dX9_unpin_26 : decode cX9_unpin 26 = .ok (.getfield 17, 3) := by decide +kernel
theorem dX9_unpin_29 : decode cX9_unpin 29 = .ok (.sipush 133, 3) := by decide +kernel
theorem dX9_unpin_32 : decode cX9_unpin 32 = .ok (.iload_n 1, 1) := by decide +kernel
theorem dX9_unpin_33 : decode cX9_unpin 33 = .ok (.iadd, 1) := by decide +kernel
theorem dX9_unpin_34 : decode cX9_unpin 34 = .ok (.iaload, 1) := by decide +kernel
theorem dX9_unpin_35 : decode cX9_unpin 35 = .ok (.iconst 1, 1) := by decide +kernel
theorem dX9_unpin_36 : decode cX9_unpin 36 = .ok (.isub, 1) := by decide +kernel
theorem dX9_unpin_37 : decode cX9_unpin 37 = .ok (.istore_n 2, 1) := by decide +kernel
theorem dX9_unpin_38 : decode cX9_unpin 38 = .ok (.aload_n 0, 1) := by decide +kernel
theorem dX9_unpin_39 : decode cX9_unpin 39 = .ok (.getfield 17, 3) := by decide +kernel
theorem dX9_unpin_42 : decode cX9_unpin 42 = .ok (.sipush 133, 3) := by decide +kernel
theorem dX9_unpin_45 : decode cX9_unpin 45 = .ok (.iload_n 1, 1) := by decide +kernel
theorem dX9_unpin_46 : decode cX9_unpin 46 = .ok (.iadd, 1) := by decide +kernel
theorem dX9_unpin_47 : decode cX9_unpin 47 = .ok (.iconst 0, 1) := by decide +kernel
theorem dX9_unpin_48 : decode cX9_unpin 48 = .ok (.iastore, 1) := by decide +kernel
theorem dX9_unpin_49 : decode cX9_unpin 49 = .ok (.aload_n 0, 1) := by decide +kernel
theorem dX9_unpin_50 : decode cX9_unpin 50 = .ok (.bipush 6, 2) := by decide +kernel
theorem dX9_unpin_52 : decode cX9_unpin 52 = .ok (.iload_n 1, 1) := by decide +kernel
theorem dX9_unpin_53 : decode cX9_unpin 53 = .ok (.iload_n 2, 1) := by decide +kernel
theorem dX9_unpin_54 : decode cX9_unpin 54 = .ok (.invokevirtual 140, 3) := by decide +kernel
theorem dX9_unpin_57 : decode cX9_unpin 57 = .ok (.aload_n 0, 1) := by decide +kernel
theorem dX9_unpin_58 : decode cX9_unpin 58 = .ok (.iload_n 2, 1) := by decide +kernel
theorem dX9_unpin_59 : decode cX9_unpin 59 = .ok (.invokevirtual 72, 3) := by decide +kernel
theorem dX9_unpin_62 : decode cX9_unpin 62 = .ok (.ireturn, 1) := by decide +kernel
theorem dX9_end_0 : decode cX9_end 0 = .ok (.iload_n 1, 1) := by decide +kernel
theorem dX9_end_1 : decode cX9_end 1 = .ok (.iconst 1, 1) := by decide +kernel
theorem dX9_end_2 : decode cX9_end 2 = .ok (.sipush 999, 3) := by decide +kernel
theorem dX9_end_5 : decode cX9_end 5 = .ok (.invokestatic 65, 3) := by decide +kernel
theorem dX9_end_8 : decode cX9_end 8 = .ok (.ifCond .ne 5, 3) := by decide +kernel
theorem dX9_end_11 : decode cX9_end 11 = .ok (.iconst (-1), 1) := by decide +kernel
theorem dX9_end_12 : decode cX9_end 12 = .ok (.ireturn, 1) := by decide +kernel
theorem dX9_end_13 : decode cX9_end 13 = .ok (.aload_n 0, 1) := by decide +kernel
theorem dX9_end_14 : decode cX9_end 14 = .ok (.getfield 17, 3) := by decide +kernel
theorem dX9_end_17 : decode cX9_end 17 = .ok (.iconst 0, 1) := by decide +kernel
theorem dX9_end_18 : decode cX9_end 18 = .ok (.iaload, 1) := by decide +kernel
theorem dX9_end_19 : decode cX9_end 19 = .ok (.istore_n 2, 1) := by decide +kernel
theorem dX9_end_20 : decode cX9_end 20 = .ok (.iload_n 2, 1) := by decide +kernel
theorem dX9_end_21 : decode cX9_end 21 = .ok (.iload_n 1, 1) := by decide +kernel
theorem dX9_end_22 : decode cX9_end 22 = .ok (.if_icmp .ne 6, 3) := by decide +kernel
theorem dX9_end_25 : decode cX9_end 25 = .ok (.bipush (-2), 2) := by decide +kernel
theorem dX9_end_27 : decode cX9_end 27 = .ok (.ireturn, 1) := by decide +kernel
theorem dX9_end_28 : decode cX9_end 28 = .ok (.aload_n 0, 1) := by decide +kernel
theorem dX9_end_29 : decode cX9_end 29 = .ok (.invokevirtual 69, 3) := by decide +kernel
theorem dX9_end_32 : decode cX9_end 32 = .ok (.aload_n 0, 1) := by decide +kernel
theorem dX9_end_33 : decode cX9_end 33 = .ok (.getfield 17, 3) := by decide +kernel
theorem dX9_end_36 : decode cX9_end 36 = .ok (.iconst 0, 1) := by decide +kernel
theorem dX9_end_37 : decode cX9_end 37 = .ok (.iload_n 1, 1) := by decide +kernel
theorem dX9_end_38 : decode cX9_end 38 = .ok (.iastore, 1) := by decide +kernel
theorem dX9_end_39 : decode cX9_end 39 = .ok (.aload_n 0, 1) := by decide +kernel
theorem dX9_end_40 : decode cX9_end 40 = .ok (.bipush 7, 2) := by decide +kernel
theorem dX9_end_42 : decode cX9_end 42 = .ok (.iload_n 1, 1) := by decide +kernel
theorem dX9_end_43 : decode cX9_end 43 = .ok (.iload_n 2, 1) := by decide +kernel
theorem dX9_end_44 : decode cX9_end 44 = .ok (.iload_n 2, 1) := by decide +kernel
theorem dX9_end_45 : decode cX9_end 45 = .ok (.invokevirtual 161, 3) := by decide +kernel
theorem dX9_end_48 : decode cX9_end 48 = .ok (.ireturn, 1) := by decide +kernel
theorem dX9_reverse_0 : decode cX9_reverse 0 = .ok (.aload_n 0, 1) := by decide +kernel
theorem dX9_reverse_1 : decode cX9_reverse 1 = .ok (.iload_n 1, 1) := by decide +kernel
theorem dX9_reverse_2 : decode cX9_reverse 2 = .ok (.invokevirtual 154, 3) := by decide +kernel
theorem dX9_reverse_5 : decode cX9_reverse 5 = .ok (.ifCond .ne 5, 3) := by decide +kernel
theorem dX9_reverse_8 : decode cX9_reverse 8 = .ok (.iconst (-1), 1) := by decide +kernel
theorem dX9_reverse_9 : decode cX9_reverse 9 = .ok (.ireturn, 1) := by decide +kernel
theorem dX9_reverse_10 : decode cX9_reverse 10 = .ok (.aload_n 0, 1) := by decide +kernel
theorem dX9_reverse_11 : decode cX9_reverse 11 = .ok (.invokevirtual 69, 3) := by decide +kernel
theorem dX9_reverse_14 : decode cX9_reverse 14 = .ok (.aload_n 0, 1) := by decide +kernel
theorem dX9_reverse_15 : decode cX9_reverse 15 = .ok (.iload_n 1, 1) := by decide +kernel
theorem dX9_reverse_16 : decode cX9_reverse 16 = .ok (.iconst 0, 1) := by decide +kernel
theorem dX9_reverse_17 : decode cX9_reverse 17 = .ok (.invokevirtual 76, 3) := by decide +kernel
theorem dX9_reverse_20 : decode cX9_reverse 20 = .ok (.istore_n 2, 1) := by decide +kernel
theorem dX9_reverse_21 : decode cX9_reverse 21 = .ok (.aload_n 0, 1) := by decide +kernel
theorem dX9_reverse_22 : decode cX9_reverse 22 = .ok (.iload_n 1, 1) := by decide +kernel
theorem dX9_reverse_23 : decode cX9_reverse 23 = .ok (.iconst 0, 1) := by decide +kernel
theorem dX9_reverse_24 : decode cX9_reverse 24 = .ok (.aload_n 0, 1) := by decide +kernel
theorem dX9_reverse_25 : decode cX9_reverse 25 = .ok (.iload_n 1, 1) := by decide +kernel
theorem dX9_reverse_26 : decode cX9_reverse 26 = .ok (.iconst 1, 1) := by decide +kernel
theorem dX9_reverse_27 : decode cX9_reverse 27 = .ok (.invokevirtual 76, 3) := by decide +kernel
theorem dX9_reverse_30 : decode cX9_reverse 30 = .ok (.invokevirtual 133, 3) := by decide +kernel
theorem dX9_reverse_33 : decode cX9_reverse 33 = .ok (.aload_n 0, 1) := by decide +kernel
theorem dX9_reverse_34 : decode cX9_reverse 34 = .ok (.iload_n 1, 1) := by decide +kernel
theorem dX9_reverse_35 : decode cX9_reverse 35 = .ok (.iconst 1, 1) := by decide +kernel
theorem dX9_reverse_36 : decode cX9_reverse 36 = .ok (.iload_n 2, 1) := by decide +kernel
theorem dX9_reverse_37 : decode cX9_reverse 37 = .ok (.invokevirtual 133, 3) := by decide +kernel
theorem dX9_reverse_40 : decode cX9_reverse 40 = .ok (.aload_n 0, 1) := by decide +kernel
theorem dX9_reverse_41 : decode cX9_reverse 41 = .ok (.bipush 10, 2) := by decide +kernel
theorem dX9_reverse_43 : decode cX9_reverse 43 = .ok (.iload_n 1, 1) := by decide +kernel
theorem dX9_reverse_44 : decode cX9_reverse 44 = .ok (.aload_n 0, 1) := by decide +kernel
theorem dX9_reverse_45 : decode cX9_reverse 45 = .ok (.iload_n 1, 1) := by decide +kernel
theorem dX9_reverse_46 : decode cX9_reverse 46 = .ok (.iconst 4, 1) := by decide +kernel
theorem dX9_reverse_47 : decode cX9_reverse 47 = .ok (.invokevirtual 76, 3) := by decide +kernel
theorem dX9_reverse_50 : decode cX9_reverse 50 = .ok (.aload_n 0, 1) := by decide +kernel
theorem dX9_reverse_51 : decode cX9_reverse 51 = .ok (.iload_n 1, 1) := by decide +kernel
theorem dX9_reverse_52 : decode cX9_reverse 52 = .ok (.iconst 4, 1) := by decide +kernel
theorem dX9_reverse_53 : decode cX9_reverse 53 = .ok (.invokevirtual 76, 3) := by decide +kernel
theorem dX9_reverse_56 : decode cX9_reverse 56 = .ok (.invokevirtual 161, 3) := by decide +kernel
theorem dX9_reverse_59 : decode cX9_reverse 59 = .ok (.ireturn, 1) := by decide +kernel
theorem dX9_tighten_0 : decode cX9_tighten 0 = .ok (.aload_n 0, 1) := by decide +kernel
theorem dX9_tighten_1 : decode cX9_tighten 1 = .ok (.invokevirtual 69, 3) := by decide +kernel
theorem dX9_tighten_4 : decode cX9_tighten 4 = .ok (.aload_n 0, 1) := by decide +kernel
theorem dX9_tighten_5 : decode cX9_tighten 5 = .ok (.invokevirtual 126, 3) := by decide +kernel
theorem dX9_tighten_8 : decode cX9_tighten 8 = .ok (.istore_n 1, 1) := by decide +kernel
theorem dX9_tighten_9 : decode cX9_tighten 9 = .ok (.iconst 0, 1) := by decide +kernel
theorem dX9_tighten_10 : decode cX9_tighten 10 = .ok (.istore_n 2, 1) := by decide +kernel
theorem dX9_tighten_11 : decode cX9_tighten 11 = .ok (.iconst 0, 1) := by decide +kernel
theorem dX9_tighten_12 : decode cX9_tighten 12 = .ok (.istore_n 3, 1) := by decide +kernel
theorem dX9_tighten_13 : decode cX9_tighten 13 = .ok (.iload_n 3, 1) := by decide +kernel
theorem dX9_tighten_14 : decode cX9_tighten 14 = .ok (.aload_n 0, 1) := by decide +kernel
theorem dX9_tighten_15 : decode cX9_tighten 15 = .ok (.getfield 17, 3) := by decide +kernel
theorem dX9_tighten_18 : decode cX9_tighten 18 = .ok (.iconst 2, 1) := by decide +kernel
theorem dX9_tighten_19 : decode cX9_tighten 19 = .ok (.iaload, 1) := by decide +kernel
theorem dX9_tighten_20 : decode cX9_tighten 20 = .ok (.if_icmp .ge 76, 3) := by decide +kernel
theorem dX9_tighten_23 : decode cX9_tighten 23 = .ok (.aload_n 0, 1) := by decide +kernel
theorem dX9_tighten_24 : decode cX9_tighten 24 = .ok (.aload_n 0, 1) := by decide +kernel
theorem dX9_tighten_25 : decode cX9_tighten 25 = .ok (.iload_n 3, 1) := by decide +kernel
theorem dX9_tighten_26 : decode cX9_tighten 26 = .ok (.invokevirtual 90, 3) := by decide +kernel
theorem dX9_tighten_29 : decode cX9_tighten 29 = .ok (.aload_n 0, 1) := by decide +kernel
theorem dX9_tighten_30 : decode cX9_tighten 30 = .ok (.iload_n 3, 1) := by decide +kernel
theorem dX9_tighten_31 : decode cX9_tighten 31 = .ok (.invokevirtual 93, 3) := by decide +kernel
theorem dX9_tighten_34 : decode cX9_tighten 34 = .ok (.invokevirtual 113, 3) := by decide +kernel
theorem dX9_tighten_37 : decode cX9_tighten 37 = .ok (.istore 4, 2) := by decide +kernel
theorem dX9_tighten_39 : decode cX9_tighten 39 = .ok (.aload_n 0, 1) := by decide +kernel
theorem dX9_tighten_40 : decode cX9_tighten 40 = .ok (.iload_n 3, 1) := by decide +kernel
theorem dX9_tighten_41 : decode cX9_tighten 41 = .ok (.iconst 2, 1) := by decide +kernel
theorem dX9_tighten_42 : decode cX9_tighten 42 = .ok (.invokevirtual 76, 3) := by decide +kernel
theorem dX9_tighten_45 : decode cX9_tighten 45 = .ok (.ifCond .ne 8, 3) := by decide +kernel
theorem dX9_tighten_48 : decode cX9_tighten 48 = .ok (.iload 4, 2) := by decide +kernel
theorem dX9_tighten_50 : decode cX9_tighten 50 = .ok (.goto 6, 3) := by decide +kernel
theorem dX9_tighten_53 : decode cX9_tighten 53 = .ok (.iload 4, 2) := by decide +kernel
theorem dX9_tighten_55 : decode cX9_tighten 55 = .ok (.ineg, 1) := by decide +kernel
theorem dX9_tighten_56 : decode cX9_tighten 56 = .ok (.istore 4, 2) := by decide +kernel
theorem dX9_tighten_58 : decode cX9_tighten 58 = .ok (.aload_n 0, 1) := by decide +kernel
theorem dX9_tighten_59 : decode cX9_tighten 59 = .ok (.iload_n 3, 1) := by decide +kernel
theorem dX9_tighten_60 : decode cX9_tighten 60 = .ok (.invokevirtual 87, 3) := by decide +kernel
theorem dX9_tighten_63 : decode cX9_tighten 63 = .ok (.ifCond .eq 27, 3) := by decide +kernel
theorem dX9_tighten_66 : decode cX9_tighten 66 = .ok (.aload_n 0, 1) := by decide +kernel
theorem dX9_tighten_67 : decode cX9_tighten 67 = .ok (.iload_n 3, 1) := by decide +kernel
theorem dX9_tighten_68 : decode cX9_tighten 68 = .ok (.invokevirtual 130, 3) := by decide +kernel
theorem dX9_tighten_71 : decode cX9_tighten 71 = .ok (.ifCond .ne 19, 3) := by decide +kernel
theorem dX9_tighten_74 : decode cX9_tighten 74 = .ok (.iload 4, 2) := by decide +kernel
theorem dX9_tighten_76 : decode cX9_tighten 76 = .ok (.ifCond .lt 14, 3) := by decide +kernel
theorem dX9_tighten_79 : decode cX9_tighten 79 = .ok (.aload_n 0, 1) := by decide +kernel
theorem dX9_tighten_80 : decode cX9_tighten 80 = .ok (.iload_n 3, 1) := by decide +kernel
theorem dX9_tighten_81 : decode cX9_tighten 81 = .ok (.iconst 3, 1) := by decide +kernel
theorem dX9_tighten_82 : decode cX9_tighten 82 = .ok (.iload 4, 2) := by decide +kernel
theorem dX9_tighten_84 : decode cX9_tighten 84 = .ok (.invokevirtual 133, 3) := by decide +kernel
theorem dX9_tighten_87 : decode cX9_tighten 87 = .ok (.iinc 2 1, 3) := by decide +kernel
theorem dX9_tighten_90 : decode cX9_tighten 90 = .ok (.iinc 3 1, 3) := by decide +kernel
theorem dX9_tighten_93 : decode cX9_tighten 93 = .ok (.goto (-80), 3) := by decide +kernel
theorem dX9_tighten_96 : decode cX9_tighten 96 = .ok (.iload_n 2, 1) := by decide +kernel
theorem dX9_tighten_97 : decode cX9_tighten 97 = .ok (.ifCond .ne 10, 3) := by decide +kernel
theorem dX9_tighten_100 : decode cX9_tighten 100 = .ok (.aload_n 0, 1) := by decide +kernel
theorem dX9_tighten_101 : decode cX9_tighten 101 = .ok (.bipush (-2), 2) := by decide +kernel
theorem dX9_tighten_103 : decode cX9_tighten 103 = .ok (.invokevirtual 137, 3) := by decide +kernel
theorem dX9_tighten_106 : decode cX9_tighten 106 = .ok (.ireturn, 1) := by decide +kernel
theorem dX9_tighten_107 : decode cX9_tighten 107 = .ok (.aload_n 0, 1) := by decide +kernel
theorem dX9_tighten_108 : decode cX9_tighten 108 = .ok (.invokevirtual 126, 3) := by decide +kernel
theorem dX9_tighten_111 : decode cX9_tighten 111 = .ok (.istore_n 1, 1) := by decide +kernel
theorem dX9_tighten_112 : decode cX9_tighten 112 = .ok (.aload_n 0, 1) := by decide +kernel
theorem dX9_tighten_113 : decode cX9_tighten 113 = .ok (.bipush 11, 2) := by decide +kernel
theorem dX9_tighten_115 : decode cX9_tighten 115 = .ok (.iload_n 2, 1) := by decide +kernel
theorem dX9_tighten_116 : decode cX9_tighten 116 = .ok (.aload_n 0, 1) := by decide +kernel
theorem dX9_tighten_117 : decode cX9_tighten 117 = .ok (.invokevirtual 169, 3) := by decide +kernel
theorem dX9_tighten_120 : decode cX9_tighten 120 = .ok (.invokevirtual 140, 3) := by decide +kernel
theorem dX9_tighten_123 : decode cX9_tighten 123 = .ok (.aload_n 0, 1) := by decide +kernel
theorem dX9_tighten_124 : decode cX9_tighten 124 = .ok (.iload_n 2, 1) := by decide +kernel
theorem dX9_tighten_125 : decode cX9_tighten 125 = .ok (.invokevirtual 72, 3) := by decide +kernel
theorem dX9_tighten_128 : decode cX9_tighten 128 = .ok (.ireturn, 1) := by decide +kernel
theorem dX9_firstNeedless_0 : decode cX9_firstNeedless 0 = .ok (.iconst 0, 1) := by decide +kernel
theorem dX9_firstNeedless_1 : decode cX9_firstNeedless 1 = .ok (.istore_n 1, 1) := by decide +kernel
theorem dX9_firstNeedless_2 : decode cX9_firstNeedless 2 = .ok (.iload_n 1, 1) := by decide +kernel
theorem dX9_firstNeedless_3 : decode cX9_firstNeedless 3 = .ok (.aload_n 0, 1) := by decide +kernel
theorem dX9_firstNeedless_4 : decode cX9_firstNeedless 4 = .ok (.getfield 17, 3) := by decide +kernel
theorem dX9_firstNeedless_7 : decode cX9_firstNeedless 7 = .ok (.iconst 2, 1) := by decide +kernel
theorem dX9_firstNeedless_8 : decode cX9_firstNeedless 8 = .ok (.iaload, 1) := by decide +kernel
theorem dX9_firstNeedless_9 : decode cX9_firstNeedless 9 = .ok (.if_icmp .ge 27, 3) := by decide +kernel
theorem dX9_firstNeedless_12 : decode cX9_firstNeedless 12 = .ok (.aload_n 0, 1) := by decide +kernel
theorem dX9_firstNeedless_13 : decode cX9_firstNeedless 13 = .ok (.iload_n 1, 1) := by decide +kernel
theorem dX9_firstNeedless_14 : decode cX9_firstNeedless 14 = .ok (.invokevirtual 87, 3) := by decide +kernel
theorem dX9_firstNeedless_17 : decode cX9_firstNeedless 17 = .ok (.ifCond .eq 13, 3) := by decide +kernel
theorem dX9_firstNeedless_20 : decode cX9_firstNeedless 20 = .ok (.aload_n 0, 1) := by decide +kernel
theorem dX9_firstNeedless_21 : decode cX9_firstNeedless 21 = .ok (.iload_n 1, 1) := by decide +kernel
theorem dX9_firstNeedless_22 : decode cX9_firstNeedless 22 = .ok (.invokevirtual 172, 3) := by decide +kernel
theorem dX9_firstNeedless_25 : decode cX9_firstNeedless 25 = .ok (.ifCond .ne 5, 3) := by decide +kernel
theorem dX9_firstNeedless_28 : decode cX9_firstNeedless 28 = .ok (.iload_n 1, 1) := by decide +kernel
theorem dX9_firstNeedless_29 : decode cX9_firstNeedless 29 = .ok (.ireturn, 1) := by decide +kernel
theorem dX9_firstNeedless_30 : decode cX9_firstNeedless 30 = .ok (.iinc 1 1, 3) := by decide +kernel
theorem dX9_firstNeedless_33 : decode cX9_firstNeedless 33 = .ok (.goto (-31), 3) := by decide +kernel
theorem dX9_firstNeedless_36 : decode cX9_firstNeedless 36 = .ok (.bipush (-2), 2) := by decide +kernel
theorem dX9_firstNeedless_38 : decode cX9_firstNeedless 38 = .ok (.ireturn, 1) := by decide +kernel
theorem dX9_thin_0 : decode cX9_thin 0 = .ok (.aload_n 0, 1) := by decide +kernel
theorem dX9_thin_1 : decode cX9_thin 1 = .ok (.invokevirtual 69, 3) := by decide +kernel
theorem dX9_thin_4 : decode cX9_thin 4 = .ok (.iconst 0, 1) := by decide +kernel
theorem dX9_thin_5 : decode cX9_thin 5 = .ok (.istore_n 1, 1) := by decide +kernel
theorem dX9_thin_6 : decode cX9_thin 6 = .ok (.aload_n 0, 1) := by decide +kernel
theorem dX9_thin_7 : decode cX9_thin 7 = .ok (.invokevirtual 175, 3) := by decide +kernel
theorem dX9_thin_10 : decode cX9_thin 10 = .ok (.istore_n 2, 1) := by decide +kernel
theorem dX9_thin_11 : decode cX9_thin 11 = .ok (.iload_n 2, 1) := by decide +kernel
theorem dX9_thin_12 : decode cX9_thin 12 = .ok (.ifCond .lt 19, 3) := by decide +kernel
theorem dX9_thin_15 : decode cX9_thin 15 = .ok (.aload_n 0, 1) := by decide +kernel
theorem dX9_thin_16 : decode cX9_thin 16 = .ok (.iload_n 2, 1) := by decide +kernel
theorem dX9_thin_17 : decode cX9_thin 17 = .ok (.invokevirtual 157, 3) := by decide +kernel
theorem dX9_thin_20 : decode cX9_thin 20 = .ok (.iinc 1 1, 3) := by decide +kernel
theorem dX9_thin_23 : decode cX9_thin 23 = .ok (.aload_n 0, 1) := by decide +kernel
theorem dX9_thin_24 : decode cX9_thin 24 = .ok (.invokevirtual 175, 3) := by decide +kernel
theorem dX9_thin_27 : decode cX9_thin 27 = .ok (.istore_n 2, 1) := by decide +kernel
theorem dX9_thin_28 : decode cX9_thin 28 = .ok (.goto (-17), 3) := by decide +kernel
theorem dX9_thin_31 : decode cX9_thin 31 = .ok (.iload_n 1, 1) := by decide +kernel
theorem dX9_thin_32 : decode cX9_thin 32 = .ok (.ifCond .ne 10, 3) := by decide +kernel
theorem dX9_thin_35 : decode cX9_thin 35 = .ok (.aload_n 0, 1) := by decide +kernel
theorem dX9_thin_36 : decode cX9_thin 36 = .ok (.bipush (-2), 2) := by decide +kernel
theorem dX9_thin_38 : decode cX9_thin 38 = .ok (.invokevirtual 137, 3) := by decide +kernel
theorem dX9_thin_41 : decode cX9_thin 41 = .ok (.ireturn, 1) := by decide +kernel
theorem dX9_thin_42 : decode cX9_thin 42 = .ok (.aload_n 0, 1) := by decide +kernel
theorem dX9_thin_43 : decode cX9_thin 43 = .ok (.bipush 12, 2) := by decide +kernel
theorem dX9_thin_45 : decode cX9_thin 45 = .ok (.iload_n 1, 1) := by decide +kernel
theorem dX9_thin_46 : decode cX9_thin 46 = .ok (.aload_n 0, 1) := by decide +kernel
theorem dX9_thin_47 : decode cX9_thin 47 = .ok (.getfield 17, 3) := by decide +kernel
theorem dX9_thin_50 : decode cX9_thin 50 = .ok (.iconst 2, 1) := by decide +kernel
theorem dX9_thin_51 : decode cX9_thin 51 = .ok (.iaload, 1) := by decide +kernel
theorem dX9_thin_52 : decode cX9_thin 52 = .ok (.invokevirtual 140, 3) := by decide +kernel
theorem dX9_thin_55 : decode cX9_thin 55 = .ok (.aload_n 0, 1) := by decide +kernel
theorem dX9_thin_56 : decode cX9_thin 56 = .ok (.iload_n 1, 1) := by decide +kernel
theorem dX9_thin_57 : decode cX9_thin 57 = .ok (.invokevirtual 72, 3) := by decide +kernel
theorem dX9_thin_60 : decode cX9_thin 60 = .ok (.ireturn, 1) := by decide +kernel
theorem dX9_pinAll_0 : decode cX9_pinAll 0 = .ok (.aload_n 0, 1) := by decide +kernel
theorem dX9_pinAll_1 : decode cX9_pinAll 1 = .ok (.invokevirtual 69, 3) := by decide +kernel
theorem dX9_pinAll_4 : decode cX9_pinAll 4 = .ok (.aload_n 0, 1) := by decide +kernel
theorem dX9_pinAll_5 : decode cX9_pinAll 5 = .ok (.invokevirtual 126, 3) := by decide +kernel
theorem dX9_pinAll_8 : decode cX9_pinAll 8 = .ok (.istore_n 1, 1) := by decide +kernel
theorem dX9_pinAll_9 : decode cX9_pinAll 9 = .ok (.iconst 0, 1) := by decide +kernel
theorem dX9_pinAll_10 : decode cX9_pinAll 10 = .ok (.istore_n 2, 1) := by decide +kernel
theorem dX9_pinAll_11 : decode cX9_pinAll 11 = .ok (.iconst 1, 1) := by decide +kernel
theorem dX9_pinAll_12 : decode cX9_pinAll 12 = .ok (.istore_n 3, 1) := by decide +kernel
theorem dX9_pinAll_13 : decode cX9_pinAll 13 = .ok (.iload_n 3, 1) := by decide +kernel
theorem dX9_pinAll_14 : decode cX9_pinAll 14 = .ok (.aload_n 0, 1) := by decide +kernel
theorem dX9_pinAll_15 : decode cX9_pinAll 15 = .ok (.getfield 17, 3) := by decide +kernel
theorem dX9_pinAll_18 : decode cX9_pinAll 18 = .ok (.iconst 1, 1) := by decide +kernel
theorem dX9_pinAll_19 : decode cX9_pinAll 19 = .ok (.iaload, 1) := by decide +kernel
theorem dX9_pinAll_20 : decode cX9_pinAll 20 = .ok (.if_icmp .ge 37, 3) := by decide +kernel
theorem dX9_pinAll_23 : decode cX9_pinAll 23 = .ok (.aload_n 0, 1) := by decide +kernel
theorem dX9_pinAll_24 : decode cX9_pinAll 24 = .ok (.iload_n 3, 1) := by decide +kernel
theorem dX9_pinAll_25 : decode cX9_pinAll 25 = .ok (.invokevirtual 103, 3) := by decide +kernel
theorem dX9_pinAll_28 : decode cX9_pinAll 28 = .ok (.ifCond .ne 23, 3) := by decide +kernel
theorem dX9_pinAll_31 : decode cX9_pinAll 31 = .ok (.aload_n 0, 1) := by decide +kernel
theorem dX9_pinAll_32 : decode cX9_pinAll 32 = .ok (.getfield 17, 3) := by decide +kernel
theorem dX9_pinAll_35 : decode cX9_pinAll 35 = .ok (.sipush 133, 3) := by decide +kernel
theorem dX9_pinAll_38 : decode cX9_pinAll 38 = .ok (.iload_n 3, 1) := by decide +kernel
theorem dX9_pinAll_39 : decode cX9_pinAll 39 = .ok (.iadd, 1) := by decide +kernel
theorem dX9_pinAll_40 : decode cX9_pinAll 40 = .ok (.aload_n 0, 1) := by decide +kernel
theorem dX9_pinAll_41 : decode cX9_pinAll 41 = .ok (.iload_n 3, 1) := by decide +kernel
theorem dX9_pinAll_42 : decode cX9_pinAll 42 = .ok (.invokevirtual 120, 3) := by decide +kernel
theorem dX9_pinAll_45 : decode cX9_pinAll 45 = .ok (.iconst 1, 1) := by decide +kernel
theorem dX9_pinAll_46 : decode cX9_pinAll 46 = .ok (.iadd, 1) := by decide +kernel
theorem dX9_pinAll_47 : decode cX9_pinAll 47 = .ok (.iastore, 1) := by decide +kernel
theorem dX9_pinAll_48 : decode cX9_pinAll 48 = .ok (.iinc 2 1, 3) := by decide +kernel
theorem dX9_pinAll_51 : decode cX9_pinAll 51 = .ok (.iinc 3 1, 3) := by decide +kernel
theorem dX9_pinAll_54 : decode cX9_pinAll 54 = .ok (.goto (-41), 3) := by decide +kernel
theorem dX9_pinAll_57 : decode cX9_pinAll 57 = .ok (.iload_n 2, 1) := by decide +kernel
theorem dX9_pinAll_58 : decode cX9_pinAll 58 = .ok (.ifCond .ne 10, 3) := by decide +kernel
theorem dX9_pinAll_61 : decode cX9_pinAll 61 = .ok (.aload_n 0, 1) := by decide +kernel
theorem dX9_pinAll_62 : decode cX9_pinAll 62 = .ok (.bipush (-2), 2) := by decide +kernel
theorem dX9_pinAll_64 : decode cX9_pinAll 64 = .ok (.invokevirtual 137, 3) := by decide +kernel
theorem dX9_pinAll_67 : decode cX9_pinAll 67 = .ok (.ireturn, 1) := by decide +kernel
theorem dX9_pinAll_68 : decode cX9_pinAll 68 = .ok (.aload_n 0, 1) := by decide +kernel
theorem dX9_pinAll_69 : decode cX9_pinAll 69 = .ok (.bipush 13, 2) := by decide +kernel
theorem dX9_pinAll_71 : decode cX9_pinAll 71 = .ok (.iload_n 2, 1) := by decide +kernel
theorem dX9_pinAll_72 : decode cX9_pinAll 72 = .ok (.aload_n 0, 1) := by decide +kernel
theorem dX9_pinAll_73 : decode cX9_pinAll 73 = .ok (.invokevirtual 165, 3) := by decide +kernel
theorem dX9_pinAll_76 : decode cX9_pinAll 76 = .ok (.invokevirtual 140, 3) := by decide +kernel
theorem dX9_pinAll_79 : decode cX9_pinAll 79 = .ok (.aload_n 0, 1) := by decide +kernel
theorem dX9_pinAll_80 : decode cX9_pinAll 80 = .ok (.iload_n 2, 1) := by decide +kernel
theorem dX9_pinAll_81 : decode cX9_pinAll 81 = .ok (.invokevirtual 72, 3) := by decide +kernel
theorem dX9_pinAll_84 : decode cX9_pinAll 84 = .ok (.ireturn, 1) := by decide +kernel
theorem dX9_isByte_0 : decode cX9_isByte 0 = .ok (.aload_n 0, 1) := by decide +kernel
theorem dX9_isByte_1 : decode cX9_isByte 1 = .ok (.getfield 178, 3) := by decide +kernel
theorem dX9_isByte_4 : decode cX9_isByte 4 = .ok (.aload_n 0, 1) := by decide +kernel
theorem dX9_isByte_5 : decode cX9_isByte 5 = .ok (.getfield 181, 3) := by decide +kernel
theorem dX9_isByte_8 : decode cX9_isByte 8 = .ok (.if_icmp .ge 33, 3) := by decide +kernel
theorem dX9_isByte_11 : decode cX9_isByte 11 = .ok (.aload_n 0, 1) := by decide +kernel
theorem dX9_isByte_12 : decode cX9_isByte 12 = .ok (.getfield 7, 3) := by decide +kernel
theorem dX9_isByte_15 : decode cX9_isByte 15 = .ok (.aload_n 0, 1) := by decide +kernel
theorem dX9_isByte_16 : decode cX9_isByte 16 = .ok (.getfield 178, 3) := by decide +kernel
theorem dX9_isByte_19 : decode cX9_isByte 19 = .ok (.baload, 1) := by decide +kernel
theorem dX9_isByte_20 : decode cX9_isByte 20 = .ok (.iload_n 1, 1) := by decide +kernel
theorem dX9_isByte_21 : decode cX9_isByte 21 = .ok (.if_icmp .lt 20, 3) := by decide +kernel
theorem dX9_isByte_24 : decode cX9_isByte 24 = .ok (.aload_n 0, 1) := by decide +kernel
theorem dX9_isByte_25 : decode cX9_isByte 25 = .ok (.getfield 7, 3) := by decide +kernel
theorem dX9_isByte_28 : decode cX9_isByte 28 = .ok (.aload_n 0, 1) := by decide +kernel
theorem dX9_isByte_29 : decode cX9_isByte 29 = .ok (.getfield 178, 3) := by decide +kernel
theorem dX9_isByte_32 : decode cX9_isByte 32 = .ok (.baload, 1) := by decide +kernel
theorem dX9_isByte_33 : decode cX9_isByte 33 = .ok (.iload_n 2, 1) := by decide +kernel
theorem dX9_isByte_34 : decode cX9_isByte 34 = .ok (.if_icmp .gt 7, 3) := by decide +kernel
theorem dX9_isByte_37 : decode cX9_isByte 37 = .ok (.iconst 1, 1) := by decide +kernel
theorem dX9_isByte_38 : decode cX9_isByte 38 = .ok (.goto 4, 3) := by decide +kernel
theorem dX9_isByte_41 : decode cX9_isByte 41 = .ok (.iconst 0, 1) := by decide +kernel
theorem dX9_isByte_42 : decode cX9_isByte 42 = .ok (.ireturn, 1) := by decide +kernel
theorem dX9_takesLetters_0 : decode cX9_takesLetters 0 = .ok (.aload_n 0, 1) := by decide +kernel
theorem dX9_takesLetters_1 : decode cX9_takesLetters 1 = .ok (.iconst 0, 1) := by decide +kernel
theorem dX9_takesLetters_2 : decode cX9_takesLetters 2 = .ok (.putfield 184, 3) := by decide +kernel
theorem dX9_takesLetters_5 : decode cX9_takesLetters 5 = .ok (.aload_n 0, 1) := by decide +kernel
theorem dX9_takesLetters_6 : decode cX9_takesLetters 6 = .ok (.bipush 97, 2) := by decide +kernel
theorem dX9_takesLetters_8 : decode cX9_takesLetters 8 = .ok (.bipush 122, 2) := by decide +kernel
theorem dX9_takesLetters_10 : decode cX9_takesLetters 10 = .ok (.invokevirtual 187, 3) := by decide +kernel
theorem dX9_takesLetters_13 : decode cX9_takesLetters 13 = .ok (.ifCond .eq 57, 3) := by decide +kernel
theorem dX9_takesLetters_16 : decode cX9_takesLetters 16 = .ok (.aload_n 0, 1) := by decide +kernel
theorem dX9_takesLetters_17 : decode cX9_takesLetters 17 = .ok (.aload_n 0, 1) := by decide +kernel
theorem dX9_takesLetters_18 : decode cX9_takesLetters 18 = .ok (.getfield 178, 3) := by decide +kernel
theorem dX9_takesLetters_21 : decode cX9_takesLetters 21 = .ok (.aload_n 0, 1) := by decide +kernel
theorem dX9_takesLetters_22 : decode cX9_takesLetters 22 = .ok (.getfield 190, 3) := by decide +kernel
theorem dX9_takesLetters_25 : decode cX9_takesLetters 25 = .ok (.isub, 1) := by decide +kernel
theorem dX9_takesLetters_26 : decode cX9_takesLetters 26 = .ok (.iconst 5, 1) := by decide +kernel
theorem dX9_takesLetters_27 : decode cX9_takesLetters 27 = .ok (.if_icmp .ge 26, 3) := by decide +kernel
theorem dX9_takesLetters_30 : decode cX9_takesLetters 30 = .ok (.bipush 32, 2) := by decide +kernel
theorem dX9_takesLetters_32 : decode cX9_takesLetters 32 = .ok (.aload_n 0, 1) := by decide +kernel
theorem dX9_takesLetters_33 : decode cX9_takesLetters 33 = .ok (.getfield 184, 3) := by decide +kernel
theorem dX9_takesLetters_36 : decode cX9_takesLetters 36 = .ok (.imul, 1) := by decide +kernel
theorem dX9_takesLetters_37 : decode cX9_takesLetters 37 = .ok (.aload_n 0, 1) := by decide +kernel
theorem dX9_takesLetters_38 : decode cX9_takesLetters 38 = .ok (.getfield 7, 3) := by decide +kernel
theorem dX9_takesLetters_41 : decode cX9_takesLetters 41 = .ok (.aload_n 0, 1) := by decide +kernel
theorem dX9_takesLetters_42 : decode cX9_takesLetters 42 = .ok (.getfield 178, 3) := by decide +kernel
theorem dX9_takesLetters_45 : decode cX9_takesLetters 45 = .ok (.baload, 1) := by decide +kernel
theorem dX9_takesLetters_46 : decode cX9_takesLetters 46 = .ok (.iadd, 1) := by decide +kernel
theorem dX9_takesLetters_47 : decode cX9_takesLetters 47 = .ok (.bipush 96, 2) := by decide +kernel
theorem dX9_takesLetters_49 : decode cX9_takesLetters 49 = .ok (.isub, 1) := by decide +kernel
theorem dX9_takesLetters_50 : decode cX9_takesLetters 50 = .ok (.goto 4, 3) := by decide +kernel
theorem dX9_takesLetters_53 : decode cX9_takesLetters 53 = .ok (.iconst 0, 1) := by decide +kernel
theorem dX9_takesLetters_54 : decode cX9_takesLetters 54 = .ok (.putfield 184, 3) := by decide +kernel
theorem dX9_takesLetters_57 : decode cX9_takesLetters 57 = .ok (.aload_n 0, 1) := by decide +kernel
theorem dX9_takesLetters_58 : decode cX9_takesLetters 58 = .ok (.dup, 1) := by decide +kernel
theorem dX9_takesLetters_59 : decode cX9_takesLetters 59 = .ok (.getfield 178, 3) := by decide +kernel
theorem dX9_takesLetters_62 : decode cX9_takesLetters 62 = .ok (.iconst 1, 1) := by decide +kernel
theorem dX9_takesLetters_63 : decode cX9_takesLetters 63 = .ok (.iadd, 1) := by decide +kernel
theorem dX9_takesLetters_64 : decode cX9_takesLetters 64 = .ok (.putfield 178, 3) := by decide +kernel
theorem dX9_takesLetters_67 : decode cX9_takesLetters 67 = .ok (.goto (-62), 3) := by decide +kernel
theorem dX9_takesLetters_70 : decode cX9_takesLetters 70 = .ok (.aload_n 0, 1) := by decide +kernel
theorem dX9_takesLetters_71 : decode cX9_takesLetters 71 = .ok (.aload_n 0, 1) := by decide +kernel
theorem dX9_takesLetters_72 : decode cX9_takesLetters 72 = .ok (.getfield 178, 3) := by decide +kernel
theorem dX9_takesLetters_75 : decode cX9_takesLetters 75 = .ok (.aload_n 0, 1) := by decide +kernel
theorem dX9_takesLetters_76 : decode cX9_takesLetters 76 = .ok (.getfield 190, 3) := by decide +kernel
theorem dX9_takesLetters_79 : decode cX9_takesLetters 79 = .ok (.isub, 1) := by decide +kernel
theorem dX9_takesLetters_80 : decode cX9_takesLetters 80 = .ok (.iconst 5, 1) := by decide +kernel
theorem dX9_takesLetters_81 : decode cX9_takesLetters 81 = .ok (.if_icmp .le 7, 3) := by decide +kernel
theorem dX9_takesLetters_84 : decode cX9_takesLetters 84 = .ok (.iconst 0, 1) := by decide +kernel
theorem dX9_takesLetters_85 : decode cX9_takesLetters 85 = .ok (.goto 7, 3) := by decide +kernel
theorem dX9_takesLetters_88 : decode cX9_takesLetters 88 = .ok (.aload_n 0, 1) := by decide +kernel
theorem dX9_takesLetters_89 : decode cX9_takesLetters 89 = .ok (.getfield 184, 3) := by decide +kernel
theorem dX9_takesLetters_92 : decode cX9_takesLetters 92 = .ok (.putfield 184, 3) := by decide +kernel
theorem dX9_takesLetters_95 : decode cX9_takesLetters 95 = .ok (.aload_n 0, 1) := by decide +kernel
theorem dX9_takesLetters_96 : decode cX9_takesLetters 96 = .ok (.iconst 1, 1) := by decide +kernel
theorem dX9_takesLetters_97 : decode cX9_takesLetters 97 = .ok (.putfield 193, 3) := by decide +kernel
theorem dX9_takesLetters_100 : decode cX9_takesLetters 100 = .ok (.return_, 1) := by decide +kernel
theorem dX9_takesDigits_0 : decode cX9_takesDigits 0 = .ok (.aload_n 0, 1) := by decide +kernel
theorem dX9_takesDigits_1 : decode cX9_takesDigits 1 = .ok (.iconst 0, 1) := by decide +kernel
theorem dX9_takesDigits_2 : decode cX9_takesDigits 2 = .ok (.putfield 196, 3) := by decide +kernel
theorem dX9_takesDigits_5 : decode cX9_takesDigits 5 = .ok (.aload_n 0, 1) := by decide +kernel
theorem dX9_takesDigits_6 : decode cX9_takesDigits 6 = .ok (.bipush 48, 2) := by decide +kernel
theorem dX9_takesDigits_8 : decode cX9_takesDigits 8 = .ok (.bipush 57, 2) := by decide +kernel
theorem dX9_takesDigits_10 : decode cX9_takesDigits 10 = .ok (.invokevirtual 187, 3) := by decide +kernel
theorem dX9_takesDigits_13 : decode cX9_takesDigits 13 = .ok (.ifCond .eq 60, 3) := by decide +kernel
theorem dX9_takesDigits_16 : decode cX9_takesDigits 16 = .ok (.aload_n 0, 1) := by decide +kernel
theorem dX9_takesDigits_17 : decode cX9_takesDigits 17 = .ok (.aload_n 0, 1) := by decide +kernel
theorem dX9_takesDigits_18 : decode cX9_takesDigits 18 = .ok (.getfield 178, 3) := by decide +kernel
theorem dX9_takesDigits_21 : decode cX9_takesDigits 21 = .ok (.aload_n 0, 1) := by decide +kernel
theorem dX9_takesDigits_22 : decode cX9_takesDigits 22 = .ok (.getfield 190, 3) := by decide +kernel
theorem dX9_takesDigits_25 : decode cX9_takesDigits 25 = .ok (.isub, 1) := by decide +kernel
theorem dX9_takesDigits_26 : decode cX9_takesDigits 26 = .ok (.iconst 3, 1) := by decide +kernel
theorem dX9_takesDigits_27 : decode cX9_takesDigits 27 = .ok (.if_icmp .ge 26, 3) := by decide +kernel
theorem dX9_takesDigits_30 : decode cX9_takesDigits 30 = .ok (.bipush 10, 2) := by decide +kernel
theorem dX9_takesDigits_32 : decode cX9_takesDigits 32 = .ok (.aload_n 0, 1) := by decide +kernel
theorem dX9_takesDigits_33 : decode cX9_takesDigits 33 = .ok (.getfield 196, 3) := by decide +kernel
theorem dX9_takesDigits_36 : decode cX9_takesDigits 36 = .ok (.imul, 1) := by decide +kernel
theorem dX9_takesDigits_37 : decode cX9_takesDigits 37 = .ok (.aload_n 0, 1) := by decide +kernel
theorem dX9_takesDigits_38 : decode cX9_takesDigits 38 = .ok (.getfield 7, 3) := by decide +kernel
theorem dX9_takesDigits_41 : decode cX9_takesDigits 41 = .ok (.aload_n 0, 1) := by decide +kernel
theorem dX9_takesDigits_42 : decode cX9_takesDigits 42 = .ok (.getfield 178, 3) := by decide +kernel
theorem dX9_takesDigits_45 : decode cX9_takesDigits 45 = .ok (.baload, 1) := by decide +kernel
theorem dX9_takesDigits_46 : decode cX9_takesDigits 46 = .ok (.iadd, 1) := by decide +kernel
theorem dX9_takesDigits_47 : decode cX9_takesDigits 47 = .ok (.bipush 48, 2) := by decide +kernel
theorem dX9_takesDigits_49 : decode cX9_takesDigits 49 = .ok (.isub, 1) := by decide +kernel
theorem dX9_takesDigits_50 : decode cX9_takesDigits 50 = .ok (.goto 7, 3) := by decide +kernel
theorem dX9_takesDigits_53 : decode cX9_takesDigits 53 = .ok (.aload_n 0, 1) := by decide +kernel
theorem dX9_takesDigits_54 : decode cX9_takesDigits 54 = .ok (.getfield 196, 3) := by decide +kernel
theorem dX9_takesDigits_57 : decode cX9_takesDigits 57 = .ok (.putfield 196, 3) := by decide +kernel
theorem dX9_takesDigits_60 : decode cX9_takesDigits 60 = .ok (.aload_n 0, 1) := by decide +kernel
theorem dX9_takesDigits_61 : decode cX9_takesDigits 61 = .ok (.dup, 1) := by decide +kernel
theorem dX9_takesDigits_62 : decode cX9_takesDigits 62 = .ok (.getfield 178, 3) := by decide +kernel
theorem dX9_takesDigits_65 : decode cX9_takesDigits 65 = .ok (.iconst 1, 1) := by decide +kernel
theorem dX9_takesDigits_66 : decode cX9_takesDigits 66 = .ok (.iadd, 1) := by decide +kernel
theorem dX9_takesDigits_67 : decode cX9_takesDigits 67 = .ok (.putfield 178, 3) := by decide +kernel
theorem dX9_takesDigits_70 : decode cX9_takesDigits 70 = .ok (.goto (-65), 3) := by decide +kernel
theorem dX9_takesDigits_73 : decode cX9_takesDigits 73 = .ok (.aload_n 0, 1) := by decide +kernel
theorem dX9_takesDigits_74 : decode cX9_takesDigits 74 = .ok (.aload_n 0, 1) := by decide +kernel
theorem dX9_takesDigits_75 : decode cX9_takesDigits 75 = .ok (.getfield 178, 3) := by decide +kernel
theorem dX9_takesDigits_78 : decode cX9_takesDigits 78 = .ok (.aload_n 0, 1) := by decide +kernel
theorem dX9_takesDigits_79 : decode cX9_takesDigits 79 = .ok (.getfield 190, 3) := by decide +kernel
theorem dX9_takesDigits_82 : decode cX9_takesDigits 82 = .ok (.isub, 1) := by decide +kernel
theorem dX9_takesDigits_83 : decode cX9_takesDigits 83 = .ok (.iconst 3, 1) := by decide +kernel
theorem dX9_takesDigits_84 : decode cX9_takesDigits 84 = .ok (.if_icmp .le 7, 3) := by decide +kernel
theorem dX9_takesDigits_87 : decode cX9_takesDigits 87 = .ok (.iconst 4, 1) := by decide +kernel
theorem dX9_takesDigits_88 : decode cX9_takesDigits 88 = .ok (.goto 4, 3) := by decide +kernel
theorem dX9_takesDigits_91 : decode cX9_takesDigits 91 = .ok (.iconst 2, 1) := by decide +kernel
theorem dX9_takesDigits_92 : decode cX9_takesDigits 92 = .ok (.putfield 193, 3) := by decide +kernel
theorem dX9_takesDigits_95 : decode cX9_takesDigits 95 = .ok (.return_, 1) := by decide +kernel
theorem dX9_nextToken_0 : decode cX9_nextToken 0 = .ok (.aload_n 0, 1) := by decide +kernel
theorem dX9_nextToken_1 : decode cX9_nextToken 1 = .ok (.getfield 178, 3) := by decide +kernel
theorem dX9_nextToken_4 : decode cX9_nextToken 4 = .ok (.aload_n 0, 1) := by decide +kernel
theorem dX9_nextToken_5 : decode cX9_nextToken 5 = .ok (.getfield 181, 3) := by decide +kernel
theorem dX9_nextToken_8 : decode cX9_nextToken 8 = .ok (.if_icmp .ge 44, 3) := by decide +kernel
theorem dX9_nextToken_11 : decode cX9_nextToken 11 = .ok (.aload_n 0, 1) := by decide +kernel
theorem dX9_nextToken_12 : decode cX9_nextToken 12 = .ok (.getfield 7, 3) := by decide +kernel
theorem dX9_nextToken_15 : decode cX9_nextToken 15 = .ok (.aload_n 0, 1) := by decide +kernel
theorem dX9_nextToken_16 : decode cX9_nextToken 16 = .ok (.getfield 178, 3) := by decide +kernel
theorem dX9_nextToken_19 : decode cX9_nextToken 19 = .ok (.baload, 1) := by decide +kernel
theorem dX9_nextToken_20 : decode cX9_nextToken 20 = .ok (.bipush 32, 2) := by decide +kernel
theorem dX9_nextToken_22 : decode cX9_nextToken 22 = .ok (.if_icmp .eq 17, 3) := by decide +kernel
theorem dX9_nextToken_25 : decode cX9_nextToken 25 = .ok (.aload_n 0, 1) := by decide +kernel
theorem dX9_nextToken_26 : decode cX9_nextToken 26 = .ok (.getfield 7, 3) := by decide +kernel
theorem dX9_nextToken_29 : decode cX9_nextToken 29 = .ok (.aload_n 0, 1) := by decide +kernel
theorem dX9_nextToken_30 : decode cX9_nextToken 30 = .ok (.getfield 178, 3) := by decide +kernel
theorem dX9_nextToken_33 : decode cX9_nextToken 33 = .ok (.baload, 1) := by decide +kernel
theorem dX9_nextToken_34 : decode cX9_nextToken 34 = .ok (.bipush 10, 2) := by decide +kernel
theorem dX9_nextToken_36 : decode cX9_nextToken 36 = .ok (.if_icmp .ne 16, 3) := by decide +kernel
theorem dX9_nextToken_39 : decode cX9_nextToken 39 = .ok (.aload_n 0, 1) := by decide +kernel
theorem dX9_nextToken_40 : decode cX9_nextToken 40 = .ok (.dup, 1) := by decide +kernel
theorem dX9_nextToken_41 : decode cX9_nextToken 41 = .ok (.getfield 178, 3) := by decide +kernel
theorem dX9_nextToken_44 : decode cX9_nextToken 44 = .ok (.iconst 1, 1) := by decide +kernel
theorem dX9_nextToken_45 : decode cX9_nextToken 45 = .ok (.iadd, 1) := by decide +kernel
theorem dX9_nextToken_46 : decode cX9_nextToken 46 = .ok (.putfield 178, 3) := by decide +kernel
theorem dX9_nextToken_49 : decode cX9_nextToken 49 = .ok (.goto (-49), 3) := by decide +kernel
theorem dX9_nextToken_52 : decode cX9_nextToken 52 = .ok (.aload_n 0, 1) := by decide +kernel
theorem dX9_nextToken_53 : decode cX9_nextToken 53 = .ok (.aload_n 0, 1) := by decide +kernel
theorem dX9_nextToken_54 : decode cX9_nextToken 54 = .ok (.getfield 178, 3) := by decide +kernel
theorem dX9_nextToken_57 : decode cX9_nextToken 57 = .ok (.putfield 190, 3) := by decide +kernel
theorem dX9_nextToken_60 : decode cX9_nextToken 60 = .ok (.aload_n 0, 1) := by decide +kernel
theorem dX9_nextToken_61 : decode cX9_nextToken 61 = .ok (.getfield 178, 3) := by decide +kernel
theorem dX9_nextToken_64 : decode cX9_nextToken 64 = .ok (.aload_n 0, 1) := by decide +kernel
theorem dX9_nextToken_65 : decode cX9_nextToken 65 = .ok (.getfield 181, 3) := by decide +kernel
theorem dX9_nextToken_68 : decode cX9_nextToken 68 = .ok (.if_icmp .ne 11, 3) := by decide +kernel
theorem dX9_nextToken_71 : decode cX9_nextToken 71 = .ok (.aload_n 0, 1) := by decide +kernel
theorem dX9_nextToken_72 : decode cX9_nextToken 72 = .ok (.iconst 0, 1) := by decide +kernel
theorem dX9_nextToken_73 : decode cX9_nextToken 73 = .ok (.putfield 193, 3) := by decide +kernel
theorem dX9_nextToken_76 : decode cX9_nextToken 76 = .ok (.goto 72, 3) := by decide +kernel
theorem dX9_nextToken_79 : decode cX9_nextToken 79 = .ok (.aload_n 0, 1) := by decide +kernel
theorem dX9_nextToken_80 : decode cX9_nextToken 80 = .ok (.bipush 97, 2) := by decide +kernel
theorem dX9_nextToken_82 : decode cX9_nextToken 82 = .ok (.bipush 122, 2) := by decide +kernel
theorem dX9_nextToken_84 : decode cX9_nextToken 84 = .ok (.invokevirtual 187, 3) := by decide +kernel
theorem dX9_nextToken_87 : decode cX9_nextToken 87 = .ok (.ifCond .eq 10, 3) := by decide +kernel
theorem dX9_nextToken_90 : decode cX9_nextToken 90 = .ok (.aload_n 0, 1) := by decide +kernel
theorem dX9_nextToken_91 : decode cX9_nextToken 91 = .ok (.invokevirtual 199, 3) := by decide +kernel
theorem dX9_nextToken_94 : decode cX9_nextToken 94 = .ok (.goto 54, 3) := by decide +kernel
theorem dX9_nextToken_97 : decode cX9_nextToken 97 = .ok (.aload_n 0, 1) := by decide +kernel
theorem dX9_nextToken_98 : decode cX9_nextToken 98 = .ok (.bipush 48, 2) := by decide +kernel
theorem dX9_nextToken_100 : decode cX9_nextToken 100 = .ok (.bipush 57, 2) := by decide +kernel
theorem dX9_nextToken_102 : decode cX9_nextToken 102 = .ok (.invokevirtual 187, 3) := by decide +kernel
theorem dX9_nextToken_105 : decode cX9_nextToken 105 = .ok (.ifCond .eq 10, 3) := by decide +kernel
theorem dX9_nextToken_108 : decode cX9_nextToken 108 = .ok (.aload_n 0, 1) := by decide +kernel
theorem dX9_nextToken_109 : decode cX9_nextToken 109 = .ok (.invokevirtual 202, 3) := by decide +kernel
theorem dX9_nextToken_112 : decode cX9_nextToken 112 = .ok (.goto 36, 3) := by decide +kernel
theorem dX9_nextToken_115 : decode cX9_nextToken 115 = .ok (.aload_n 0, 1) := by decide +kernel
theorem dX9_nextToken_116 : decode cX9_nextToken 116 = .ok (.aload_n 0, 1) := by decide +kernel
theorem dX9_nextToken_117 : decode cX9_nextToken 117 = .ok (.getfield 7, 3) := by decide +kernel
theorem dX9_nextToken_120 : decode cX9_nextToken 120 = .ok (.aload_n 0, 1) := by decide +kernel
theorem dX9_nextToken_121 : decode cX9_nextToken 121 = .ok (.getfield 178, 3) := by decide +kernel
theorem dX9_nextToken_124 : decode cX9_nextToken 124 = .ok (.baload, 1) := by decide +kernel
theorem dX9_nextToken_125 : decode cX9_nextToken 125 = .ok (.bipush 59, 2) := by decide +kernel
theorem dX9_nextToken_127 : decode cX9_nextToken 127 = .ok (.if_icmp .ne 7, 3) := by decide +kernel
theorem dX9_nextToken_130 : decode cX9_nextToken 130 = .ok (.iconst 3, 1) := by decide +kernel
theorem dX9_nextToken_131 : decode cX9_nextToken 131 = .ok (.goto 4, 3) := by decide +kernel
theorem dX9_nextToken_134 : decode cX9_nextToken 134 = .ok (.iconst 4, 1) := by decide +kernel
theorem dX9_nextToken_135 : decode cX9_nextToken 135 = .ok (.putfield 193, 3) := by decide +kernel
theorem dX9_nextToken_138 : decode cX9_nextToken 138 = .ok (.aload_n 0, 1) := by decide +kernel
theorem dX9_nextToken_139 : decode cX9_nextToken 139 = .ok (.dup, 1) := by decide +kernel
theorem dX9_nextToken_140 : decode cX9_nextToken 140 = .ok (.getfield 178, 3) := by decide +kernel
theorem dX9_nextToken_143 : decode cX9_nextToken 143 = .ok (.iconst 1, 1) := by decide +kernel
theorem dX9_nextToken_144 : decode cX9_nextToken 144 = .ok (.iadd, 1) := by decide +kernel
theorem dX9_nextToken_145 : decode cX9_nextToken 145 = .ok (.putfield 178, 3) := by decide +kernel
theorem dX9_nextToken_148 : decode cX9_nextToken 148 = .ok (.return_, 1) := by decide +kernel
theorem dX9_takes_0 : decode cX9_takes 0 = .ok (.aload_n 0, 1) := by decide +kernel
theorem dX9_takes_1 : decode cX9_takes 1 = .ok (.getfield 205, 3) := by decide +kernel
theorem dX9_takes_4 : decode cX9_takes 4 = .ok (.ifCond .eq 20, 3) := by decide +kernel
theorem dX9_takes_7 : decode cX9_takes 7 = .ok (.iload_n 1, 1) := by decide +kernel
theorem dX9_takes_8 : decode cX9_takes 8 = .ok (.ifCond .ne 16, 3) := by decide +kernel
theorem dX9_takes_11 : decode cX9_takes 11 = .ok (.aload_n 0, 1) := by decide +kernel
theorem dX9_takes_12 : decode cX9_takes 12 = .ok (.iconst 0, 1) := by decide +kernel
theorem dX9_takes_13 : decode cX9_takes 13 = .ok (.putfield 205, 3) := by decide +kernel
theorem dX9_takes_16 : decode cX9_takes 16 = .ok (.aload_n 0, 1) := by decide +kernel
theorem dX9_takes_17 : decode cX9_takes 17 = .ok (.aload_n 0, 1) := by decide +kernel
theorem dX9_takes_18 : decode cX9_takes 18 = .ok (.getfield 190, 3) := by decide +kernel
theorem dX9_takes_21 : decode cX9_takes 21 = .ok (.putfield 13, 3) := by decide +kernel
theorem dX9_takes_24 : decode cX9_takes 24 = .ok (.aload_n 0, 1) := by decide +kernel
theorem dX9_takes_25 : decode cX9_takes 25 = .ok (.getfield 205, 3) := by decide +kernel
theorem dX9_takes_28 : decode cX9_takes 28 = .ok (.ifCond .eq 7, 3) := by decide +kernel
theorem dX9_takes_31 : decode cX9_takes 31 = .ok (.aload_n 0, 1) := by decide +kernel
theorem dX9_takes_32 : decode cX9_takes 32 = .ok (.invokevirtual 209, 3) := by decide +kernel
theorem dX9_takes_35 : decode cX9_takes 35 = .ok (.return_, 1) := by decide +kernel
theorem dX9_isKey_0 : decode cX9_isKey 0 = .ok (.aload_n 0, 1) := by decide +kernel
theorem dX9_isKey_1 : decode cX9_isKey 1 = .ok (.getfield 205, 3) := by decide +kernel
theorem dX9_isKey_4 : decode cX9_isKey 4 = .ok (.ifCond .eq 23, 3) := by decide +kernel
theorem dX9_isKey_7 : decode cX9_isKey 7 = .ok (.aload_n 0, 1) := by decide +kernel
theorem dX9_isKey_8 : decode cX9_isKey 8 = .ok (.getfield 193, 3) := by decide +kernel
theorem dX9_isKey_11 : decode cX9_isKey 11 = .ok (.iconst 1, 1) := by decide +kernel
theorem dX9_isKey_12 : decode cX9_isKey 12 = .ok (.if_icmp .ne 15, 3) := by decide +kernel
theorem dX9_isKey_15 : decode cX9_isKey 15 = .ok (.aload_n 0, 1) := by decide +kernel
theorem dX9_isKey_16 : decode cX9_isKey 16 = .ok (.getfield 184, 3) := by decide +kernel
theorem dX9_isKey_19 : decode cX9_isKey 19 = .ok (.iload_n 1, 1) := by decide +kernel
theorem dX9_isKey_20 : decode cX9_isKey 20 = .ok (.if_icmp .ne 7, 3) := by decide +kernel
theorem dX9_isKey_23 : decode cX9_isKey 23 = .ok (.iconst 1, 1) := by decide +kernel
theorem dX9_isKey_24 : decode cX9_isKey 24 = .ok (.goto 4, 3) := by decide +kernel
theorem dX9_isKey_27 : decode cX9_isKey 27 = .ok (.iconst 0, 1) := by decide +kernel
theorem dX9_isKey_28 : decode cX9_isKey 28 = .ok (.ireturn, 1) := by decide +kernel
theorem dX9_isKeyword_0 : decode cX9_isKeyword 0 = .ok (.iload_n 0, 1) := by decide +kernel
theorem dX9_isKeyword_1 : decode cX9_isKeyword 1 = .ok (.lookupswitch 77 #[(5572, 75), (7216, 75), (15558, 75), (16686, 75), (441972, 75), (5969364, 75), (12748404, 75), (20579924, 75)], 75) := by decide +kernel
theorem dX9_isKeyword_76 : decode cX9_isKeyword 76 = .ok (.iconst 1, 1) := by decide +kernel
theorem dX9_isKeyword_77 : decode cX9_isKeyword 77 = .ok (.ireturn, 1) := by decide +kernel
theorem dX9_isKeyword_78 : decode cX9_isKeyword 78 = .ok (.iconst 0, 1) := by decide +kernel
theorem dX9_isKeyword_79 : decode cX9_isKeyword 79 = .ok (.ireturn, 1) := by decide +kernel
theorem dX9_isName_0 : decode cX9_isName 0 = .ok (.iload_n 0, 1) := by decide +kernel
theorem dX9_isName_1 : decode cX9_isName 1 = .ok (.ifCond .le 14, 3) := by decide +kernel
theorem dX9_isName_4 : decode cX9_isName 4 = .ok (.iload_n 0, 1) := by decide +kernel
theorem dX9_isName_5 : decode cX9_isName 5 = .ok (.invokestatic 212, 3) := by decide +kernel
theorem dX9_isName_8 : decode cX9_isName 8 = .ok (.ifCond .ne 7, 3) := by decide +kernel
theorem dX9_isName_11 : decode cX9_isName 11 = .ok (.iconst 1, 1) := by decide +kernel
theorem dX9_isName_12 : decode cX9_isName 12 = .ok (.goto 4, 3) := by decide +kernel
theorem dX9_isName_15 : decode cX9_isName 15 = .ok (.iconst 0, 1) := by decide +kernel
theorem dX9_isName_16 : decode cX9_isName 16 = .ok (.ireturn, 1) := by decide +kernel
theorem dX9_named_0 : decode cX9_named 0 = .ok (.iconst 0, 1) := by decide +kernel
theorem dX9_named_1 : decode cX9_named 1 = .ok (.istore_n 2, 1) := by decide +kernel
theorem dX9_named_2 : decode cX9_named 2 = .ok (.iload_n 2, 1) := by decide +kernel
theorem dX9_named_3 : decode cX9_named 3 = .ok (.aload_n 0, 1) := by decide +kernel
theorem dX9_named_4 : decode cX9_named 4 = .ok (.getfield 17, 3) := by decide +kernel
theorem dX9_named_7 : decode cX9_named 7 = .ok (.iconst 1, 1) := by decide +kernel
theorem dX9_named_8 : decode cX9_named 8 = .ok (.iaload, 1) := by decide +kernel
theorem dX9_named_9 : decode cX9_named 9 = .ok (.if_icmp .ge 27, 3) := by decide +kernel
theorem dX9_named_12 : decode cX9_named 12 = .ok (.iload_n 1, 1) := by decide +kernel
theorem dX9_named_13 : decode cX9_named 13 = .ok (.ifCond .le 17, 3) := by decide +kernel
theorem dX9_named_16 : decode cX9_named 16 = .ok (.aload_n 0, 1) := by decide +kernel
theorem dX9_named_17 : decode cX9_named 17 = .ok (.getfield 17, 3) := by decide +kernel
theorem dX9_named_20 : decode cX9_named 20 = .ok (.iconst 3, 1) := by decide +kernel
theorem dX9_named_21 : decode cX9_named 21 = .ok (.iload_n 2, 1) := by decide +kernel
theorem dX9_named_22 : decode cX9_named 22 = .ok (.iadd, 1) := by decide +kernel
theorem dX9_named_23 : decode cX9_named 23 = .ok (.iaload, 1) := by decide +kernel
theorem dX9_named_24 : decode cX9_named 24 = .ok (.iload_n 1, 1) := by decide +kernel
theorem dX9_named_25 : decode cX9_named 25 = .ok (.if_icmp .ne 5, 3) := by decide +kernel
theorem dX9_named_28 : decode cX9_named 28 = .ok (.iload_n 2, 1) := by decide +kernel
theorem dX9_named_29 : decode cX9_named 29 = .ok (.ireturn, 1) := by decide +kernel
theorem dX9_named_30 : decode cX9_named 30 = .ok (.iinc 2 1, 3) := by decide +kernel
theorem dX9_named_33 : decode cX9_named 33 = .ok (.goto (-31), 3) := by decide +kernel
theorem dX9_named_36 : decode cX9_named 36 = .ok (.bipush (-2), 2) := by decide +kernel
theorem dX9_named_38 : decode cX9_named 38 = .ok (.ireturn, 1) := by decide +kernel
theorem dX9_numberIn_0 : decode cX9_numberIn 0 = .ok (.aload_n 0, 1) := by decide +kernel
theorem dX9_numberIn_1 : decode cX9_numberIn 1 = .ok (.getfield 196, 3) := by decide +kernel
theorem dX9_numberIn_4 : decode cX9_numberIn 4 = .ok (.istore_n 3, 1) := by decide +kernel
theorem dX9_numberIn_5 : decode cX9_numberIn 5 = .ok (.aload_n 0, 1) := by decide +kernel
theorem dX9_numberIn_6 : decode cX9_numberIn 6 = .ok (.aload_n 0, 1) := by decide +kernel
theorem dX9_numberIn_7 : decode cX9_numberIn 7 = .ok (.getfield 205, 3) := by decide +kernel
theorem dX9_numberIn_10 : decode cX9_numberIn 10 = .ok (.ifCond .eq 24, 3) := by decide +kernel
theorem dX9_numberIn_13 : decode cX9_numberIn 13 = .ok (.aload_n 0, 1) := by decide +kernel
theorem dX9_numberIn_14 : decode cX9_numberIn 14 = .ok (.getfield 193, 3) := by decide +kernel
theorem dX9_numberIn_17 : decode cX9_numberIn 17 = .ok (.iconst 2, 1) := by decide +kernel
theorem dX9_numberIn_18 : decode cX9_numberIn 18 = .ok (.if_icmp .ne 16, 3) := by decide +kernel
theorem dX9_numberIn_21 : decode cX9_numberIn 21 = .ok (.iload_n 3, 1) := by decide +kernel
theorem dX9_numberIn_22 : decode cX9_numberIn 22 = .ok (.iload_n 1, 1) := by decide +kernel
theorem dX9_numberIn_23 : decode cX9_numberIn 23 = .ok (.iload_n 2, 1) := by decide +kernel
theorem dX9_numberIn_24 : decode cX9_numberIn 24 = .ok (.invokestatic 65, 3) := by decide +kernel
theorem dX9_numberIn_27 : decode cX9_numberIn 27 = .ok (.ifCond .eq 7, 3) := by decide +kernel
theorem dX9_numberIn_30 : decode cX9_numberIn 30 = .ok (.iconst 1, 1) := by decide +kernel
theorem dX9_numberIn_31 : decode cX9_numberIn 31 = .ok (.goto 4, 3) := by decide +kernel
theorem dX9_numberIn_34 : decode cX9_numberIn 34 = .ok (.iconst 0, 1) := by decide +kernel
theorem dX9_numberIn_35 : decode cX9_numberIn 35 = .ok (.invokevirtual 215, 3) := by decide +kernel
theorem dX9_numberIn_38 : decode cX9_numberIn 38 = .ok (.aload_n 0, 1) := by decide +kernel
theorem dX9_numberIn_39 : decode cX9_numberIn 39 = .ok (.getfield 205, 3) := by decide +kernel
theorem dX9_numberIn_42 : decode cX9_numberIn 42 = .ok (.ifCond .eq 7, 3) := by decide +kernel
theorem dX9_numberIn_45 : decode cX9_numberIn 45 = .ok (.iload_n 3, 1) := by decide +kernel
theorem dX9_numberIn_46 : decode cX9_numberIn 46 = .ok (.goto 4, 3) := by decide +kernel
theorem dX9_numberIn_49 : decode cX9_numberIn 49 = .ok (.iload_n 1, 1) := by decide +kernel
theorem dX9_numberIn_50 : decode cX9_numberIn 50 = .ok (.ireturn, 1) := by decide +kernel
theorem dX9_opens_0 : decode cX9_opens 0 = .ok (.aload_n 0, 1) := by decide +kernel
theorem dX9_opens_1 : decode cX9_opens 1 = .ok (.getfield 17, 3) := by decide +kernel
theorem dX9_opens_4 : decode cX9_opens 4 = .ok (.iconst 3, 1) := by decide +kernel
theorem dX9_opens_5 : decode cX9_opens 5 = .ok (.aload_n 0, 1) := by decide +kernel
theorem dX9_opens_6 : decode cX9_opens 6 = .ok (.getfield 17, 3) := by decide +kernel
theorem dX9_opens_9 : decode cX9_opens 9 = .ok (.iconst 1, 1) := by decide +kernel
theorem dX9_opens_10 : decode cX9_opens 10 = .ok (.iaload, 1) := by decide +kernel
theorem dX9_opens_11 : decode cX9_opens 11 = .ok (.iadd, 1) := by decide +kernel
theorem dX9_opens_12 : decode cX9_opens 12 = .ok (.iload_n 1, 1) := by decide +kernel
theorem dX9_opens_13 : decode cX9_opens 13 = .ok (.iastore, 1) := by decide +kernel
theorem dX9_opens_14 : decode cX9_opens 14 = .ok (.aload_n 0, 1) := by decide +kernel
theorem dX9_opens_15 : decode cX9_opens 15 = .ok (.getfield 17, 3) := by decide +kernel
theorem dX9_opens_18 : decode cX9_opens 18 = .ok (.sipush 133, 3) := by decide +kernel
theorem dX9_opens_21 : decode cX9_opens 21 = .ok (.aload_n 0, 1) := by decide +kernel
theorem dX9_opens_22 : decode cX9_opens 22 = .ok (.getfield 17, 3) := by decide +kernel
theorem dX9_opens_25 : decode cX9_opens 25 = .ok (.iconst 1, 1) := by decide +kernel
theorem dX9_opens_26 : decode cX9_opens 26 = .ok (.iaload, 1) := by decide +kernel
theorem dX9_opens_27 : decode cX9_opens 27 = .ok (.iadd, 1) := by decide +kernel
theorem dX9_opens_28 : decode cX9_opens 28 = .ok (.iconst 0, 1) := by decide +kernel
theorem dX9_opens_29 : decode cX9_opens 29 = .ok (.iastore, 1) := by decide +kernel
theorem dX9_opens_30 : decode cX9_opens 30 = .ok (.aload_n 0, 1) := by decide +kernel
theorem dX9_opens_31 : decode cX9_opens 31 = .ok (.getfield 17, 3) := by decide +kernel
theorem dX9_opens_34 : decode cX9_opens 34 = .ok (.iconst 1, 1) := by decide +kernel
theorem dX9_opens_35 : decode cX9_opens 35 = .ok (.dup2, 1) := by decide +kernel
theorem dX9_opens_36 : decode cX9_opens 36 = .ok (.iaload, 1) := by decide +kernel
theorem dX9_opens_37 : decode cX9_opens 37 = .ok (.iconst 1, 1) := by decide +kernel
theorem dX9_opens_38 : decode cX9_opens 38 = .ok (.iadd, 1) := by decide +kernel
theorem dX9_opens_39 : decode cX9_opens 39 = .ok (.iastore, 1) := by decide +kernel
theorem dX9_opens_40 : decode cX9_opens 40 = .ok (.return_, 1) := by decide +kernel
theorem dX9_readEvent_0 : decode cX9_readEvent 0 = .ok (.aload_n 0, 1) := by decide +kernel
theorem dX9_readEvent_1 : decode cX9_readEvent 1 = .ok (.aload_n 0, 1) := by decide +kernel
theorem dX9_readEvent_2 : decode cX9_readEvent 2 = .ok (.getfield 17, 3) := by decide +kernel
theorem dX9_readEvent_5 : decode cX9_readEvent 5 = .ok (.iconst 1, 1) := by decide +kernel
theorem dX9_readEvent_6 : decode cX9_readEvent 6 = .ok (.iaload, 1) := by decide +kernel
theorem dX9_readEvent_7 : decode cX9_readEvent 7 = .ok (.bipush 10, 2) := by decide +kernel
theorem dX9_readEvent_9 : decode cX9_readEvent 9 = .ok (.if_icmp .ge 7, 3) := by decide +kernel
theorem dX9_readEvent_12 : decode cX9_readEvent 12 = .ok (.iconst 1, 1) := by decide +kernel
theorem dX9_readEvent_13 : decode cX9_readEvent 13 = .ok (.goto 4, 3) := by decide +kernel
theorem dX9_readEvent_16 : decode cX9_readEvent 16 = .ok (.iconst 0, 1) := by decide +kernel
theorem dX9_readEvent_17 : decode cX9_readEvent 17 = .ok (.invokevirtual 215, 3) := by decide +kernel
theorem dX9_readEvent_20 : decode cX9_readEvent 20 = .ok (.aload_n 0, 1) := by decide +kernel
theorem dX9_readEvent_21 : decode cX9_readEvent 21 = .ok (.getfield 184, 3) := by decide +kernel
theorem dX9_readEvent_24 : decode cX9_readEvent 24 = .ok (.istore_n 1, 1) := by decide +kernel
theorem dX9_readEvent_25 : decode cX9_readEvent 25 = .ok (.aload_n 0, 1) := by decide +kernel
theorem dX9_readEvent_26 : decode cX9_readEvent 26 = .ok (.aload_n 0, 1) := by decide +kernel
theorem dX9_readEvent_27 : decode cX9_readEvent 27 = .ok (.getfield 205, 3) := by decide +kernel
theorem dX9_readEvent_30 : decode cX9_readEvent 30 = .ok (.ifCond .eq 30, 3) := by decide +kernel
theorem dX9_readEvent_33 : decode cX9_readEvent 33 = .ok (.aload_n 0, 1) := by decide +kernel
theorem dX9_readEvent_34 : decode cX9_readEvent 34 = .ok (.getfield 193, 3) := by decide +kernel
theorem dX9_readEvent_37 : decode cX9_readEvent 37 = .ok (.iconst 1, 1) := by decide +kernel
theorem dX9_readEvent_38 : decode cX9_readEvent 38 = .ok (.if_icmp .ne 22, 3) := by decide +kernel
theorem dX9_readEvent_41 : decode cX9_readEvent 41 = .ok (.iload_n 1, 1) := by decide +kernel
theorem dX9_readEvent_42 : decode cX9_readEvent 42 = .ok (.invokestatic 219, 3) := by decide +kernel
theorem dX9_readEvent_45 : decode cX9_readEvent 45 = .ok (.ifCond .eq 15, 3) := by decide +kernel
theorem dX9_readEvent_48 : decode cX9_readEvent 48 = .ok (.aload_n 0, 1) := by decide +kernel
theorem dX9_readEvent_49 : decode cX9_readEvent 49 = .ok (.iload_n 1, 1) := by decide +kernel
theorem dX9_readEvent_50 : decode cX9_readEvent 50 = .ok (.invokevirtual 222, 3) := by decide +kernel
theorem dX9_readEvent_53 : decode cX9_readEvent 53 = .ok (.ifCond .ge 7, 3) := by decide +kernel
theorem dX9_readEvent_56 : decode cX9_readEvent 56 = .ok (.iconst 1, 1) := by decide +kernel
theorem dX9_readEvent_57 : decode cX9_readEvent 57 = .ok (.goto 4, 3) := by decide +kernel
theorem dX9_readEvent_60 : decode cX9_readEvent 60 = .ok (.iconst 0, 1) := by decide +kernel
theorem dX9_readEvent_61 : decode cX9_readEvent 61 = .ok (.invokevirtual 215, 3) := by decide +kernel
theorem dX9_readEvent_64 : decode cX9_readEvent 64 = .ok (.aload_n 0, 1) := by decide +kernel
theorem dX9_readEvent_65 : decode cX9_readEvent 65 = .ok (.aload_n 0, 1) := by decide +kernel
theorem dX9_readEvent_66 : decode cX9_readEvent 66 = .ok (.getfield 205, 3) := by decide +kernel
theorem dX9_readEvent_69 : decode cX9_readEvent 69 = .ok (.ifCond .eq 15, 3) := by decide +kernel
theorem dX9_readEvent_72 : decode cX9_readEvent 72 = .ok (.aload_n 0, 1) := by decide +kernel
theorem dX9_readEvent_73 : decode cX9_readEvent 73 = .ok (.getfield 193, 3) := by decide +kernel
theorem dX9_readEvent_76 : decode cX9_readEvent 76 = .ok (.iconst 3, 1) := by decide +kernel
theorem dX9_readEvent_77 : decode cX9_readEvent 77 = .ok (.if_icmp .ne 7, 3) := by decide +kernel
theorem dX9_readEvent_80 : decode cX9_readEvent 80 = .ok (.iconst 1, 1) := by decide +kernel
theorem dX9_readEvent_81 : decode cX9_readEvent 81 = .ok (.goto 4, 3) := by decide +kernel
theorem dX9_readEvent_84 : decode cX9_readEvent 84 = .ok (.iconst 0, 1) := by decide +kernel
theorem dX9_readEvent_85 : decode cX9_readEvent 85 = .ok (.invokevirtual 215, 3) := by decide +kernel
theorem dX9_readEvent_88 : decode cX9_readEvent 88 = .ok (.aload_n 0, 1) := by decide +kernel
theorem dX9_readEvent_89 : decode cX9_readEvent 89 = .ok (.getfield 205, 3) := by decide +kernel
theorem dX9_readEvent_92 : decode cX9_readEvent 92 = .ok (.ifCond .eq 8, 3) := by decide +kernel
theorem dX9_readEvent_95 : decode cX9_readEvent 95 = .ok (.aload_n 0, 1) := by decide +kernel
theorem dX9_readEvent_96 : decode cX9_readEvent 96 = .ok (.iload_n 1, 1) := by decide +kernel
theorem dX9_readEvent_97 : decode cX9_readEvent 97 = .ok (.invokevirtual 225, 3) := by decide +kernel
theorem dX9_readEvent_100 : decode cX9_readEvent 100 = .ok (.return_, 1) := by decide +kernel
theorem dX9_readEventName_0 : decode cX9_readEventName 0 = .ok (.aload_n 0, 1) := by decide +kernel
theorem dX9_readEventName_1 : decode cX9_readEventName 1 = .ok (.getfield 205, 3) := by decide +kernel
theorem dX9_readEventName_4 : decode cX9_readEventName 4 = .ok (.ifCond .eq 22, 3) := by decide +kernel
theorem dX9_readEventName_7 : decode cX9_readEventName 7 = .ok (.aload_n 0, 1) := by decide +kernel
theorem dX9_readEventName_8 : decode cX9_readEventName 8 = .ok (.getfield 193, 3) := by decide +kernel
theorem dX9_readEventName_11 : decode cX9_readEventName 11 = .ok (.iconst 1, 1) := by decide +kernel
theorem dX9_readEventName_12 : decode cX9_readEventName 12 = .ok (.if_icmp .ne 14, 3) := by decide +kernel
theorem dX9_readEventName_15 : decode cX9_readEventName 15 = .ok (.aload_n 0, 1) := by decide +kernel
theorem dX9_readEventName_16 : decode cX9_readEventName 16 = .ok (.aload_n 0, 1) := by decide +kernel
theorem dX9_readEventName_17 : decode cX9_readEventName 17 = .ok (.getfield 184, 3) := by decide +kernel
theorem dX9_readEventName_20 : decode cX9_readEventName 20 = .ok (.invokevirtual 222, 3) := by decide +kernel
theorem dX9_readEventName_23 : decode cX9_readEventName 23 = .ok (.goto 5, 3) := by decide +kernel
theorem dX9_readEventName_26 : decode cX9_readEventName 26 = .ok (.bipush (-2), 2) := by decide +kernel
theorem dX9_readEventName_28 : decode cX9_readEventName 28 = .ok (.istore_n 2, 1) := by decide +kernel
theorem dX9_readEventName_29 : decode cX9_readEventName 29 = .ok (.aload_n 0, 1) := by decide +kernel
theorem dX9_readEventName_30 : decode cX9_readEventName 30 = .ok (.iload_n 2, 1) := by decide +kernel
theorem dX9_readEventName_31 : decode cX9_readEventName 31 = .ok (.ifCond .lt 12, 3) := by decide +kernel
theorem dX9_readEventName_34 : decode cX9_readEventName 34 = .ok (.iload_n 2, 1) := by decide +kernel
theorem dX9_readEventName_35 : decode cX9_readEventName 35 = .ok (.iload_n 1, 1) := by decide +kernel
theorem dX9_readEventName_36 : decode cX9_readEventName 36 = .ok (.if_icmp .eq 7, 3) := by decide +kernel
theorem dX9_readEventName_39 : decode cX9_readEventName 39 = .ok (.iconst 1, 1) := by decide +kernel
theorem dX9_readEventName_40 : decode cX9_readEventName 40 = .ok (.goto 4, 3) := by decide +kernel
theorem dX9_readEventName_43 : decode cX9_readEventName 43 = .ok (.iconst 0, 1) := by decide +kernel
theorem dX9_readEventName_44 : decode cX9_readEventName 44 = .ok (.invokevirtual 215, 3) := by decide +kernel
theorem dX9_readEventName_47 : decode cX9_readEventName 47 = .ok (.aload_n 0, 1) := by decide +kernel
theorem dX9_readEventName_48 : decode cX9_readEventName 48 = .ok (.getfield 205, 3) := by decide +kernel
theorem dX9_readEventName_51 : decode cX9_readEventName 51 = .ok (.ifCond .eq 7, 3) := by decide +kernel
theorem dX9_readEventName_54 : decode cX9_readEventName 54 = .ok (.iload_n 2, 1) := by decide +kernel
theorem dX9_readEventName_55 : decode cX9_readEventName 55 = .ok (.goto 4, 3) := by decide +kernel
theorem dX9_readEventName_58 : decode cX9_readEventName 58 = .ok (.iconst 0, 1) := by decide +kernel
theorem dX9_readEventName_59 : decode cX9_readEventName 59 = .ok (.ireturn, 1) := by decide +kernel
theorem dX9_readGap_0 : decode cX9_readGap 0 = .ok (.aload_n 0, 1) := by decide +kernel
theorem dX9_readGap_1 : decode cX9_readGap 1 = .ok (.aload_n 0, 1) := by decide +kernel
theorem dX9_readGap_2 : decode cX9_readGap 2 = .ok (.getfield 17, 3) := by decide +kernel
theorem dX9_readGap_5 : decode cX9_readGap 5 = .ok (.iconst 2, 1) := by decide +kernel
theorem dX9_readGap_6 : decode cX9_readGap 6 = .ok (.iaload, 1) := by decide +kernel
theorem dX9_readGap_7 : decode cX9_readGap 7 = .ok (.bipush 24, 2) := by decide +kernel
theorem dX9_readGap_9 : decode cX9_readGap 9 = .ok (.if_icmp .ge 7, 3) := by decide +kernel
theorem dX9_readGap_12 : decode cX9_readGap 12 = .ok (.iconst 1, 1) := by decide +kernel
theorem dX9_readGap_13 : decode cX9_readGap 13 = .ok (.goto 4, 3) := by decide +kernel
theorem dX9_readGap_16 : decode cX9_readGap 16 = .ok (.iconst 0, 1) := by decide +kernel
theorem dX9_readGap_17 : decode cX9_readGap 17 = .ok (.invokevirtual 215, 3) := by decide +kernel
theorem dX9_readGap_20 : decode cX9_readGap 20 = .ok (.aload_n 0, 1) := by decide +kernel
theorem dX9_readGap_21 : decode cX9_readGap 21 = .ok (.bipush (-2), 2) := by decide +kernel
theorem dX9_readGap_23 : decode cX9_readGap 23 = .ok (.invokevirtual 228, 3) := by decide +kernel
theorem dX9_readGap_26 : decode cX9_readGap 26 = .ok (.istore_n 1, 1) := by decide +kernel
theorem dX9_readGap_27 : decode cX9_readGap 27 = .ok (.aload_n 0, 1) := by decide +kernel
theorem dX9_readGap_28 : decode cX9_readGap 28 = .ok (.iload_n 1, 1) := by decide +kernel
theorem dX9_readGap_29 : decode cX9_readGap 29 = .ok (.invokevirtual 228, 3) := by decide +kernel
theorem dX9_readGap_32 : decode cX9_readGap 32 = .ok (.istore_n 2, 1) := by decide +kernel
theorem dX9_readGap_33 : decode cX9_readGap 33 = .ok (.aload_n 0, 1) := by decide +kernel
theorem dX9_readGap_34 : decode cX9_readGap 34 = .ok (.ldc 231, 2) := by decide +kernel
theorem dX9_readGap_36 : decode cX9_readGap 36 = .ok (.invokevirtual 232, 3) := by decide +kernel
theorem dX9_readGap_39 : decode cX9_readGap 39 = .ok (.ifCond .eq 7, 3) := by decide +kernel
theorem dX9_readGap_42 : decode cX9_readGap 42 = .ok (.iconst 1, 1) := by decide +kernel
theorem dX9_readGap_43 : decode cX9_readGap 43 = .ok (.goto 4, 3) := by decide +kernel
theorem dX9_readGap_46 : decode cX9_readGap 46 = .ok (.iconst 0, 1) := by decide +kernel
theorem dX9_readGap_47 : decode cX9_readGap 47 = .ok (.istore_n 3, 1) := by decide +kernel
theorem dX9_readGap_48 : decode cX9_readGap 48 = .ok (.aload_n 0, 1) := by decide +kernel
theorem dX9_readGap_49 : decode cX9_readGap 49 = .ok (.aload_n 0, 1) := by decide +kernel
theorem dX9_readGap_50 : decode cX9_readGap 50 = .ok (.ldc 235, 2) := by decide +kernel
theorem dX9_readGap_52 : decode cX9_readGap 52 = .ok (.invokevirtual 232, 3) := by decide +kernel
theorem dX9_readGap_55 : decode cX9_readGap 55 = .ok (.ifCond .ne 12, 3) := by decide +kernel
theorem dX9_readGap_58 : decode cX9_readGap 58 = .ok (.aload_n 0, 1) := by decide +kernel
theorem dX9_readGap_59 : decode cX9_readGap 59 = .ok (.ldc 231, 2) := by decide +kernel
theorem dX9_readGap_61 : decode cX9_readGap 61 = .ok (.invokevirtual 232, 3) := by decide +kernel
theorem dX9_readGap_64 : decode cX9_readGap 64 = .ok (.ifCond .eq 7, 3) := by decide +kernel
theorem dX9_readGap_67 : decode cX9_readGap 67 = .ok (.iconst 1, 1) := by decide +kernel
theorem dX9_readGap_68 : decode cX9_readGap 68 = .ok (.goto 4, 3) := by decide +kernel
theorem dX9_readGap_71 : decode cX9_readGap 71 = .ok (.iconst 0, 1) := by decide +kernel
theorem dX9_readGap_72 : decode cX9_readGap 72 = .ok (.invokevirtual 215, 3) := by decide +kernel
theorem dX9_readGap_75 : decode cX9_readGap 75 = .ok (.aload_n 0, 1) := by decide +kernel
theorem dX9_readGap_76 : decode cX9_readGap 76 = .ok (.iconst 0, 1) := by decide +kernel
theorem dX9_readGap_77 : decode cX9_readGap 77 = .ok (.sipush 999, 3) := by decide +kernel
theorem dX9_readGap_80 : decode cX9_readGap 80 = .ok (.invokevirtual 236, 3) := by decide +kernel
theorem dX9_readGap_83 : decode cX9_readGap 83 = .ok (.istore 4, 2) := by decide +kernel
theorem dX9_readGap_85 : decode cX9_readGap 85 = .ok (.aload_n 0, 1) := by decide +kernel
theorem dX9_readGap_86 : decode cX9_readGap 86 = .ok (.sipush 15558, 3) := by decide +kernel
theorem dX9_readGap_89 : decode cX9_readGap 89 = .ok (.invokevirtual 232, 3) := by decide +kernel
theorem dX9_readGap_92 : decode cX9_readGap 92 = .ok (.istore 5, 2) := by decide +kernel
theorem dX9_readGap_94 : decode cX9_readGap 94 = .ok (.iload 5, 2) := by decide +kernel
theorem dX9_readGap_96 : decode cX9_readGap 96 = .ok (.ifCond .eq 8, 3) := by decide +kernel
theorem dX9_readGap_99 : decode cX9_readGap 99 = .ok (.aload_n 0, 1) := by decide +kernel
theorem dX9_readGap_100 : decode cX9_readGap 100 = .ok (.iconst 1, 1) := by decide +kernel
theorem dX9_readGap_101 : decode cX9_readGap 101 = .ok (.invokevirtual 215, 3) := by decide +kernel
theorem dX9_readGap_104 : decode cX9_readGap 104 = .ok (.aload_n 0, 1) := by decide +kernel
theorem dX9_readGap_105 : decode cX9_readGap 105 = .ok (.getfield 205, 3) := by decide +kernel
theorem dX9_readGap_108 : decode cX9_readGap 108 = .ok (.ifCond .eq 24, 3) := by decide +kernel
theorem dX9_readGap_111 : decode cX9_readGap 111 = .ok (.aload_n 0, 1) := by decide +kernel
theorem dX9_readGap_112 : decode cX9_readGap 112 = .ok (.iload_n 1, 1) := by decide +kernel
theorem dX9_readGap_113 : decode cX9_readGap 113 = .ok (.iload_n 2, 1) := by decide +kernel
theorem dX9_readGap_114 : decode cX9_readGap 114 = .ok (.iload_n 3, 1) := by decide +kernel
theorem dX9_readGap_115 : decode cX9_readGap 115 = .ok (.iload 4, 2) := by decide +kernel
theorem dX9_readGap_117 : decode cX9_readGap 117 = .ok (.iload 5, 2) := by decide +kernel
theorem dX9_readGap_119 : decode cX9_readGap 119 = .ok (.ifCond .eq 7, 3) := by decide +kernel
theorem dX9_readGap_122 : decode cX9_readGap 122 = .ok (.iconst 0, 1) := by decide +kernel
theorem dX9_readGap_123 : decode cX9_readGap 123 = .ok (.goto 4, 3) := by decide +kernel
theorem dX9_readGap_126 : decode cX9_readGap 126 = .ok (.iconst 1, 1) := by decide +kernel
theorem dX9_readGap_127 : decode cX9_readGap 127 = .ok (.invokevirtual 150, 3) := by decide +kernel
theorem dX9_readGap_130 : decode cX9_readGap 130 = .ok (.istore 6, 2) := by decide +kernel
theorem dX9_readGap_132 : decode cX9_readGap 132 = .ok (.aload_n 0, 1) := by decide +kernel
theorem dX9_readGap_133 : decode cX9_readGap 133 = .ok (.aload_n 0, 1) := by decide +kernel
theorem dX9_readGap_134 : decode cX9_readGap 134 = .ok (.getfield 205, 3) := by decide +kernel
theorem dX9_readGap_137 : decode cX9_readGap 137 = .ok (.ifCond .eq 22, 3) := by decide +kernel
theorem dX9_readGap_140 : decode cX9_readGap 140 = .ok (.aload_n 0, 1) := by decide +kernel
theorem dX9_readGap_141 : decode cX9_readGap 141 = .ok (.getfield 193, 3) := by decide +kernel
theorem dX9_readGap_144 : decode cX9_readGap 144 = .ok (.iconst 3, 1) := by decide +kernel
theorem dX9_readGap_145 : decode cX9_readGap 145 = .ok (.if_icmp .ne 14, 3) := by decide +kernel
theorem dX9_readGap_148 : decode cX9_readGap 148 = .ok (.aload_n 0, 1) := by decide +kernel
theorem dX9_readGap_149 : decode cX9_readGap 149 = .ok (.invokevirtual 126, 3) := by decide +kernel
theorem dX9_readGap_152 : decode cX9_readGap 152 = .ok (.ifCond .eq 7, 3) := by decide +kernel
theorem dX9_readGap_155 : decode cX9_readGap 155 = .ok (.iconst 1, 1) := by decide +kernel
theorem dX9_readGap_156 : decode cX9_readGap 156 = .ok (.goto 4, 3) := by decide +kernel
theorem dX9_readGap_159 : decode cX9_readGap 159 = .ok (.iconst 0, 1) := by decide +kernel
theorem dX9_readGap_160 : decode cX9_readGap 160 = .ok (.invokevirtual 215, 3) := by decide +kernel
theorem dX9_readGap_163 : decode cX9_readGap 163 = .ok (.return_, 1) := by decide +kernel
theorem dX9_readPin_0 : decode cX9_readPin 0 = .ok (.aload_n 0, 1) := by decide +kernel
theorem dX9_readPin_1 : decode cX9_readPin 1 = .ok (.aload_n 0, 1) := by decide +kernel
theorem dX9_readPin_2 : decode cX9_readPin 2 = .ok (.sipush 16686, 3) := by decide +kernel
theorem dX9_readPin_5 : decode cX9_readPin 5 = .ok (.invokevirtual 232, 3) := by decide +kernel
theorem dX9_readPin_8 : decode cX9_readPin 8 = .ok (.invokevirtual 215, 3) := by decide +kernel
theorem dX9_readPin_11 : decode cX9_readPin 11 = .ok (.aload_n 0, 1) := by decide +kernel
theorem dX9_readPin_12 : decode cX9_readPin 12 = .ok (.getfield 205, 3) := by decide +kernel
theorem dX9_readPin_15 : decode cX9_readPin 15 = .ok (.ifCond .eq 22, 3) := by decide +kernel
theorem dX9_readPin_18 : decode cX9_readPin 18 = .ok (.aload_n 0, 1) := by decide +kernel
theorem dX9_readPin_19 : decode cX9_readPin 19 = .ok (.getfield 193, 3) := by decide +kernel
theorem dX9_readPin_22 : decode cX9_readPin 22 = .ok (.iconst 1, 1) := by decide +kernel
theorem dX9_readPin_23 : decode cX9_readPin 23 = .ok (.if_icmp .ne 14, 3) := by decide +kernel
theorem dX9_readPin_26 : decode cX9_readPin 26 = .ok (.aload_n 0, 1) := by decide +kernel
theorem dX9_readPin_27 : decode cX9_readPin 27 = .ok (.aload_n 0, 1) := by decide +kernel
theorem dX9_readPin_28 : decode cX9_readPin 28 = .ok (.getfield 184, 3) := by decide +kernel
theorem dX9_readPin_31 : decode cX9_readPin 31 = .ok (.invokevirtual 222, 3) := by decide +kernel
theorem dX9_readPin_34 : decode cX9_readPin 34 = .ok (.goto 5, 3) := by decide +kernel
theorem dX9_readPin_37 : decode cX9_readPin 37 = .ok (.bipush (-2), 2) := by decide +kernel
theorem dX9_readPin_39 : decode cX9_readPin 39 = .ok (.istore_n 1, 1) := by decide +kernel
theorem dX9_readPin_40 : decode cX9_readPin 40 = .ok (.aload_n 0, 1) := by decide +kernel
theorem dX9_readPin_41 : decode cX9_readPin 41 = .ok (.iload_n 1, 1) := by decide +kernel
theorem dX9_readPin_42 : decode cX9_readPin 42 = .ok (.ifCond .le 15, 3) := by decide +kernel
theorem dX9_readPin_45 : decode cX9_readPin 45 = .ok (.aload_n 0, 1) := by decide +kernel
theorem dX9_readPin_46 : decode cX9_readPin 46 = .ok (.iload_n 1, 1) := by decide +kernel
theorem dX9_readPin_47 : decode cX9_readPin 47 = .ok (.invokevirtual 103, 3) := by decide +kernel
theorem dX9_readPin_50 : decode cX9_readPin 50 = .ok (.ifCond .ne 7, 3) := by decide +kernel
theorem dX9_readPin_53 : decode cX9_readPin 53 = .ok (.iconst 1, 1) := by decide +kernel
theorem dX9_readPin_54 : decode cX9_readPin 54 = .ok (.goto 4, 3) := by decide +kernel
theorem dX9_readPin_57 : decode cX9_readPin 57 = .ok (.iconst 0, 1) := by decide +kernel
theorem dX9_readPin_58 : decode cX9_readPin 58 = .ok (.invokevirtual 215, 3) := by decide +kernel
theorem dX9_readPin_61 : decode cX9_readPin 61 = .ok (.aload_n 0, 1) := by decide +kernel
theorem dX9_readPin_62 : decode cX9_readPin 62 = .ok (.iconst 0, 1) := by decide +kernel
theorem dX9_readPin_63 : decode cX9_readPin 63 = .ok (.aload_n 0, 1) := by decide +kernel
theorem dX9_readPin_64 : decode cX9_readPin 64 = .ok (.getfield 17, 3) := by decide +kernel
theorem dX9_readPin_67 : decode cX9_readPin 67 = .ok (.iconst 0, 1) := by decide +kernel
theorem dX9_readPin_68 : decode cX9_readPin 68 = .ok (.iaload, 1) := by decide +kernel
theorem dX9_readPin_69 : decode cX9_readPin 69 = .ok (.invokevirtual 236, 3) := by decide +kernel
theorem dX9_readPin_72 : decode cX9_readPin 72 = .ok (.istore_n 2, 1) := by decide +kernel
theorem dX9_readPin_73 : decode cX9_readPin 73 = .ok (.aload_n 0, 1) := by decide +kernel
theorem dX9_readPin_74 : decode cX9_readPin 74 = .ok (.getfield 205, 3) := by decide +kernel
theorem dX9_readPin_77 : decode cX9_readPin 77 = .ok (.ifCond .eq 16, 3) := by decide +kernel
theorem dX9_readPin_80 : decode cX9_readPin 80 = .ok (.aload_n 0, 1) := by decide +kernel
theorem dX9_readPin_81 : decode cX9_readPin 81 = .ok (.getfield 17, 3) := by decide +kernel
theorem dX9_readPin_84 : decode cX9_readPin 84 = .ok (.sipush 133, 3) := by decide +kernel
theorem dX9_readPin_87 : decode cX9_readPin 87 = .ok (.iload_n 1, 1) := by decide +kernel
theorem dX9_readPin_88 : decode cX9_readPin 88 = .ok (.iadd, 1) := by decide +kernel
theorem dX9_readPin_89 : decode cX9_readPin 89 = .ok (.iload_n 2, 1) := by decide +kernel
theorem dX9_readPin_90 : decode cX9_readPin 90 = .ok (.iconst 1, 1) := by decide +kernel
theorem dX9_readPin_91 : decode cX9_readPin 91 = .ok (.iadd, 1) := by decide +kernel
theorem dX9_readPin_92 : decode cX9_readPin 92 = .ok (.iastore, 1) := by decide +kernel
theorem dX9_readPin_93 : decode cX9_readPin 93 = .ok (.aload_n 0, 1) := by decide +kernel
theorem dX9_readPin_94 : decode cX9_readPin 94 = .ok (.aload_n 0, 1) := by decide +kernel
theorem dX9_readPin_95 : decode cX9_readPin 95 = .ok (.getfield 205, 3) := by decide +kernel
theorem dX9_readPin_98 : decode cX9_readPin 98 = .ok (.ifCond .eq 22, 3) := by decide +kernel
theorem dX9_readPin_101 : decode cX9_readPin 101 = .ok (.aload_n 0, 1) := by decide +kernel
theorem dX9_readPin_102 : decode cX9_readPin 102 = .ok (.getfield 193, 3) := by decide +kernel
theorem dX9_readPin_105 : decode cX9_readPin 105 = .ok (.iconst 3, 1) := by decide +kernel
theorem dX9_readPin_106 : decode cX9_readPin 106 = .ok (.if_icmp .ne 14, 3) := by decide +kernel
theorem dX9_readPin_109 : decode cX9_readPin 109 = .ok (.aload_n 0, 1) := by decide +kernel
theorem dX9_readPin_110 : decode cX9_readPin 110 = .ok (.invokevirtual 126, 3) := by decide +kernel
theorem dX9_readPin_113 : decode cX9_readPin 113 = .ok (.ifCond .eq 7, 3) := by decide +kernel
theorem dX9_readPin_116 : decode cX9_readPin 116 = .ok (.iconst 1, 1) := by decide +kernel
theorem dX9_readPin_117 : decode cX9_readPin 117 = .ok (.goto 4, 3) := by decide +kernel
theorem dX9_readPin_120 : decode cX9_readPin 120 = .ok (.iconst 0, 1) := by decide +kernel
theorem dX9_readPin_121 : decode cX9_readPin 121 = .ok (.invokevirtual 215, 3) := by decide +kernel
theorem dX9_readPin_124 : decode cX9_readPin 124 = .ok (.return_, 1) := by decide +kernel
theorem dX9_load_0 : decode cX9_load 0 = .ok (.aload_n 0, 1) := by decide +kernel
theorem dX9_load_1 : decode cX9_load 1 = .ok (.invokevirtual 69, 3) := by decide +kernel
theorem dX9_load_4 : decode cX9_load 4 = .ok (.iconst 0, 1) := by decide +kernel
theorem dX9_load_5 : decode cX9_load 5 = .ok (.istore_n 1, 1) := by decide +kernel
theorem dX9_load_6 : decode cX9_load 6 = .ok (.iload_n 1, 1) := by decide +kernel
theorem dX9_load_7 : decode cX9_load 7 = .ok (.sipush 264, 3) := by decide +kernel
theorem dX9_load_10 : decode cX9_load 10 = .ok (.if_icmp .ge 16, 3) := by decide +kernel
theorem dX9_load_13 : decode cX9_load 13 = .ok (.aload_n 0, 1) := by decide +kernel
theorem dX9_load_14 : decode cX9_load 14 = .ok (.getfield 17, 3) := by decide +kernel
theorem dX9_load_17 : decode cX9_load 17 = .ok (.iload_n 1, 1) := by decide +kernel
theorem dX9_load_18 : decode cX9_load 18 = .ok (.iconst 0, 1) := by decide +kernel
theorem dX9_load_19 : decode cX9_load 19 = .ok (.iastore, 1) := by decide +kernel
theorem dX9_load_20 : decode cX9_load 20 = .ok (.iinc 1 1, 3) := by decide +kernel
theorem dX9_load_23 : decode cX9_load 23 = .ok (.goto (-17), 3) := by decide +kernel
theorem dX9_load_26 : decode cX9_load 26 = .ok (.aload_n 0, 1) := by decide +kernel
theorem dX9_load_27 : decode cX9_load 27 = .ok (.getfield 17, 3) := by decide +kernel
theorem dX9_load_30 : decode cX9_load 30 = .ok (.iconst 1, 1) := by decide +kernel
theorem dX9_load_31 : decode cX9_load 31 = .ok (.iconst 1, 1) := by decide +kernel
theorem dX9_load_32 : decode cX9_load 32 = .ok (.iastore, 1) := by decide +kernel
theorem dX9_load_33 : decode cX9_load 33 = .ok (.aload_n 0, 1) := by decide +kernel
theorem dX9_load_34 : decode cX9_load 34 = .ok (.getfield 17, 3) := by decide +kernel
theorem dX9_load_37 : decode cX9_load 37 = .ok (.iconst 3, 1) := by decide +kernel
theorem dX9_load_38 : decode cX9_load 38 = .ok (.ldc 61, 2) := by decide +kernel
theorem dX9_load_40 : decode cX9_load 40 = .ok (.iastore, 1) := by decide +kernel
theorem dX9_load_41 : decode cX9_load 41 = .ok (.aload_n 0, 1) := by decide +kernel
theorem dX9_load_42 : decode cX9_load 42 = .ok (.iconst 0, 1) := by decide +kernel
theorem dX9_load_43 : decode cX9_load 43 = .ok (.putfield 178, 3) := by decide +kernel
theorem dX9_load_46 : decode cX9_load 46 = .ok (.aload_n 0, 1) := by decide +kernel
theorem dX9_load_47 : decode cX9_load 47 = .ok (.iconst 1, 1) := by decide +kernel
theorem dX9_load_48 : decode cX9_load 48 = .ok (.putfield 205, 3) := by decide +kernel
theorem dX9_load_51 : decode cX9_load 51 = .ok (.aload_n 0, 1) := by decide +kernel
theorem dX9_load_52 : decode cX9_load 52 = .ok (.bipush (-2), 2) := by decide +kernel
theorem dX9_load_54 : decode cX9_load 54 = .ok (.putfield 13, 3) := by decide +kernel
theorem dX9_load_57 : decode cX9_load 57 = .ok (.aload_n 0, 1) := by decide +kernel
theorem dX9_load_58 : decode cX9_load 58 = .ok (.invokevirtual 209, 3) := by decide +kernel
theorem dX9_load_61 : decode cX9_load 61 = .ok (.aload_n 0, 1) := by decide +kernel
theorem dX9_load_62 : decode cX9_load 62 = .ok (.aload_n 0, 1) := by decide +kernel
theorem dX9_load_63 : decode cX9_load 63 = .ok (.sipush 5572, 3) := by decide +kernel
theorem dX9_load_66 : decode cX9_load 66 = .ok (.invokevirtual 232, 3) := by decide +kernel
theorem dX9_load_69 : decode cX9_load 69 = .ok (.invokevirtual 215, 3) := by decide +kernel
theorem dX9_load_72 : decode cX9_load 72 = .ok (.aload_n 0, 1) := by decide +kernel
theorem dX9_load_73 : decode cX9_load 73 = .ok (.getfield 17, 3) := by decide +kernel
theorem dX9_load_76 : decode cX9_load 76 = .ok (.iconst 0, 1) := by decide +kernel
theorem dX9_load_77 : decode cX9_load 77 = .ok (.aload_n 0, 1) := by decide +kernel
theorem dX9_load_78 : decode cX9_load 78 = .ok (.iconst 1, 1) := by decide +kernel
theorem dX9_load_79 : decode cX9_load 79 = .ok (.sipush 999, 3) := by decide +kernel
theorem dX9_load_82 : decode cX9_load 82 = .ok (.invokevirtual 236, 3) := by decide +kernel
theorem dX9_load_85 : decode cX9_load 85 = .ok (.iastore, 1) := by decide +kernel
theorem dX9_load_86 : decode cX9_load 86 = .ok (.aload_n 0, 1) := by decide +kernel
theorem dX9_load_87 : decode cX9_load 87 = .ok (.aload_n 0, 1) := by decide +kernel
theorem dX9_load_88 : decode cX9_load 88 = .ok (.getfield 193, 3) := by decide +kernel
theorem dX9_load_91 : decode cX9_load 91 = .ok (.iconst 3, 1) := by decide +kernel
theorem dX9_load_92 : decode cX9_load 92 = .ok (.if_icmp .ne 7, 3) := by decide +kernel
theorem dX9_load_95 : decode cX9_load 95 = .ok (.iconst 1, 1) := by decide +kernel
theorem dX9_load_96 : decode cX9_load 96 = .ok (.goto 4, 3) := by decide +kernel
theorem dX9_load_99 : decode cX9_load 99 = .ok (.iconst 0, 1) := by decide +kernel
theorem dX9_load_100 : decode cX9_load 100 = .ok (.invokevirtual 215, 3) := by decide +kernel
theorem dX9_load_103 : decode cX9_load 103 = .ok (.aload_n 0, 1) := by decide +kernel
theorem dX9_load_104 : decode cX9_load 104 = .ok (.ldc 239, 2) := by decide +kernel
theorem dX9_load_106 : decode cX9_load 106 = .ok (.invokevirtual 232, 3) := by decide +kernel
theorem dX9_load_109 : decode cX9_load 109 = .ok (.ifCond .eq 10, 3) := by decide +kernel
theorem dX9_load_112 : decode cX9_load 112 = .ok (.aload_n 0, 1) := by decide +kernel
theorem dX9_load_113 : decode cX9_load 113 = .ok (.invokevirtual 240, 3) := by decide +kernel
theorem dX9_load_116 : decode cX9_load 116 = .ok (.goto (-13), 3) := by decide +kernel
theorem dX9_load_119 : decode cX9_load 119 = .ok (.aload_n 0, 1) := by decide +kernel
theorem dX9_load_120 : decode cX9_load 120 = .ok (.sipush 7216, 3) := by decide +kernel
theorem dX9_load_123 : decode cX9_load 123 = .ok (.invokevirtual 232, 3) := by decide +kernel
theorem dX9_load_126 : decode cX9_load 126 = .ok (.ifCond .eq 10, 3) := by decide +kernel
theorem dX9_load_129 : decode cX9_load 129 = .ok (.aload_n 0, 1) := by decide +kernel
theorem dX9_load_130 : decode cX9_load 130 = .ok (.invokevirtual 243, 3) := by decide +kernel
theorem dX9_load_133 : decode cX9_load 133 = .ok (.goto (-14), 3) := by decide +kernel
theorem dX9_load_136 : decode cX9_load 136 = .ok (.aload_n 0, 1) := by decide +kernel
theorem dX9_load_137 : decode cX9_load 137 = .ok (.getfield 205, 3) := by decide +kernel
theorem dX9_load_140 : decode cX9_load 140 = .ok (.ifCond .eq 17, 3) := by decide +kernel
theorem dX9_load_143 : decode cX9_load 143 = .ok (.aload_n 0, 1) := by decide +kernel
theorem dX9_load_144 : decode cX9_load 144 = .ok (.getfield 193, 3) := by decide +kernel
theorem dX9_load_147 : decode cX9_load 147 = .ok (.ifCond .eq 10, 3) := by decide +kernel
theorem dX9_load_150 : decode cX9_load 150 = .ok (.aload_n 0, 1) := by decide +kernel
theorem dX9_load_151 : decode cX9_load 151 = .ok (.invokevirtual 246, 3) := by decide +kernel
theorem dX9_load_154 : decode cX9_load 154 = .ok (.goto (-18), 3) := by decide +kernel
theorem dX9_load_157 : decode cX9_load 157 = .ok (.aload_n 0, 1) := by decide +kernel
theorem dX9_load_158 : decode cX9_load 158 = .ok (.iconst 0, 1) := by decide +kernel
theorem dX9_load_159 : decode cX9_load 159 = .ok (.putfield 181, 3) := by decide +kernel
theorem dX9_load_162 : decode cX9_load 162 = .ok (.aload_n 0, 1) := by decide +kernel
theorem dX9_load_163 : decode cX9_load 163 = .ok (.getfield 205, 3) := by decide +kernel
theorem dX9_load_166 : decode cX9_load 166 = .ok (.ifCond .ne 9, 3) := by decide +kernel
theorem dX9_load_169 : decode cX9_load 169 = .ok (.aload_n 0, 1) := by decide +kernel
theorem dX9_load_170 : decode cX9_load 170 = .ok (.iconst (-1), 1) := by decide +kernel
theorem dX9_load_171 : decode cX9_load 171 = .ok (.invokevirtual 137, 3) := by decide +kernel
theorem dX9_load_174 : decode cX9_load 174 = .ok (.ireturn, 1) := by decide +kernel
theorem dX9_load_175 : decode cX9_load 175 = .ok (.aload_n 0, 1) := by decide +kernel
theorem dX9_load_176 : decode cX9_load 176 = .ok (.iconst 0, 1) := by decide +kernel
theorem dX9_load_177 : decode cX9_load 177 = .ok (.putfield 62, 3) := by decide +kernel
theorem dX9_load_180 : decode cX9_load 180 = .ok (.aload_n 0, 1) := by decide +kernel
theorem dX9_load_181 : decode cX9_load 181 = .ok (.getfield 30, 3) := by decide +kernel
theorem dX9_load_184 : decode cX9_load 184 = .ok (.iconst 0, 1) := by decide +kernel
theorem dX9_load_185 : decode cX9_load 185 = .ok (.iconst 0, 1) := by decide +kernel
theorem dX9_load_186 : decode cX9_load 186 = .ok (.bastore, 1) := by decide +kernel
theorem dX9_load_187 : decode cX9_load 187 = .ok (.aload_n 0, 1) := by decide +kernel
theorem dX9_load_188 : decode cX9_load 188 = .ok (.getfield 30, 3) := by decide +kernel
theorem dX9_load_191 : decode cX9_load 191 = .ok (.iconst 1, 1) := by decide +kernel
theorem dX9_load_192 : decode cX9_load 192 = .ok (.iconst 0, 1) := by decide +kernel
theorem dX9_load_193 : decode cX9_load 193 = .ok (.bastore, 1) := by decide +kernel
theorem dX9_load_194 : decode cX9_load 194 = .ok (.aload_n 0, 1) := by decide +kernel
theorem dX9_load_195 : decode cX9_load 195 = .ok (.getfield 17, 3) := by decide +kernel
theorem dX9_load_198 : decode cX9_load 198 = .ok (.iconst 2, 1) := by decide +kernel
theorem dX9_load_199 : decode cX9_load 199 = .ok (.iaload, 1) := by decide +kernel
theorem dX9_load_200 : decode cX9_load 200 = .ok (.ireturn, 1) := by decide +kernel
theorem dX9_errorPosition_0 : decode cX9_errorPosition 0 = .ok (.aload_n 0, 1) := by decide +kernel
theorem dX9_errorPosition_1 : decode cX9_errorPosition 1 = .ok (.getfield 13, 3) := by decide +kernel
theorem dX9_errorPosition_4 : decode cX9_errorPosition 4 = .ok (.ireturn, 1) := by decide +kernel
theorem dX9_tapes_0 : decode cX9_tapes 0 = .ok (.bipush 24, 2) := by decide +kernel
theorem dX9_tapes_2 : decode cX9_tapes 2 = .ok (.istore_n 2, 1) := by decide +kernel
theorem dX9_tapes_3 : decode cX9_tapes 3 = .ok (.iload_n 2, 1) := by decide +kernel
theorem dX9_tapes_4 : decode cX9_tapes 4 = .ok (.ifCond .lt 32, 3) := by decide +kernel
theorem dX9_tapes_7 : decode cX9_tapes 7 = .ok (.aload_n 0, 1) := by decide +kernel
theorem dX9_tapes_8 : decode cX9_tapes 8 = .ok (.getfield 7, 3) := by decide +kernel
theorem dX9_tapes_11 : decode cX9_tapes 11 = .ok (.aload_n 0, 1) := by decide +kernel
theorem dX9_tapes_12 : decode cX9_tapes 12 = .ok (.getfield 181, 3) := by decide +kernel
theorem dX9_tapes_15 : decode cX9_tapes 15 = .ok (.iload_n 1, 1) := by decide +kernel
theorem dX9_tapes_16 : decode cX9_tapes 16 = .ok (.iload_n 2, 1) := by decide +kernel
theorem dX9_tapes_17 : decode cX9_tapes 17 = .ok (.ishr, 1) := by decide +kernel
theorem dX9_tapes_18 : decode cX9_tapes 18 = .ok (.i2b, 1) := by decide +kernel
theorem dX9_tapes_19 : decode cX9_tapes 19 = .ok (.bastore, 1) := by decide +kernel
theorem dX9_tapes_20 : decode cX9_tapes 20 = .ok (.aload_n 0, 1) := by decide +kernel
theorem dX9_tapes_21 : decode cX9_tapes 21 = .ok (.dup, 1) := by decide +kernel
theorem dX9_tapes_22 : decode cX9_tapes 22 = .ok (.getfield 181, 3) := by decide +kernel
theorem dX9_tapes_25 : decode cX9_tapes 25 = .ok (.iconst 1, 1) := by decide +kernel
theorem dX9_tapes_26 : decode cX9_tapes 26 = .ok (.iadd, 1) := by decide +kernel
theorem dX9_tapes_27 : decode cX9_tapes 27 = .ok (.putfield 181, 3) := by decide +kernel
theorem dX9_tapes_30 : decode cX9_tapes 30 = .ok (.iinc 2 (-8), 3) := by decide +kernel
theorem dX9_tapes_33 : decode cX9_tapes 33 = .ok (.goto (-30), 3) := by decide +kernel
theorem dX9_tapes_36 : decode cX9_tapes 36 = .ok (.return_, 1) := by decide +kernel
theorem dX9_append_0 : decode cX9_append 0 = .ok (.aload_n 0, 1) := by decide +kernel
theorem dX9_append_1 : decode cX9_append 1 = .ok (.getfield 181, 3) := by decide +kernel
theorem dX9_append_4 : decode cX9_append 4 = .ok (.sipush 880, 3) := by decide +kernel
theorem dX9_append_7 : decode cX9_append 7 = .ok (.if_icmp .le 5, 3) := by decide +kernel
theorem dX9_append_10 : decode cX9_append 10 = .ok (.iconst (-1), 1) := by decide +kernel
theorem dX9_append_11 : decode cX9_append 11 = .ok (.ireturn, 1) := by decide +kernel
theorem dX9_append_12 : decode cX9_append 12 = .ok (.aload_n 0, 1) := by decide +kernel
theorem dX9_append_13 : decode cX9_append 13 = .ok (.iload_n 1, 1) := by decide +kernel
theorem dX9_append_14 : decode cX9_append 14 = .ok (.invokevirtual 249, 3) := by decide +kernel
theorem dX9_append_17 : decode cX9_append 17 = .ok (.aload_n 0, 1) := by decide +kernel
theorem dX9_append_18 : decode cX9_append 18 = .ok (.iload_n 2, 1) := by decide +kernel
theorem dX9_append_19 : decode cX9_append 19 = .ok (.invokevirtual 249, 3) := by decide +kernel
theorem dX9_append_22 : decode cX9_append 22 = .ok (.aload_n 0, 1) := by decide +kernel
theorem dX9_append_23 : decode cX9_append 23 = .ok (.iload_n 3, 1) := by decide +kernel
theorem dX9_append_24 : decode cX9_append 24 = .ok (.invokevirtual 249, 3) := by decide +kernel
theorem dX9_append_27 : decode cX9_append 27 = .ok (.aload_n 0, 1) := by decide +kernel
theorem dX9_append_28 : decode cX9_append 28 = .ok (.iload 4, 2) := by decide +kernel
theorem dX9_append_30 : decode cX9_append 30 = .ok (.invokevirtual 249, 3) := by decide +kernel
theorem dX9_append_33 : decode cX9_append 33 = .ok (.aload_n 0, 1) := by decide +kernel
theorem dX9_append_34 : decode cX9_append 34 = .ok (.iload 5, 2) := by decide +kernel
theorem dX9_append_36 : decode cX9_append 36 = .ok (.invokevirtual 249, 3) := by decide +kernel
theorem dX9_append_39 : decode cX9_append 39 = .ok (.aload_n 0, 1) := by decide +kernel
theorem dX9_append_40 : decode cX9_append 40 = .ok (.getfield 181, 3) := by decide +kernel
theorem dX9_append_43 : decode cX9_append 43 = .ok (.ireturn, 1) := by decide +kernel
theorem dX9_truncate_0 : decode cX9_truncate 0 = .ok (.iload_n 1, 1) := by decide +kernel
theorem dX9_truncate_1 : decode cX9_truncate 1 = .ok (.iconst 0, 1) := by decide +kernel
theorem dX9_truncate_2 : decode cX9_truncate 2 = .ok (.aload_n 0, 1) := by decide +kernel
theorem dX9_truncate_3 : decode cX9_truncate 3 = .ok (.getfield 181, 3) := by decide +kernel
theorem dX9_truncate_6 : decode cX9_truncate 6 = .ok (.invokestatic 65, 3) := by decide +kernel
theorem dX9_truncate_9 : decode cX9_truncate 9 = .ok (.ifCond .ne 5, 3) := by decide +kernel
theorem dX9_truncate_12 : decode cX9_truncate 12 = .ok (.iconst (-1), 1) := by decide +kernel
theorem dX9_truncate_13 : decode cX9_truncate 13 = .ok (.ireturn, 1) := by decide +kernel
theorem dX9_truncate_14 : decode cX9_truncate 14 = .ok (.aload_n 0, 1) := by decide +kernel
theorem dX9_truncate_15 : decode cX9_truncate 15 = .ok (.dup, 1) := by decide +kernel
theorem dX9_truncate_16 : decode cX9_truncate 16 = .ok (.getfield 181, 3) := by decide +kernel
theorem dX9_truncate_19 : decode cX9_truncate 19 = .ok (.iload_n 1, 1) := by decide +kernel
theorem dX9_truncate_20 : decode cX9_truncate 20 = .ok (.isub, 1) := by decide +kernel
theorem dX9_truncate_21 : decode cX9_truncate 21 = .ok (.putfield 181, 3) := by decide +kernel
theorem dX9_truncate_24 : decode cX9_truncate 24 = .ok (.aload_n 0, 1) := by decide +kernel
theorem dX9_truncate_25 : decode cX9_truncate 25 = .ok (.getfield 181, 3) := by decide +kernel
theorem dX9_truncate_28 : decode cX9_truncate 28 = .ok (.ireturn, 1) := by decide +kernel
theorem dX9_taped_0 : decode cX9_taped 0 = .ok (.aload_n 0, 1) := by decide +kernel
theorem dX9_taped_1 : decode cX9_taped 1 = .ok (.getfield 181, 3) := by decide +kernel
theorem dX9_taped_4 : decode cX9_taped 4 = .ok (.iconst 1, 1) := by decide +kernel
theorem dX9_taped_5 : decode cX9_taped 5 = .ok (.iconst 5, 1) := by decide +kernel
theorem dX9_taped_6 : decode cX9_taped 6 = .ok (.invokestatic 65, 3) := by decide +kernel
theorem dX9_taped_9 : decode cX9_taped 9 = .ok (.istore_n 1, 1) := by decide +kernel
theorem dX9_taped_10 : decode cX9_taped 10 = .ok (.iconst 0, 1) := by decide +kernel
theorem dX9_taped_11 : decode cX9_taped 11 = .ok (.istore_n 2, 1) := by decide +kernel
theorem dX9_taped_12 : decode cX9_taped 12 = .ok (.iconst 0, 1) := by decide +kernel
theorem dX9_taped_13 : decode cX9_taped 13 = .ok (.istore_n 3, 1) := by decide +kernel
theorem dX9_taped_14 : decode cX9_taped 14 = .ok (.iload_n 3, 1) := by decide +kernel
theorem dX9_taped_15 : decode cX9_taped 15 = .ok (.aload_n 0, 1) := by decide +kernel
theorem dX9_taped_16 : decode cX9_taped 16 = .ok (.getfield 181, 3) := by decide +kernel
theorem dX9_taped_19 : decode cX9_taped 19 = .ok (.if_icmp .ge 42, 3) := by decide +kernel
theorem dX9_taped_22 : decode cX9_taped 22 = .ok (.iload_n 1, 1) := by decide +kernel
theorem dX9_taped_23 : decode cX9_taped 23 = .ok (.ifCond .eq 38, 3) := by decide +kernel
theorem dX9_taped_26 : decode cX9_taped 26 = .ok (.aload_n 0, 1) := by decide +kernel
theorem dX9_taped_27 : decode cX9_taped 27 = .ok (.getfield 7, 3) := by decide +kernel
theorem dX9_taped_30 : decode cX9_taped 30 = .ok (.iload_n 3, 1) := by decide +kernel
theorem dX9_taped_31 : decode cX9_taped 31 = .ok (.baload, 1) := by decide +kernel
theorem dX9_taped_32 : decode cX9_taped 32 = .ok (.bipush 97, 2) := by decide +kernel
theorem dX9_taped_34 : decode cX9_taped 34 = .ok (.bipush 122, 2) := by decide +kernel
theorem dX9_taped_36 : decode cX9_taped 36 = .ok (.invokestatic 65, 3) := by decide +kernel
theorem dX9_taped_39 : decode cX9_taped 39 = .ok (.istore_n 1, 1) := by decide +kernel
theorem dX9_taped_40 : decode cX9_taped 40 = .ok (.bipush 32, 2) := by decide +kernel
theorem dX9_taped_42 : decode cX9_taped 42 = .ok (.iload_n 2, 1) := by decide +kernel
theorem dX9_taped_43 : decode cX9_taped 43 = .ok (.imul, 1) := by decide +kernel
theorem dX9_taped_44 : decode cX9_taped 44 = .ok (.aload_n 0, 1) := by decide +kernel
theorem dX9_taped_45 : decode cX9_taped 45 = .ok (.getfield 7, 3) := by decide +kernel
theorem dX9_taped_48 : decode cX9_taped 48 = .ok (.iload_n 3, 1) := by decide +kernel
theorem dX9_taped_49 : decode cX9_taped 49 = .ok (.baload, 1) := by decide +kernel
theorem dX9_taped_50 : decode cX9_taped 50 = .ok (.iadd, 1) := by decide +kernel
theorem dX9_taped_51 : decode cX9_taped 51 = .ok (.bipush 96, 2) := by decide +kernel
theorem dX9_taped_53 : decode cX9_taped 53 = .ok (.isub, 1) := by decide +kernel
theorem dX9_taped_54 : decode cX9_taped 54 = .ok (.istore_n 2, 1) := by decide +kernel
theorem dX9_taped_55 : decode cX9_taped 55 = .ok (.iinc 3 1, 3) := by decide +kernel
theorem dX9_taped_58 : decode cX9_taped 58 = .ok (.goto (-44), 3) := by decide +kernel
theorem dX9_taped_61 : decode cX9_taped 61 = .ok (.iload_n 1, 1) := by decide +kernel
theorem dX9_taped_62 : decode cX9_taped 62 = .ok (.ifCond .eq 14, 3) := by decide +kernel
theorem dX9_taped_65 : decode cX9_taped 65 = .ok (.iload_n 2, 1) := by decide +kernel
theorem dX9_taped_66 : decode cX9_taped 66 = .ok (.invokestatic 219, 3) := by decide +kernel
theorem dX9_taped_69 : decode cX9_taped 69 = .ok (.ifCond .eq 7, 3) := by decide +kernel
theorem dX9_taped_72 : decode cX9_taped 72 = .ok (.iload_n 2, 1) := by decide +kernel
theorem dX9_taped_73 : decode cX9_taped 73 = .ok (.goto 4, 3) := by decide +kernel
theorem dX9_taped_76 : decode cX9_taped 76 = .ok (.iconst 0, 1) := by decide +kernel
theorem dX9_taped_77 : decode cX9_taped 77 = .ok (.ireturn, 1) := by decide +kernel
theorem dX9_open_0 : decode cX9_open 0 = .ok (.aload_n 0, 1) := by decide +kernel
theorem dX9_open_1 : decode cX9_open 1 = .ok (.invokevirtual 252, 3) := by decide +kernel
theorem dX9_open_4 : decode cX9_open 4 = .ok (.istore_n 1, 1) := by decide +kernel
