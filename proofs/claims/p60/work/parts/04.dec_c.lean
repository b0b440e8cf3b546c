theorem dX8_keep_26 : decode cX8_keep 26 = .ok (.getfield 36, 3) := by decide +kernel
theorem dX8_keep_29 : decode cX8_keep 29 = .ok (.getfield 230, 3) := by decide +kernel
theorem dX8_keep_32 : decode cX8_keep 32 = .ok (.iload_n 1, 1) := by decide +kernel
theorem dX8_keep_33 : decode cX8_keep 33 = .ok (.iconst 1, 1) := by decide +kernel
theorem dX8_keep_34 : decode cX8_keep 34 = .ok (.bastore, 1) := by decide +kernel
theorem dX8_keep_35 : decode cX8_keep 35 = .ok (.aload_n 0, 1) := by decide +kernel
theorem dX8_keep_36 : decode cX8_keep 36 = .ok (.getfield 12, 3) := by decide +kernel
theorem dX8_keep_39 : decode cX8_keep 39 = .ok (.getfield 96, 3) := by decide +kernel
theorem dX8_keep_42 : decode cX8_keep 42 = .ok (.ireturn, 1) := by decide +kernel
theorem dX8_restore_0 : decode cX8_restore 0 = .ok (.iload_n 1, 1) := by decide +kernel
theorem dX8_restore_1 : decode cX8_restore 1 = .ok (.invokestatic 223, 3) := by decide +kernel
theorem dX8_restore_4 : decode cX8_restore 4 = .ok (.ifCond .ne 5, 3) := by decide +kernel
theorem dX8_restore_7 : decode cX8_restore 7 = .ok (.iconst (-1), 1) := by decide +kernel
theorem dX8_restore_8 : decode cX8_restore 8 = .ok (.ireturn, 1) := by decide +kernel
theorem dX8_restore_9 : decode cX8_restore 9 = .ok (.aload_n 0, 1) := by decide +kernel
theorem dX8_restore_10 : decode cX8_restore 10 = .ok (.getfield 36, 3) := by decide +kernel
theorem dX8_restore_13 : decode cX8_restore 13 = .ok (.getfield 230, 3) := by decide +kernel
theorem dX8_restore_16 : decode cX8_restore 16 = .ok (.iload_n 1, 1) := by decide +kernel
theorem dX8_restore_17 : decode cX8_restore 17 = .ok (.baload, 1) := by decide +kernel
theorem dX8_restore_18 : decode cX8_restore 18 = .ok (.ifCond .ne 6, 3) := by decide +kernel
theorem dX8_restore_21 : decode cX8_restore 21 = .ok (.bipush (-2), 2) := by decide +kernel
theorem dX8_restore_23 : decode cX8_restore 23 = .ok (.ireturn, 1) := by decide +kernel
theorem dX8_restore_24 : decode cX8_restore 24 = .ok (.aload_n 0, 1) := by decide +kernel
theorem dX8_restore_25 : decode cX8_restore 25 = .ok (.getfield 29, 3) := by decide +kernel
theorem dX8_restore_28 : decode cX8_restore 28 = .ok (.aload_n 0, 1) := by decide +kernel
theorem dX8_restore_29 : decode cX8_restore 29 = .ok (.getfield 12, 3) := by decide +kernel
theorem dX8_restore_32 : decode cX8_restore 32 = .ok (.invokevirtual 105, 3) := by decide +kernel
theorem dX8_restore_35 : decode cX8_restore 35 = .ok (.aload_n 0, 1) := by decide +kernel
theorem dX8_restore_36 : decode cX8_restore 36 = .ok (.getfield 12, 3) := by decide +kernel
theorem dX8_restore_39 : decode cX8_restore 39 = .ok (.aload_n 0, 1) := by decide +kernel
theorem dX8_restore_40 : decode cX8_restore 40 = .ok (.getfield 36, 3) := by decide +kernel
theorem dX8_restore_43 : decode cX8_restore 43 = .ok (.getfield 226, 3) := by decide +kernel
theorem dX8_restore_46 : decode cX8_restore 46 = .ok (.iload_n 1, 1) := by decide +kernel
theorem dX8_restore_47 : decode cX8_restore 47 = .ok (.aaload, 1) := by decide +kernel
theorem dX8_restore_48 : decode cX8_restore 48 = .ok (.invokevirtual 90, 3) := by decide +kernel
theorem dX8_restore_51 : decode cX8_restore 51 = .ok (.aload_n 0, 1) := by decide +kernel
theorem dX8_restore_52 : decode cX8_restore 52 = .ok (.getfield 19, 3) := by decide +kernel
theorem dX8_restore_55 : decode cX8_restore 55 = .ok (.aload_n 0, 1) := by decide +kernel
theorem dX8_restore_56 : decode cX8_restore 56 = .ok (.getfield 12, 3) := by decide +kernel
theorem dX8_restore_59 : decode cX8_restore 59 = .ok (.iconst (-1), 1) := by decide +kernel
theorem dX8_restore_60 : decode cX8_restore 60 = .ok (.invokevirtual 66, 3) := by decide +kernel
theorem dX8_restore_63 : decode cX8_restore 63 = .ok (.aload_n 0, 1) := by decide +kernel
theorem dX8_restore_64 : decode cX8_restore 64 = .ok (.getfield 12, 3) := by decide +kernel
theorem dX8_restore_67 : decode cX8_restore 67 = .ok (.getfield 96, 3) := by decide +kernel
theorem dX8_restore_70 : decode cX8_restore 70 = .ok (.ireturn, 1) := by decide +kernel
theorem dX8_undo_0 : decode cX8_undo 0 = .ok (.aload_n 0, 1) := by decide +kernel
theorem dX8_undo_1 : decode cX8_undo 1 = .ok (.getfield 29, 3) := by decide +kernel
theorem dX8_undo_4 : decode cX8_undo 4 = .ok (.getfield 233, 3) := by decide +kernel
theorem dX8_undo_7 : decode cX8_undo 7 = .ok (.ifCond .ne 5, 3) := by decide +kernel
theorem dX8_undo_10 : decode cX8_undo 10 = .ok (.iconst (-1), 1) := by decide +kernel
theorem dX8_undo_11 : decode cX8_undo 11 = .ok (.ireturn, 1) := by decide +kernel
theorem dX8_undo_12 : decode cX8_undo 12 = .ok (.aload_n 0, 1) := by decide +kernel
theorem dX8_undo_13 : decode cX8_undo 13 = .ok (.getfield 29, 3) := by decide +kernel
theorem dX8_undo_16 : decode cX8_undo 16 = .ok (.aload_n 0, 1) := by decide +kernel
theorem dX8_undo_17 : decode cX8_undo 17 = .ok (.getfield 12, 3) := by decide +kernel
theorem dX8_undo_20 : decode cX8_undo 20 = .ok (.invokevirtual 236, 3) := by decide +kernel
theorem dX8_undo_23 : decode cX8_undo 23 = .ok (.aload_n 0, 1) := by decide +kernel
theorem dX8_undo_24 : decode cX8_undo 24 = .ok (.getfield 19, 3) := by decide +kernel
theorem dX8_undo_27 : decode cX8_undo 27 = .ok (.aload_n 0, 1) := by decide +kernel
theorem dX8_undo_28 : decode cX8_undo 28 = .ok (.getfield 12, 3) := by decide +kernel
theorem dX8_undo_31 : decode cX8_undo 31 = .ok (.iconst (-1), 1) := by decide +kernel
theorem dX8_undo_32 : decode cX8_undo 32 = .ok (.invokevirtual 66, 3) := by decide +kernel
theorem dX8_undo_35 : decode cX8_undo 35 = .ok (.aload_n 0, 1) := by decide +kernel
theorem dX8_undo_36 : decode cX8_undo 36 = .ok (.getfield 29, 3) := by decide +kernel
theorem dX8_undo_39 : decode cX8_undo 39 = .ok (.getfield 233, 3) := by decide +kernel
theorem dX8_undo_42 : decode cX8_undo 42 = .ok (.ireturn, 1) := by decide +kernel
theorem dX8_value_0 : decode cX8_value 0 = .ok (.iload_n 1, 1) := by decide +kernel
theorem dX8_value_1 : decode cX8_value 1 = .ok (.tableswitch 168 0 12 #[67, 75, 83, 91, 99, 107, 115, 120, 125, 133, 141, 149, 160], 67) := by decide +kernel
theorem dX8_value_68 : decode cX8_value 68 = .ok (.aload_n 0, 1) := by decide +kernel
theorem dX8_value_69 : decode cX8_value 69 = .ok (.getfield 12, 3) := by decide +kernel
theorem dX8_value_72 : decode cX8_value 72 = .ok (.getfield 185, 3) := by decide +kernel
theorem dX8_value_75 : decode cX8_value 75 = .ok (.ireturn, 1) := by decide +kernel
theorem dX8_value_76 : decode cX8_value 76 = .ok (.aload_n 0, 1) := by decide +kernel
theorem dX8_value_77 : decode cX8_value 77 = .ok (.getfield 12, 3) := by decide +kernel
theorem dX8_value_80 : decode cX8_value 80 = .ok (.getfield 102, 3) := by decide +kernel
theorem dX8_value_83 : decode cX8_value 83 = .ok (.ireturn, 1) := by decide +kernel
theorem dX8_value_84 : decode cX8_value 84 = .ok (.aload_n 0, 1) := by decide +kernel
theorem dX8_value_85 : decode cX8_value 85 = .ok (.getfield 12, 3) := by decide +kernel
theorem dX8_value_88 : decode cX8_value 88 = .ok (.getfield 96, 3) := by decide +kernel
theorem dX8_value_91 : decode cX8_value 91 = .ok (.ireturn, 1) := by decide +kernel
theorem dX8_value_92 : decode cX8_value 92 = .ok (.aload_n 0, 1) := by decide +kernel
theorem dX8_value_93 : decode cX8_value 93 = .ok (.getfield 12, 3) := by decide +kernel
theorem dX8_value_96 : decode cX8_value 96 = .ok (.invokevirtual 239, 3) := by decide +kernel
theorem dX8_value_99 : decode cX8_value 99 = .ok (.ireturn, 1) := by decide +kernel
theorem dX8_value_100 : decode cX8_value 100 = .ok (.aload_n 0, 1) := by decide +kernel
theorem dX8_value_101 : decode cX8_value 101 = .ok (.getfield 12, 3) := by decide +kernel
theorem dX8_value_104 : decode cX8_value 104 = .ok (.invokevirtual 179, 3) := by decide +kernel
theorem dX8_value_107 : decode cX8_value 107 = .ok (.ireturn, 1) := by decide +kernel
theorem dX8_value_108 : decode cX8_value 108 = .ok (.aload_n 0, 1) := by decide +kernel
theorem dX8_value_109 : decode cX8_value 109 = .ok (.getfield 19, 3) := by decide +kernel
theorem dX8_value_112 : decode cX8_value 112 = .ok (.getfield 242, 3) := by decide +kernel
theorem dX8_value_115 : decode cX8_value 115 = .ok (.ireturn, 1) := by decide +kernel
theorem dX8_value_116 : decode cX8_value 116 = .ok (.aload_n 0, 1) := by decide +kernel
theorem dX8_value_117 : decode cX8_value 117 = .ok (.invokevirtual 245, 3) := by decide +kernel
theorem dX8_value_120 : decode cX8_value 120 = .ok (.ireturn, 1) := by decide +kernel
theorem dX8_value_121 : decode cX8_value 121 = .ok (.aload_n 0, 1) := by decide +kernel
theorem dX8_value_122 : decode cX8_value 122 = .ok (.invokevirtual 248, 3) := by decide +kernel
theorem dX8_value_125 : decode cX8_value 125 = .ok (.ireturn, 1) := by decide +kernel
theorem dX8_value_126 : decode cX8_value 126 = .ok (.aload_n 0, 1) := by decide +kernel
theorem dX8_value_127 : decode cX8_value 127 = .ok (.getfield 19, 3) := by decide +kernel
theorem dX8_value_130 : decode cX8_value 130 = .ok (.invokevirtual 251, 3) := by decide +kernel
theorem dX8_value_133 : decode cX8_value 133 = .ok (.ireturn, 1) := by decide +kernel
theorem dX8_value_134 : decode cX8_value 134 = .ok (.aload_n 0, 1) := by decide +kernel
theorem dX8_value_135 : decode cX8_value 135 = .ok (.getfield 19, 3) := by decide +kernel
theorem dX8_value_138 : decode cX8_value 138 = .ok (.invokevirtual 188, 3) := by decide +kernel
theorem dX8_value_141 : decode cX8_value 141 = .ok (.ireturn, 1) := by decide +kernel
theorem dX8_value_142 : decode cX8_value 142 = .ok (.aload_n 0, 1) := by decide +kernel
theorem dX8_value_143 : decode cX8_value 143 = .ok (.getfield 19, 3) := by decide +kernel
theorem dX8_value_146 : decode cX8_value 146 = .ok (.invokevirtual 214, 3) := by decide +kernel
theorem dX8_value_149 : decode cX8_value 149 = .ok (.ireturn, 1) := by decide +kernel
theorem dX8_value_150 : decode cX8_value 150 = .ok (.aload_n 0, 1) := by decide +kernel
theorem dX8_value_151 : decode cX8_value 151 = .ok (.getfield 12, 3) := by decide +kernel
theorem dX8_value_154 : decode cX8_value 154 = .ok (.getfield 124, 3) := by decide +kernel
theorem dX8_value_157 : decode cX8_value 157 = .ok (.getfield 254, 3) := by decide +kernel
theorem dX8_value_160 : decode cX8_value 160 = .ok (.ireturn, 1) := by decide +kernel
theorem dX8_value_161 : decode cX8_value 161 = .ok (.aload_n 0, 1) := by decide +kernel
theorem dX8_value_162 : decode cX8_value 162 = .ok (.getfield 29, 3) := by decide +kernel
theorem dX8_value_165 : decode cX8_value 165 = .ok (.getfield 233, 3) := by decide +kernel
theorem dX8_value_168 : decode cX8_value 168 = .ok (.ireturn, 1) := by decide +kernel
theorem dX8_value_169 : decode cX8_value 169 = .ok (.iconst (-1), 1) := by decide +kernel
theorem dX8_value_170 : decode cX8_value 170 = .ok (.ireturn, 1) := by decide +kernel
theorem dX8_letter_0 : decode cX8_letter 0 = .ok (.aload_n 0, 1) := by decide +kernel
theorem dX8_letter_1 : decode cX8_letter 1 = .ok (.iload_n 1, 1) := by decide +kernel
theorem dX8_letter_2 : decode cX8_letter 2 = .ok (.invokevirtual 163, 3) := by decide +kernel
theorem dX8_letter_5 : decode cX8_letter 5 = .ok (.ifCond .eq 7, 3) := by decide +kernel
theorem dX8_letter_8 : decode cX8_letter 8 = .ok (.iload_n 2, 1) := by decide +kernel
theorem dX8_letter_9 : decode cX8_letter 9 = .ok (.ifCond .ge 5, 3) := by decide +kernel
theorem dX8_letter_12 : decode cX8_letter 12 = .ok (.iconst (-1), 1) := by decide +kernel
theorem dX8_letter_13 : decode cX8_letter 13 = .ok (.ireturn, 1) := by decide +kernel
theorem dX8_letter_14 : decode cX8_letter 14 = .ok (.iload_n 2, 1) := by decide +kernel
theorem dX8_letter_15 : decode cX8_letter 15 = .ok (.aload_n 0, 1) := by decide +kernel
theorem dX8_letter_16 : decode cX8_letter 16 = .ok (.getfield 12, 3) := by decide +kernel
theorem dX8_letter_19 : decode cX8_letter 19 = .ok (.getfield 255, 3) := by decide +kernel
theorem dX8_letter_22 : decode cX8_letter 22 = .ok (.iload_n 1, 1) := by decide +kernel
theorem dX8_letter_23 : decode cX8_letter 23 = .ok (.iaload, 1) := by decide +kernel
theorem dX8_letter_24 : decode cX8_letter 24 = .ok (.if_icmp .lt 6, 3) := by decide +kernel
theorem dX8_letter_27 : decode cX8_letter 27 = .ok (.bipush (-2), 2) := by decide +kernel
theorem dX8_letter_29 : decode cX8_letter 29 = .ok (.ireturn, 1) := by decide +kernel
theorem dX8_letter_30 : decode cX8_letter 30 = .ok (.aload_n 0, 1) := by decide +kernel
theorem dX8_letter_31 : decode cX8_letter 31 = .ok (.getfield 12, 3) := by decide +kernel
theorem dX8_letter_34 : decode cX8_letter 34 = .ok (.iload_n 1, 1) := by decide +kernel
theorem dX8_letter_35 : decode cX8_letter 35 = .ok (.iload_n 2, 1) := by decide +kernel
theorem dX8_letter_36 : decode cX8_letter 36 = .ok (.invokevirtual 258, 3) := by decide +kernel
theorem dX8_letter_39 : decode cX8_letter 39 = .ok (.bipush 97, 2) := by decide +kernel
theorem dX8_letter_41 : decode cX8_letter 41 = .ok (.isub, 1) := by decide +kernel
theorem dX8_letter_42 : decode cX8_letter 42 = .ok (.iconst 1, 1) := by decide +kernel
theorem dX8_letter_43 : decode cX8_letter 43 = .ok (.iadd, 1) := by decide +kernel
theorem dX8_letter_44 : decode cX8_letter 44 = .ok (.ireturn, 1) := by decide +kernel
theorem dX8_gap_0 : decode cX8_gap 0 = .ok (.aload_n 0, 1) := by decide +kernel
theorem dX8_gap_1 : decode cX8_gap 1 = .ok (.iload_n 1, 1) := by decide +kernel
theorem dX8_gap_2 : decode cX8_gap 2 = .ok (.invokevirtual 137, 3) := by decide +kernel
theorem dX8_gap_5 : decode cX8_gap 5 = .ok (.ifCond .ne 5, 3) := by decide +kernel
theorem dX8_gap_8 : decode cX8_gap 8 = .ok (.iconst (-1), 1) := by decide +kernel
theorem dX8_gap_9 : decode cX8_gap 9 = .ok (.ireturn, 1) := by decide +kernel
theorem dX8_gap_10 : decode cX8_gap 10 = .ok (.iload_n 2, 1) := by decide +kernel
theorem dX8_gap_11 : decode cX8_gap 11 = .ok (.tableswitch 144 0 7 #[45, 55, 65, 75, 85, 98, 107, 116], 45) := by decide +kernel
theorem dX8_gap_56 : decode cX8_gap 56 = .ok (.aload_n 0, 1) := by decide +kernel
theorem dX8_gap_57 : decode cX8_gap 57 = .ok (.getfield 12, 3) := by decide +kernel
theorem dX8_gap_60 : decode cX8_gap 60 = .ok (.getfield 195, 3) := by decide +kernel
theorem dX8_gap_63 : decode cX8_gap 63 = .ok (.iload_n 1, 1) := by decide +kernel
theorem dX8_gap_64 : decode cX8_gap 64 = .ok (.iaload, 1) := by decide +kernel
theorem dX8_gap_65 : decode cX8_gap 65 = .ok (.ireturn, 1) := by decide +kernel
theorem dX8_gap_66 : decode cX8_gap 66 = .ok (.aload_n 0, 1) := by decide +kernel
theorem dX8_gap_67 : decode cX8_gap 67 = .ok (.getfield 12, 3) := by decide +kernel
theorem dX8_gap_70 : decode cX8_gap 70 = .ok (.getfield 198, 3) := by decide +kernel
theorem dX8_gap_73 : decode cX8_gap 73 = .ok (.iload_n 1, 1) := by decide +kernel
theorem dX8_gap_74 : decode cX8_gap 74 = .ok (.iaload, 1) := by decide +kernel
theorem dX8_gap_75 : decode cX8_gap 75 = .ok (.ireturn, 1) := by decide +kernel
theorem dX8_gap_76 : decode cX8_gap 76 = .ok (.aload_n 0, 1) := by decide +kernel
theorem dX8_gap_77 : decode cX8_gap 77 = .ok (.getfield 12, 3) := by decide +kernel
theorem dX8_gap_80 : decode cX8_gap 80 = .ok (.getfield 204, 3) := by decide +kernel
theorem dX8_gap_83 : decode cX8_gap 83 = .ok (.iload_n 1, 1) := by decide +kernel
theorem dX8_gap_84 : decode cX8_gap 84 = .ok (.iaload, 1) := by decide +kernel
theorem dX8_gap_85 : decode cX8_gap 85 = .ok (.ireturn, 1) := by decide +kernel
theorem dX8_gap_86 : decode cX8_gap 86 = .ok (.aload_n 0, 1) := by decide +kernel
theorem dX8_gap_87 : decode cX8_gap 87 = .ok (.getfield 12, 3) := by decide +kernel
theorem dX8_gap_90 : decode cX8_gap 90 = .ok (.getfield 141, 3) := by decide +kernel
theorem dX8_gap_93 : decode cX8_gap 93 = .ok (.iload_n 1, 1) := by decide +kernel
theorem dX8_gap_94 : decode cX8_gap 94 = .ok (.iaload, 1) := by decide +kernel
theorem dX8_gap_95 : decode cX8_gap 95 = .ok (.ireturn, 1) := by decide +kernel
theorem dX8_gap_96 : decode cX8_gap 96 = .ok (.aload_n 0, 1) := by decide +kernel
theorem dX8_gap_97 : decode cX8_gap 97 = .ok (.getfield 12, 3) := by decide +kernel
theorem dX8_gap_100 : decode cX8_gap 100 = .ok (.getfield 151, 3) := by decide +kernel
theorem dX8_gap_103 : decode cX8_gap 103 = .ok (.iload_n 1, 1) := by decide +kernel
theorem dX8_gap_104 : decode cX8_gap 104 = .ok (.baload, 1) := by decide +kernel
theorem dX8_gap_105 : decode cX8_gap 105 = .ok (.invokestatic 159, 3) := by decide +kernel
theorem dX8_gap_108 : decode cX8_gap 108 = .ok (.ireturn, 1) := by decide +kernel
theorem dX8_gap_109 : decode cX8_gap 109 = .ok (.aload_n 0, 1) := by decide +kernel
theorem dX8_gap_110 : decode cX8_gap 110 = .ok (.iload_n 1, 1) := by decide +kernel
theorem dX8_gap_111 : decode cX8_gap 111 = .ok (.invokevirtual 261, 3) := by decide +kernel
theorem dX8_gap_114 : decode cX8_gap 114 = .ok (.invokestatic 159, 3) := by decide +kernel
theorem dX8_gap_117 : decode cX8_gap 117 = .ok (.ireturn, 1) := by decide +kernel
theorem dX8_gap_118 : decode cX8_gap 118 = .ok (.aload_n 0, 1) := by decide +kernel
theorem dX8_gap_119 : decode cX8_gap 119 = .ok (.iload_n 1, 1) := by decide +kernel
theorem dX8_gap_120 : decode cX8_gap 120 = .ok (.invokevirtual 264, 3) := by decide +kernel
theorem dX8_gap_123 : decode cX8_gap 123 = .ok (.invokestatic 159, 3) := by decide +kernel
theorem dX8_gap_126 : decode cX8_gap 126 = .ok (.ireturn, 1) := by decide +kernel
theorem dX8_gap_127 : decode cX8_gap 127 = .ok (.aload_n 0, 1) := by decide +kernel
theorem dX8_gap_128 : decode cX8_gap 128 = .ok (.getfield 12, 3) := by decide +kernel
theorem dX8_gap_131 : decode cX8_gap 131 = .ok (.getfield 151, 3) := by decide +kernel
theorem dX8_gap_134 : decode cX8_gap 134 = .ok (.iload_n 1, 1) := by decide +kernel
theorem dX8_gap_135 : decode cX8_gap 135 = .ok (.baload, 1) := by decide +kernel
theorem dX8_gap_136 : decode cX8_gap 136 = .ok (.ifCond .eq 17, 3) := by decide +kernel
theorem dX8_gap_139 : decode cX8_gap 139 = .ok (.aload_n 0, 1) := by decide +kernel
theorem dX8_gap_140 : decode cX8_gap 140 = .ok (.iload_n 1, 1) := by decide +kernel
theorem dX8_gap_141 : decode cX8_gap 141 = .ok (.invokevirtual 267, 3) := by decide +kernel
theorem dX8_gap_144 : decode cX8_gap 144 = .ok (.aload_n 0, 1) := by decide +kernel
theorem dX8_gap_145 : decode cX8_gap 145 = .ok (.iload_n 1, 1) := by decide +kernel
theorem dX8_gap_146 : decode cX8_gap 146 = .ok (.invokevirtual 270, 3) := by decide +kernel
theorem dX8_gap_149 : decode cX8_gap 149 = .ok (.isub, 1) := by decide +kernel
theorem dX8_gap_150 : decode cX8_gap 150 = .ok (.goto 4, 3) := by decide +kernel
theorem dX8_gap_153 : decode cX8_gap 153 = .ok (.iconst 0, 1) := by decide +kernel
theorem dX8_gap_154 : decode cX8_gap 154 = .ok (.ireturn, 1) := by decide +kernel
theorem dX8_gap_155 : decode cX8_gap 155 = .ok (.iconst (-1), 1) := by decide +kernel
theorem dX8_gap_156 : decode cX8_gap 156 = .ok (.ireturn, 1) := by decide +kernel
theorem dX8_event_0 : decode cX8_event 0 = .ok (.aload_n 0, 1) := by decide +kernel
theorem dX8_event_1 : decode cX8_event 1 = .ok (.iload_n 1, 1) := by decide +kernel
theorem dX8_event_2 : decode cX8_event 2 = .ok (.invokevirtual 163, 3) := by decide +kernel
theorem dX8_event_5 : decode cX8_event 5 = .ok (.ifCond .ne 5, 3) := by decide +kernel
theorem dX8_event_8 : decode cX8_event 8 = .ok (.iconst (-1), 1) := by decide +kernel
theorem dX8_event_9 : decode cX8_event 9 = .ok (.ireturn, 1) := by decide +kernel
theorem dX8_event_10 : decode cX8_event 10 = .ok (.iload_n 2, 1) := by decide +kernel
theorem dX8_event_11 : decode cX8_event 11 = .ok (.tableswitch 95 0 4 #[33, 42, 51, 60, 86], 33) := by decide +kernel
theorem dX8_event_44 : decode cX8_event 44 = .ok (.aload_n 0, 1) := by decide +kernel
theorem dX8_event_45 : decode cX8_event 45 = .ok (.getfield 19, 3) := by decide +kernel
theorem dX8_event_48 : decode cX8_event 48 = .ok (.iload_n 1, 1) := by decide +kernel
theorem dX8_event_49 : decode cX8_event 49 = .ok (.invokevirtual 220, 3) := by decide +kernel
theorem dX8_event_52 : decode cX8_event 52 = .ok (.ireturn, 1) := by decide +kernel
theorem dX8_event_53 : decode cX8_event 53 = .ok (.aload_n 0, 1) := by decide +kernel
theorem dX8_event_54 : decode cX8_event 54 = .ok (.getfield 19, 3) := by decide +kernel
theorem dX8_event_57 : decode cX8_event 57 = .ok (.iload_n 1, 1) := by decide +kernel
theorem dX8_event_58 : decode cX8_event 58 = .ok (.invokevirtual 273, 3) := by decide +kernel
theorem dX8_event_61 : decode cX8_event 61 = .ok (.ireturn, 1) := by decide +kernel
theorem dX8_event_62 : decode cX8_event 62 = .ok (.aload_n 0, 1) := by decide +kernel
theorem dX8_event_63 : decode cX8_event 63 = .ok (.getfield 19, 3) := by decide +kernel
theorem dX8_event_66 : decode cX8_event 66 = .ok (.iload_n 1, 1) := by decide +kernel
theorem dX8_event_67 : decode cX8_event 67 = .ok (.invokevirtual 276, 3) := by decide +kernel
theorem dX8_event_70 : decode cX8_event 70 = .ok (.ireturn, 1) := by decide +kernel
theorem dX8_event_71 : decode cX8_event 71 = .ok (.aload_n 0, 1) := by decide +kernel
theorem dX8_event_72 : decode cX8_event 72 = .ok (.getfield 12, 3) := by decide +kernel
theorem dX8_event_75 : decode cX8_event 75 = .ok (.iload_n 1, 1) := by decide +kernel
theorem dX8_event_76 : decode cX8_event 76 = .ok (.invokevirtual 182, 3) := by decide +kernel
theorem dX8_event_79 : decode cX8_event 79 = .ok (.ifCond .eq 15, 3) := by decide +kernel
theorem dX8_event_82 : decode cX8_event 82 = .ok (.aload_n 0, 1) := by decide +kernel
theorem dX8_event_83 : decode cX8_event 83 = .ok (.getfield 12, 3) := by decide +kernel
theorem dX8_event_86 : decode cX8_event 86 = .ok (.getfield 176, 3) := by decide +kernel
theorem dX8_event_89 : decode cX8_event 89 = .ok (.iload_n 1, 1) := by decide +kernel
theorem dX8_event_90 : decode cX8_event 90 = .ok (.iaload, 1) := by decide +kernel
theorem dX8_event_91 : decode cX8_event 91 = .ok (.goto 5, 3) := by decide +kernel
theorem dX8_event_94 : decode cX8_event 94 = .ok (.bipush (-2), 2) := by decide +kernel
theorem dX8_event_96 : decode cX8_event 96 = .ok (.ireturn, 1) := by decide +kernel
theorem dX8_event_97 : decode cX8_event 97 = .ok (.aload_n 0, 1) := by decide +kernel
theorem dX8_event_98 : decode cX8_event 98 = .ok (.getfield 12, 3) := by decide +kernel
theorem dX8_event_101 : decode cX8_event 101 = .ok (.iload_n 1, 1) := by decide +kernel
theorem dX8_event_102 : decode cX8_event 102 = .ok (.invokevirtual 279, 3) := by decide +kernel
theorem dX8_event_105 : decode cX8_event 105 = .ok (.ireturn, 1) := by decide +kernel
theorem dX8_event_106 : decode cX8_event 106 = .ok (.iconst (-1), 1) := by decide +kernel
theorem dX8_event_107 : decode cX8_event 107 = .ok (.ireturn, 1) := by decide +kernel
theorem dX8_bound_0 : decode cX8_bound 0 = .ok (.aload_n 0, 1) := by decide +kernel
theorem dX8_bound_1 : decode cX8_bound 1 = .ok (.iload_n 1, 1) := by decide +kernel
theorem dX8_bound_2 : decode cX8_bound 2 = .ok (.invokevirtual 163, 3) := by decide +kernel
theorem dX8_bound_5 : decode cX8_bound 5 = .ok (.ifCond .eq 23, 3) := by decide +kernel
theorem dX8_bound_8 : decode cX8_bound 8 = .ok (.aload_n 0, 1) := by decide +kernel
theorem dX8_bound_9 : decode cX8_bound 9 = .ok (.iload_n 2, 1) := by decide +kernel
theorem dX8_bound_10 : decode cX8_bound 10 = .ok (.invokevirtual 163, 3) := by decide +kernel
theorem dX8_bound_13 : decode cX8_bound 13 = .ok (.ifCond .eq 15, 3) := by decide +kernel
theorem dX8_bound_16 : decode cX8_bound 16 = .ok (.aload_n 0, 1) := by decide +kernel
theorem dX8_bound_17 : decode cX8_bound 17 = .ok (.getfield 19, 3) := by decide +kernel
theorem dX8_bound_20 : decode cX8_bound 20 = .ok (.iload_n 1, 1) := by decide +kernel
theorem dX8_bound_21 : decode cX8_bound 21 = .ok (.iload_n 2, 1) := by decide +kernel
theorem dX8_bound_22 : decode cX8_bound 22 = .ok (.invokevirtual 282, 3) := by decide +kernel
theorem dX8_bound_25 : decode cX8_bound 25 = .ok (.goto 6, 3) := by decide +kernel
theorem dX8_bound_28 : decode cX8_bound 28 = .ok (.ldc_w 285, 3) := by decide +kernel
theorem dX8_bound_31 : decode cX8_bound 31 = .ok (.ireturn, 1) := by decide +kernel
theorem dX8_way_0 : decode cX8_way 0 = .ok (.aload_n 0, 1) := by decide +kernel
theorem dX8_way_1 : decode cX8_way 1 = .ok (.iload_n 1, 1) := by decide +kernel
theorem dX8_way_2 : decode cX8_way 2 = .ok (.iload_n 2, 1) := by decide +kernel
theorem dX8_way_3 : decode cX8_way 3 = .ok (.invokevirtual 286, 3) := by decide +kernel
theorem dX8_way_6 : decode cX8_way 6 = .ok (.ifCond .eq 7, 3) := by decide +kernel
theorem dX8_way_9 : decode cX8_way 9 = .ok (.iload_n 3, 1) := by decide +kernel
theorem dX8_way_10 : decode cX8_way 10 = .ok (.ifCond .ge 5, 3) := by decide +kernel
theorem dX8_way_13 : decode cX8_way 13 = .ok (.iconst (-1), 1) := by decide +kernel
theorem dX8_way_14 : decode cX8_way 14 = .ok (.ireturn, 1) := by decide +kernel
theorem dX8_way_15 : decode cX8_way 15 = .ok (.aload_n 0, 1) := by decide +kernel
theorem dX8_way_16 : decode cX8_way 16 = .ok (.getfield 19, 3) := by decide +kernel
theorem dX8_way_19 : decode cX8_way 19 = .ok (.iload_n 1, 1) := by decide +kernel
theorem dX8_way_20 : decode cX8_way 20 = .ok (.iload_n 2, 1) := by decide +kernel
theorem dX8_way_21 : decode cX8_way 21 = .ok (.iload_n 3, 1) := by decide +kernel
theorem dX8_way_22 : decode cX8_way 22 = .ok (.invokevirtual 289, 3) := by decide +kernel
theorem dX8_way_25 : decode cX8_way 25 = .ok (.ireturn, 1) := by decide +kernel
theorem dX8_wayLength_0 : decode cX8_wayLength 0 = .ok (.aload_n 0, 1) := by decide +kernel
theorem dX8_wayLength_1 : decode cX8_wayLength 1 = .ok (.iload_n 1, 1) := by decide +kernel
theorem dX8_wayLength_2 : decode cX8_wayLength 2 = .ok (.iload_n 2, 1) := by decide +kernel
theorem dX8_wayLength_3 : decode cX8_wayLength 3 = .ok (.invokevirtual 286, 3) := by decide +kernel
theorem dX8_wayLength_6 : decode cX8_wayLength 6 = .ok (.ifCond .eq 15, 3) := by decide +kernel
theorem dX8_wayLength_9 : decode cX8_wayLength 9 = .ok (.aload_n 0, 1) := by decide +kernel
theorem dX8_wayLength_10 : decode cX8_wayLength 10 = .ok (.getfield 19, 3) := by decide +kernel
theorem dX8_wayLength_13 : decode cX8_wayLength 13 = .ok (.iload_n 1, 1) := by decide +kernel
theorem dX8_wayLength_14 : decode cX8_wayLength 14 = .ok (.iload_n 2, 1) := by decide +kernel
theorem dX8_wayLength_15 : decode cX8_wayLength 15 = .ok (.invokevirtual 293, 3) := by decide +kernel
theorem dX8_wayLength_18 : decode cX8_wayLength 18 = .ok (.goto 4, 3) := by decide +kernel
theorem dX8_wayLength_21 : decode cX8_wayLength 21 = .ok (.iconst (-1), 1) := by decide +kernel
theorem dX8_wayLength_22 : decode cX8_wayLength 22 = .ok (.ireturn, 1) := by decide +kernel
theorem dX8_relation_0 : decode cX8_relation 0 = .ok (.aload_n 0, 1) := by decide +kernel
theorem dX8_relation_1 : decode cX8_relation 1 = .ok (.iload_n 1, 1) := by decide +kernel
theorem dX8_relation_2 : decode cX8_relation 2 = .ok (.iload_n 2, 1) := by decide +kernel
theorem dX8_relation_3 : decode cX8_relation 3 = .ok (.invokevirtual 286, 3) := by decide +kernel
theorem dX8_relation_6 : decode cX8_relation 6 = .ok (.ifCond .eq 12, 3) := by decide +kernel
theorem dX8_relation_9 : decode cX8_relation 9 = .ok (.aload_n 0, 1) := by decide +kernel
theorem dX8_relation_10 : decode cX8_relation 10 = .ok (.iload_n 1, 1) := by decide +kernel
theorem dX8_relation_11 : decode cX8_relation 11 = .ok (.iload_n 2, 1) := by decide +kernel
theorem dX8_relation_12 : decode cX8_relation 12 = .ok (.invokevirtual 296, 3) := by decide +kernel
theorem dX8_relation_15 : decode cX8_relation 15 = .ok (.goto 4, 3) := by decide +kernel
theorem dX8_relation_18 : decode cX8_relation 18 = .ok (.iconst (-1), 1) := by decide +kernel
theorem dX8_relation_19 : decode cX8_relation 19 = .ok (.ireturn, 1) := by decide +kernel
theorem dX8_play_0 : decode cX8_play 0 = .ok (.aload_n 0, 1) := by decide +kernel
theorem dX8_play_1 : decode cX8_play 1 = .ok (.iload_n 1, 1) := by decide +kernel
theorem dX8_play_2 : decode cX8_play 2 = .ok (.iload_n 2, 1) := by decide +kernel
theorem dX8_play_3 : decode cX8_play 3 = .ok (.invokevirtual 286, 3) := by decide +kernel
theorem dX8_play_6 : decode cX8_play 6 = .ok (.ifCond .ne 5, 3) := by decide +kernel
theorem dX8_play_9 : decode cX8_play 9 = .ok (.iconst (-1), 1) := by decide +kernel
theorem dX8_play_10 : decode cX8_play 10 = .ok (.ireturn, 1) := by decide +kernel
theorem dX8_play_11 : decode cX8_play 11 = .ok (.aload_n 0, 1) := by decide +kernel
theorem dX8_play_12 : decode cX8_play 12 = .ok (.getfield 19, 3) := by decide +kernel
theorem dX8_play_15 : decode cX8_play 15 = .ok (.iload_n 1, 1) := by decide +kernel
theorem dX8_play_16 : decode cX8_play 16 = .ok (.iload_n 2, 1) := by decide +kernel
theorem dX8_play_17 : decode cX8_play 17 = .ok (.invokevirtual 282, 3) := by decide +kernel
theorem dX8_play_20 : decode cX8_play 20 = .ok (.aload_n 0, 1) := by decide +kernel
theorem dX8_play_21 : decode cX8_play 21 = .ok (.getfield 19, 3) := by decide +kernel
theorem dX8_play_24 : decode cX8_play 24 = .ok (.iload_n 2, 1) := by decide +kernel
theorem dX8_play_25 : decode cX8_play 25 = .ok (.iload_n 1, 1) := by decide +kernel
theorem dX8_play_26 : decode cX8_play 26 = .ok (.invokevirtual 282, 3) := by decide +kernel
theorem dX8_play_29 : decode cX8_play 29 = .ok (.iadd, 1) := by decide +kernel
theorem dX8_play_30 : decode cX8_play 30 = .ok (.ireturn, 1) := by decide +kernel
theorem dX8_pairs_0 : decode cX8_pairs 0 = .ok (.iload_n 1, 1) := by decide +kernel
theorem dX8_pairs_1 : decode cX8_pairs 1 = .ok (.ifCond .lt 8, 3) := by decide +kernel
theorem dX8_pairs_4 : decode cX8_pairs 4 = .ok (.iload_n 1, 1) := by decide +kernel
theorem dX8_pairs_5 : decode cX8_pairs 5 = .ok (.iconst 5, 1) := by decide +kernel
theorem dX8_pairs_6 : decode cX8_pairs 6 = .ok (.if_icmp .le 5, 3) := by decide +kernel
theorem dX8_pairs_9 : decode cX8_pairs 9 = .ok (.iconst (-1), 1) := by decide +kernel
theorem dX8_pairs_10 : decode cX8_pairs 10 = .ok (.ireturn, 1) := by decide +kernel
theorem dX8_pairs_11 : decode cX8_pairs 11 = .ok (.iconst 0, 1) := by decide +kernel
theorem dX8_pairs_12 : decode cX8_pairs 12 = .ok (.istore_n 2, 1) := by decide +kernel
theorem dX8_pairs_13 : decode cX8_pairs 13 = .ok (.iconst 0, 1) := by decide +kernel
theorem dX8_pairs_14 : decode cX8_pairs 14 = .ok (.istore_n 3, 1) := by decide +kernel
theorem dX8_pairs_15 : decode cX8_pairs 15 = .ok (.iload_n 3, 1) := by decide +kernel
theorem dX8_pairs_16 : decode cX8_pairs 16 = .ok (.aload_n 0, 1) := by decide +kernel
theorem dX8_pairs_17 : decode cX8_pairs 17 = .ok (.getfield 12, 3) := by decide +kernel
theorem dX8_pairs_20 : decode cX8_pairs 20 = .ok (.getfield 102, 3) := by decide +kernel
theorem dX8_pairs_23 : decode cX8_pairs 23 = .ok (.if_icmp .ge 54, 3) := by decide +kernel
theorem dX8_pairs_26 : decode cX8_pairs 26 = .ok (.iload_n 3, 1) := by decide +kernel
theorem dX8_pairs_27 : decode cX8_pairs 27 = .ok (.iconst 1, 1) := by decide +kernel
theorem dX8_pairs_28 : decode cX8_pairs 28 = .ok (.iadd, 1) := by decide +kernel
theorem dX8_pairs_29 : decode cX8_pairs 29 = .ok (.istore 4, 2) := by decide +kernel
theorem dX8_pairs_31 : decode cX8_pairs 31 = .ok (.iload 4, 2) := by decide +kernel
theorem dX8_pairs_33 : decode cX8_pairs 33 = .ok (.aload_n 0, 1) := by decide +kernel
theorem dX8_pairs_34 : decode cX8_pairs 34 = .ok (.getfield 12, 3) := by decide +kernel
theorem dX8_pairs_37 : decode cX8_pairs 37 = .ok (.getfield 102, 3) := by decide +kernel
theorem dX8_pairs_40 : decode cX8_pairs 40 = .ok (.if_icmp .ge 31, 3) := by decide +kernel
theorem dX8_pairs_43 : decode cX8_pairs 43 = .ok (.iload_n 2, 1) := by decide +kernel
theorem dX8_pairs_44 : decode cX8_pairs 44 = .ok (.aload_n 0, 1) := by decide +kernel
theorem dX8_pairs_45 : decode cX8_pairs 45 = .ok (.iload_n 3, 1) := by decide +kernel
theorem dX8_pairs_46 : decode cX8_pairs 46 = .ok (.iload 4, 2) := by decide +kernel
theorem dX8_pairs_48 : decode cX8_pairs 48 = .ok (.invokevirtual 296, 3) := by decide +kernel
theorem dX8_pairs_51 : decode cX8_pairs 51 = .ok (.iload_n 1, 1) := by decide +kernel
theorem dX8_pairs_52 : decode cX8_pairs 52 = .ok (.if_icmp .ne 7, 3) := by decide +kernel
theorem dX8_pairs_55 : decode cX8_pairs 55 = .ok (.iconst 1, 1) := by decide +kernel
theorem dX8_pairs_56 : decode cX8_pairs 56 = .ok (.goto 4, 3) := by decide +kernel
theorem dX8_pairs_59 : decode cX8_pairs 59 = .ok (.iconst 0, 1) := by decide +kernel
theorem dX8_pairs_60 : decode cX8_pairs 60 = .ok (.invokestatic 159, 3) := by decide +kernel
theorem dX8_pairs_63 : decode cX8_pairs 63 = .ok (.iadd, 1) := by decide +kernel
theorem dX8_pairs_64 : decode cX8_pairs 64 = .ok (.istore_n 2, 1) := by decide +kernel
theorem dX8_pairs_65 : decode cX8_pairs 65 = .ok (.iinc 4 1, 3) := by decide +kernel
theorem dX8_pairs_68 : decode cX8_pairs 68 = .ok (.goto (-37), 3) := by decide +kernel
theorem dX8_pairs_71 : decode cX8_pairs 71 = .ok (.iinc 3 1, 3) := by decide +kernel
theorem dX8_pairs_74 : decode cX8_pairs 74 = .ok (.goto (-59), 3) := by decide +kernel
theorem dX8_pairs_77 : decode cX8_pairs 77 = .ok (.iload_n 2, 1) := by decide +kernel
theorem dX8_pairs_78 : decode cX8_pairs 78 = .ok (.ireturn, 1) := by decide +kernel
theorem dX8_ordered_0 : decode cX8_ordered 0 = .ok (.iload_n 1, 1) := by decide +kernel
theorem dX8_ordered_1 : decode cX8_ordered 1 = .ok (.ifCond .ge 5, 3) := by decide +kernel
theorem dX8_ordered_4 : decode cX8_ordered 4 = .ok (.iconst (-1), 1) := by decide +kernel
theorem dX8_ordered_5 : decode cX8_ordered 5 = .ok (.ireturn, 1) := by decide +kernel
theorem dX8_ordered_6 : decode cX8_ordered 6 = .ok (.iconst 0, 1) := by decide +kernel
theorem dX8_ordered_7 : decode cX8_ordered 7 = .ok (.istore_n 2, 1) := by decide +kernel
theorem dX8_ordered_8 : decode cX8_ordered 8 = .ok (.iload_n 2, 1) := by decide +kernel
theorem dX8_ordered_9 : decode cX8_ordered 9 = .ok (.aload_n 0, 1) := by decide +kernel
theorem dX8_ordered_10 : decode cX8_ordered 10 = .ok (.getfield 12, 3) := by decide +kernel
theorem dX8_ordered_13 : decode cX8_ordered 13 = .ok (.getfield 102, 3) := by decide +kernel
theorem dX8_ordered_16 : decode cX8_ordered 16 = .ok (.if_icmp .ge 23, 3) := by decide +kernel
theorem dX8_ordered_19 : decode cX8_ordered 19 = .ok (.aload_n 0, 1) := by decide +kernel
theorem dX8_ordered_20 : decode cX8_ordered 20 = .ok (.getfield 19, 3) := by decide +kernel
theorem dX8_ordered_23 : decode cX8_ordered 23 = .ok (.iload_n 2, 1) := by decide +kernel
theorem dX8_ordered_24 : decode cX8_ordered 24 = .ok (.invokevirtual 305, 3) := by decide +kernel
theorem dX8_ordered_27 : decode cX8_ordered 27 = .ok (.iload_n 1, 1) := by decide +kernel
theorem dX8_ordered_28 : decode cX8_ordered 28 = .ok (.if_icmp .ne 5, 3) := by decide +kernel
theorem dX8_ordered_31 : decode cX8_ordered 31 = .ok (.iload_n 2, 1) := by decide +kernel
theorem dX8_ordered_32 : decode cX8_ordered 32 = .ok (.ireturn, 1) := by decide +kernel
theorem dX8_ordered_33 : decode cX8_ordered 33 = .ok (.iinc 2 1, 3) := by decide +kernel
theorem dX8_ordered_36 : decode cX8_ordered 36 = .ok (.goto (-28), 3) := by decide +kernel
theorem dX8_ordered_39 : decode cX8_ordered 39 = .ok (.bipush (-2), 2) := by decide +kernel
theorem dX8_ordered_41 : decode cX8_ordered 41 = .ok (.ireturn, 1) := by decide +kernel
theorem dX8_middle_0 : decode cX8_middle 0 = .ok (.aload_n 0, 1) := by decide +kernel
theorem dX8_middle_1 : decode cX8_middle 1 = .ok (.iload_n 1, 1) := by decide +kernel
theorem dX8_middle_2 : decode cX8_middle 2 = .ok (.invokevirtual 163, 3) := by decide +kernel
theorem dX8_middle_5 : decode cX8_middle 5 = .ok (.ifCond .ne 5, 3) := by decide +kernel
theorem dX8_middle_8 : decode cX8_middle 8 = .ok (.iconst (-1), 1) := by decide +kernel
theorem dX8_middle_9 : decode cX8_middle 9 = .ok (.ireturn, 1) := by decide +kernel
theorem dX8_middle_10 : decode cX8_middle 10 = .ok (.aload_n 0, 1) := by decide +kernel
theorem dX8_middle_11 : decode cX8_middle 11 = .ok (.getfield 23, 3) := by decide +kernel
theorem dX8_middle_14 : decode cX8_middle 14 = .ok (.aload_n 0, 1) := by decide +kernel
theorem dX8_middle_15 : decode cX8_middle 15 = .ok (.getfield 19, 3) := by decide +kernel
theorem dX8_middle_18 : decode cX8_middle 18 = .ok (.invokevirtual 308, 3) := by decide +kernel
theorem dX8_middle_21 : decode cX8_middle 21 = .ok (.iconst 1, 1) := by decide +kernel
theorem dX8_middle_22 : decode cX8_middle 22 = .ok (.istore_n 2, 1) := by decide +kernel
theorem dX8_middle_23 : decode cX8_middle 23 = .ok (.iload_n 2, 1) := by decide +kernel
theorem dX8_middle_24 : decode cX8_middle 24 = .ok (.iload_n 1, 1) := by decide +kernel
theorem dX8_middle_25 : decode cX8_middle 25 = .ok (.if_icmp .gt 36, 3) := by decide +kernel
theorem dX8_middle_28 : decode cX8_middle 28 = .ok (.aload_n 0, 1) := by decide +kernel
theorem dX8_middle_29 : decode cX8_middle 29 = .ok (.getfield 23, 3) := by decide +kernel
theorem dX8_middle_32 : decode cX8_middle 32 = .ok (.iload_n 2, 1) := by decide +kernel
theorem dX8_middle_33 : decode cX8_middle 33 = .ok (.aload_n 0, 1) := by decide +kernel
theorem dX8_middle_34 : decode cX8_middle 34 = .ok (.getfield 23, 3) := by decide +kernel
theorem dX8_middle_37 : decode cX8_middle 37 = .ok (.iload_n 2, 1) := by decide +kernel
theorem dX8_middle_38 : decode cX8_middle 38 = .ok (.invokevirtual 220, 3) := by decide +kernel
theorem dX8_middle_41 : decode cX8_middle 41 = .ok (.aload_n 0, 1) := by decide +kernel
theorem dX8_middle_42 : decode cX8_middle 42 = .ok (.getfield 23, 3) := by decide +kernel
theorem dX8_middle_45 : decode cX8_middle 45 = .ok (.iload_n 2, 1) := by decide +kernel
theorem dX8_middle_46 : decode cX8_middle 46 = .ok (.invokevirtual 273, 3) := by decide +kernel
theorem dX8_middle_49 : decode cX8_middle 49 = .ok (.iadd, 1) := by decide +kernel
theorem dX8_middle_50 : decode cX8_middle 50 = .ok (.iconst 2, 1) := by decide +kernel
theorem dX8_middle_51 : decode cX8_middle 51 = .ok (.idiv, 1) := by decide +kernel
theorem dX8_middle_52 : decode cX8_middle 52 = .ok (.invokevirtual 312, 3) := by decide +kernel
theorem dX8_middle_55 : decode cX8_middle 55 = .ok (.iinc 2 1, 3) := by decide +kernel
theorem dX8_middle_58 : decode cX8_middle 58 = .ok (.goto (-35), 3) := by decide +kernel
theorem dX8_middle_61 : decode cX8_middle 61 = .ok (.aload_n 0, 1) := by decide +kernel
theorem dX8_middle_62 : decode cX8_middle 62 = .ok (.getfield 23, 3) := by decide +kernel
theorem dX8_middle_65 : decode cX8_middle 65 = .ok (.iload_n 1, 1) := by decide +kernel
theorem dX8_middle_66 : decode cX8_middle 66 = .ok (.invokevirtual 220, 3) := by decide +kernel
theorem dX8_middle_69 : decode cX8_middle 69 = .ok (.ireturn, 1) := by decide +kernel
theorem dX8_lastly_0 : decode cX8_lastly 0 = .ok (.iload_n 1, 1) := by decide +kernel
theorem dX8_lastly_1 : decode cX8_lastly 1 = .ok (.ifCond .ge 5, 3) := by decide +kernel
theorem dX8_lastly_4 : decode cX8_lastly 4 = .ok (.iconst (-1), 1) := by decide +kernel
theorem dX8_lastly_5 : decode cX8_lastly 5 = .ok (.ireturn, 1) := by decide +kernel
theorem dX8_lastly_6 : decode cX8_lastly 6 = .ok (.iconst 0, 1) := by decide +kernel
theorem dX8_lastly_7 : decode cX8_lastly 7 = .ok (.istore_n 2, 1) := by decide +kernel
theorem dX8_lastly_8 : decode cX8_lastly 8 = .ok (.iload_n 2, 1) := by decide +kernel
theorem dX8_lastly_9 : decode cX8_lastly 9 = .ok (.aload_n 0, 1) := by decide +kernel
theorem dX8_lastly_10 : decode cX8_lastly 10 = .ok (.getfield 12, 3) := by decide +kernel
theorem dX8_lastly_13 : decode cX8_lastly 13 = .ok (.getfield 102, 3) := by decide +kernel
theorem dX8_lastly_16 : decode cX8_lastly 16 = .ok (.if_icmp .ge 23, 3) := by decide +kernel
theorem dX8_lastly_19 : decode cX8_lastly 19 = .ok (.aload_n 0, 1) := by decide +kernel
theorem dX8_lastly_20 : decode cX8_lastly 20 = .ok (.getfield 19, 3) := by decide +kernel
theorem dX8_lastly_23 : decode cX8_lastly 23 = .ok (.iload_n 2, 1) := by decide +kernel
theorem dX8_lastly_24 : decode cX8_lastly 24 = .ok (.invokevirtual 316, 3) := by decide +kernel
theorem dX8_lastly_27 : decode cX8_lastly 27 = .ok (.iload_n 1, 1) := by decide +kernel
theorem dX8_lastly_28 : decode cX8_lastly 28 = .ok (.if_icmp .ne 5, 3) := by decide +kernel
theorem dX8_lastly_31 : decode cX8_lastly 31 = .ok (.iload_n 2, 1) := by decide +kernel
theorem dX8_lastly_32 : decode cX8_lastly 32 = .ok (.ireturn, 1) := by decide +kernel
theorem dX8_lastly_33 : decode cX8_lastly 33 = .ok (.iinc 2 1, 3) := by decide +kernel
theorem dX8_lastly_36 : decode cX8_lastly 36 = .ok (.goto (-28), 3) := by decide +kernel
theorem dX8_lastly_39 : decode cX8_lastly 39 = .ok (.bipush (-2), 2) := by decide +kernel
theorem dX8_lastly_41 : decode cX8_lastly 41 = .ok (.ireturn, 1) := by decide +kernel
theorem dX8_can_0 : decode cX8_can 0 = .ok (.aload_n 0, 1) := by decide +kernel
theorem dX8_can_1 : decode cX8_can 1 = .ok (.iload_n 1, 1) := by decide +kernel
theorem dX8_can_2 : decode cX8_can 2 = .ok (.invokevirtual 163, 3) := by decide +kernel
theorem dX8_can_5 : decode cX8_can 5 = .ok (.ifCond .eq 18, 3) := by decide +kernel
theorem dX8_can_8 : decode cX8_can 8 = .ok (.aload_n 0, 1) := by decide +kernel
theorem dX8_can_9 : decode cX8_can 9 = .ok (.getfield 19, 3) := by decide +kernel
theorem dX8_can_12 : decode cX8_can 12 = .ok (.iload_n 1, 1) := by decide +kernel
theorem dX8_can_13 : decode cX8_can 13 = .ok (.iload_n 2, 1) := by decide +kernel
theorem dX8_can_14 : decode cX8_can 14 = .ok (.invokevirtual 172, 3) := by decide +kernel
theorem dX8_can_17 : decode cX8_can 17 = .ok (.invokestatic 159, 3) := by decide +kernel
theorem dX8_can_20 : decode cX8_can 20 = .ok (.goto 4, 3) := by decide +kernel
theorem dX8_can_23 : decode cX8_can 23 = .ok (.iconst (-1), 1) := by decide +kernel
theorem dX8_can_24 : decode cX8_can 24 = .ok (.ireturn, 1) := by decide +kernel
theorem dX8_freest_0 : decode cX8_freest 0 = .ok (.iconst 0, 1) := by decide +kernel
theorem dX8_freest_1 : decode cX8_freest 1 = .ok (.istore_n 1, 1) := by decide +kernel
theorem dX8_freest_2 : decode cX8_freest 2 = .ok (.iconst 1, 1) := by decide +kernel
theorem dX8_freest_3 : decode cX8_freest 3 = .ok (.istore_n 2, 1) := by decide +kernel
theorem dX8_freest_4 : decode cX8_freest 4 = .ok (.iload_n 2, 1) := by decide +kernel
theorem dX8_freest_5 : decode cX8_freest 5 = .ok (.aload_n 0, 1) := by decide +kernel
theorem dX8_freest_6 : decode cX8_freest 6 = .ok (.getfield 12, 3) := by decide +kernel
theorem dX8_freest_9 : decode cX8_freest 9 = .ok (.getfield 102, 3) := by decide +kernel
theorem dX8_freest_12 : decode cX8_freest 12 = .ok (.if_icmp .ge 30, 3) := by decide +kernel
theorem dX8_freest_15 : decode cX8_freest 15 = .ok (.aload_n 0, 1) := by decide +kernel
theorem dX8_freest_16 : decode cX8_freest 16 = .ok (.getfield 19, 3) := by decide +kernel
theorem dX8_freest_19 : decode cX8_freest 19 = .ok (.iload_n 2, 1) := by decide +kernel
theorem dX8_freest_20 : decode cX8_freest 20 = .ok (.invokevirtual 276, 3) := by decide +kernel
theorem dX8_freest_23 : decode cX8_freest 23 = .ok (.aload_n 0, 1) := by decide +kernel
theorem dX8_freest_24 : decode cX8_freest 24 = .ok (.getfield 19, 3) := by decide +kernel
theorem dX8_freest_27 : decode cX8_freest 27 = .ok (.iload_n 1, 1) := by decide +kernel
theorem dX8_freest_28 : decode cX8_freest 28 = .ok (.invokevirtual 276, 3) := by decide +kernel
theorem dX8_freest_31 : decode cX8_freest 31 = .ok (.if_icmp .le 5, 3) := by decide +kernel
theorem dX8_freest_34 : decode cX8_freest 34 = .ok (.iload_n 2, 1) := by decide +kernel
theorem dX8_freest_35 : decode cX8_freest 35 = .ok (.istore_n 1, 1) := by decide +kernel
theorem dX8_freest_36 : decode cX8_freest 36 = .ok (.iinc 2 1, 3) := by decide +kernel
theorem dX8_freest_39 : decode cX8_freest 39 = .ok (.goto (-35), 3) := by decide +kernel
theorem dX8_freest_42 : decode cX8_freest 42 = .ok (.iload_n 1, 1) := by decide +kernel
theorem dX8_freest_43 : decode cX8_freest 43 = .ok (.ireturn, 1) := by decide +kernel
theorem dX8_why_0 : decode cX8_why 0 = .ok (.aload_n 0, 1) := by decide +kernel
theorem dX8_why_1 : decode cX8_why 1 = .ok (.iload_n 1, 1) := by decide +kernel
theorem dX8_why_2 : decode cX8_why 2 = .ok (.iload_n 2, 1) := by decide +kernel
theorem dX8_why_3 : decode cX8_why 3 = .ok (.iload_n 3, 1) := by decide +kernel
theorem dX8_why_4 : decode cX8_why 4 = .ok (.iload 4, 2) := by decide +kernel
theorem dX8_why_6 : decode cX8_why 6 = .ok (.invokevirtual 116, 3) := by decide +kernel
theorem dX8_why_9 : decode cX8_why 9 = .ok (.ifCond .eq 14, 3) := by decide +kernel
theorem dX8_why_12 : decode cX8_why 12 = .ok (.iload 5, 2) := by decide +kernel
theorem dX8_why_14 : decode cX8_why 14 = .ok (.ifCond .lt 9, 3) := by decide +kernel
theorem dX8_why_17 : decode cX8_why 17 = .ok (.iload 5, 2) := by decide +kernel
theorem dX8_why_19 : decode cX8_why 19 = .ok (.iconst 2, 1) := by decide +kernel
theorem dX8_why_20 : decode cX8_why 20 = .ok (.if_icmp .le 5, 3) := by decide +kernel
theorem dX8_why_23 : decode cX8_why 23 = .ok (.iconst (-1), 1) := by decide +kernel
theorem dX8_why_24 : decode cX8_why 24 = .ok (.ireturn, 1) := by decide +kernel
theorem dX8_why_25 : decode cX8_why 25 = .ok (.aload_n 0, 1) := by decide +kernel
theorem dX8_why_26 : decode cX8_why 26 = .ok (.getfield 19, 3) := by decide +kernel
theorem dX8_why_29 : decode cX8_why 29 = .ok (.iload_n 1, 1) := by decide +kernel
theorem dX8_why_30 : decode cX8_why 30 = .ok (.iload_n 2, 1) := by decide +kernel
theorem dX8_why_31 : decode cX8_why 31 = .ok (.iload_n 3, 1) := by decide +kernel
theorem dX8_why_32 : decode cX8_why 32 = .ok (.iload 4, 2) := by decide +kernel
theorem dX8_why_34 : decode cX8_why 34 = .ok (.invokevirtual 120, 3) := by decide +kernel
theorem dX8_why_37 : decode cX8_why 37 = .ok (.istore 6, 2) := by decide +kernel
theorem dX8_why_39 : decode cX8_why 39 = .ok (.iload 6, 2) := by decide +kernel
theorem dX8_why_41 : decode cX8_why 41 = .ok (.ifCond .lt 15, 3) := by decide +kernel
theorem dX8_why_44 : decode cX8_why 44 = .ok (.iload 5, 2) := by decide +kernel
theorem dX8_why_46 : decode cX8_why 46 = .ok (.ifCond .ne 7, 3) := by decide +kernel
theorem dX8_why_49 : decode cX8_why 49 = .ok (.iconst 0, 1) := by decide +kernel
theorem dX8_why_50 : decode cX8_why 50 = .ok (.goto 5, 3) := by decide +kernel
theorem dX8_why_53 : decode cX8_why 53 = .ok (.bipush (-2), 2) := by decide +kernel
theorem dX8_why_55 : decode cX8_why 55 = .ok (.ireturn, 1) := by decide +kernel
theorem dX8_why_56 : decode cX8_why 56 = .ok (.iload 5, 2) := by decide +kernel
theorem dX8_why_58 : decode cX8_why 58 = .ok (.lookupswitch 51 #[(0, 26), (1, 47)], 26) := by decide +kernel
theorem dX8_why_84 : decode cX8_why 84 = .ok (.aload_n 0, 1) := by decide +kernel
theorem dX8_why_85 : decode cX8_why 85 = .ok (.getfield 19, 3) := by decide +kernel
theorem dX8_why_88 : decode cX8_why 88 = .ok (.iload_n 1, 1) := by decide +kernel
theorem dX8_why_89 : decode cX8_why 89 = .ok (.iload_n 2, 1) := by decide +kernel
theorem dX8_why_90 : decode cX8_why 90 = .ok (.iload_n 3, 1) := by decide +kernel
theorem dX8_why_91 : decode cX8_why 91 = .ok (.iload 4, 2) := by decide +kernel
theorem dX8_why_93 : decode cX8_why 93 = .ok (.invokevirtual 319, 3) := by decide +kernel
theorem dX8_why_96 : decode cX8_why 96 = .ok (.ifCond .eq 7, 3) := by decide +kernel
theorem dX8_why_99 : decode cX8_why 99 = .ok (.iconst 1, 1) := by decide +kernel
theorem dX8_why_100 : decode cX8_why 100 = .ok (.goto 4, 3) := by decide +kernel
theorem dX8_why_103 : decode cX8_why 103 = .ok (.iconst 2, 1) := by decide +kernel
theorem dX8_why_104 : decode cX8_why 104 = .ok (.ireturn, 1) := by decide +kernel
theorem dX8_why_105 : decode cX8_why 105 = .ok (.iload 6, 2) := by decide +kernel
theorem dX8_why_107 : decode cX8_why 107 = .ok (.ineg, 1) := by decide +kernel
theorem dX8_why_108 : decode cX8_why 108 = .ok (.ireturn, 1) := by decide +kernel
theorem dX8_why_109 : decode cX8_why 109 = .ok (.aload_n 0, 1) := by decide +kernel
theorem dX8_why_110 : decode cX8_why 110 = .ok (.iload_n 1, 1) := by decide +kernel
theorem dX8_why_111 : decode cX8_why 111 = .ok (.iload_n 2, 1) := by decide +kernel
theorem dX8_why_112 : decode cX8_why 112 = .ok (.iload_n 3, 1) := by decide +kernel
theorem dX8_why_113 : decode cX8_why 113 = .ok (.iconst 0, 1) := by decide +kernel
theorem dX8_why_114 : decode cX8_why 114 = .ok (.invokevirtual 322, 3) := by decide +kernel
theorem dX8_why_117 : decode cX8_why 117 = .ok (.ireturn, 1) := by decide +kernel
theorem dX8_ring_0 : decode cX8_ring 0 = .ok (.aload_n 0, 1) := by decide +kernel
theorem dX8_ring_1 : decode cX8_ring 1 = .ok (.iload_n 1, 1) := by decide +kernel
theorem dX8_ring_2 : decode cX8_ring 2 = .ok (.iload_n 2, 1) := by decide +kernel
theorem dX8_ring_3 : decode cX8_ring 3 = .ok (.iload_n 3, 1) := by decide +kernel
theorem dX8_ring_4 : decode cX8_ring 4 = .ok (.iload 4, 2) := by decide +kernel
theorem dX8_ring_6 : decode cX8_ring 6 = .ok (.invokevirtual 116, 3) := by decide +kernel
theorem dX8_ring_9 : decode cX8_ring 9 = .ok (.ifCond .eq 8, 3) := by decide +kernel
theorem dX8_ring_12 : decode cX8_ring 12 = .ok (.iload 5, 2) := by decide +kernel
theorem dX8_ring_14 : decode cX8_ring 14 = .ok (.ifCond .ge 5, 3) := by decide +kernel
theorem dX8_ring_17 : decode cX8_ring 17 = .ok (.iconst (-1), 1) := by decide +kernel
theorem dX8_ring_18 : decode cX8_ring 18 = .ok (.ireturn, 1) := by decide +kernel
theorem dX8_ring_19 : decode cX8_ring 19 = .ok (.aload_n 0, 1) := by decide +kernel
theorem dX8_ring_20 : decode cX8_ring 20 = .ok (.getfield 19, 3) := by decide +kernel
theorem dX8_ring_23 : decode cX8_ring 23 = .ok (.iload_n 1, 1) := by decide +kernel
theorem dX8_ring_24 : decode cX8_ring 24 = .ok (.iload_n 2, 1) := by decide +kernel
theorem dX8_ring_25 : decode cX8_ring 25 = .ok (.iload_n 3, 1) := by decide +kernel
theorem dX8_ring_26 : decode cX8_ring 26 = .ok (.iload 4, 2) := by decide +kernel
theorem dX8_ring_28 : decode cX8_ring 28 = .ok (.invokevirtual 120, 3) := by decide +kernel
theorem dX8_ring_31 : decode cX8_ring 31 = .ok (.ifCond .lt 6, 3) := by decide +kernel
theorem dX8_ring_34 : decode cX8_ring 34 = .ok (.bipush (-2), 2) := by decide +kernel
theorem dX8_ring_36 : decode cX8_ring 36 = .ok (.ireturn, 1) := by decide +kernel
theorem dX8_ring_37 : decode cX8_ring 37 = .ok (.aload_n 0, 1) := by decide +kernel
theorem dX8_ring_38 : decode cX8_ring 38 = .ok (.iload_n 1, 1) := by decide +kernel
theorem dX8_ring_39 : decode cX8_ring 39 = .ok (.iload_n 2, 1) := by decide +kernel
theorem dX8_ring_40 : decode cX8_ring 40 = .ok (.iload_n 3, 1) := by decide +kernel
theorem dX8_ring_41 : decode cX8_ring 41 = .ok (.iload 5, 2) := by decide +kernel
theorem dX8_ring_43 : decode cX8_ring 43 = .ok (.invokevirtual 322, 3) := by decide +kernel
theorem dX8_ring_46 : decode cX8_ring 46 = .ok (.ireturn, 1) := by decide +kernel
theorem dX8_culprit_0 : decode cX8_culprit 0 = .ok (.aload_n 0, 1) := by decide +kernel
theorem dX8_culprit_1 : decode cX8_culprit 1 = .ok (.iload_n 1, 1) := by decide +kernel
theorem dX8_culprit_2 : decode cX8_culprit 2 = .ok (.iload_n 2, 1) := by decide +kernel
theorem dX8_culprit_3 : decode cX8_culprit 3 = .ok (.iload_n 3, 1) := by decide +kernel
theorem dX8_culprit_4 : decode cX8_culprit 4 = .ok (.iload 4, 2) := by decide +kernel
theorem dX8_culprit_6 : decode cX8_culprit 6 = .ok (.invokevirtual 116, 3) := by decide +kernel
theorem dX8_culprit_9 : decode cX8_culprit 9 = .ok (.ifCond .ne 5, 3) := by decide +kernel
theorem dX8_culprit_12 : decode cX8_culprit 12 = .ok (.iconst (-1), 1) := by decide +kernel
theorem dX8_culprit_13 : decode cX8_culprit 13 = .ok (.ireturn, 1) := by decide +kernel
theorem dX8_culprit_14 : decode cX8_culprit 14 = .ok (.aload_n 0, 1) := by decide +kernel
theorem dX8_culprit_15 : decode cX8_culprit 15 = .ok (.getfield 19, 3) := by decide +kernel
theorem dX8_culprit_18 : decode cX8_culprit 18 = .ok (.iload_n 1, 1) := by decide +kernel
theorem dX8_culprit_19 : decode cX8_culprit 19 = .ok (.iload_n 2, 1) := by decide +kernel
theorem dX8_culprit_20 : decode cX8_culprit 20 = .ok (.iload_n 3, 1) := by decide +kernel
theorem dX8_culprit_21 : decode cX8_culprit 21 = .ok (.iload 4, 2) := by decide +kernel
theorem dX8_culprit_23 : decode cX8_culprit 23 = .ok (.invokevirtual 120, 3) := by decide +kernel
theorem dX8_culprit_26 : decode cX8_culprit 26 = .ok (.ifCond .lt 6, 3) := by decide +kernel
theorem dX8_culprit_29 : decode cX8_culprit 29 = .ok (.bipush (-2), 2) := by decide +kernel
theorem dX8_culprit_31 : decode cX8_culprit 31 = .ok (.ireturn, 1) := by decide +kernel
theorem dX8_culprit_32 : decode cX8_culprit 32 = .ok (.iconst 0, 1) := by decide +kernel
theorem dX8_culprit_33 : decode cX8_culprit 33 = .ok (.istore 5, 2) := by decide +kernel
theorem dX8_culprit_35 : decode cX8_culprit 35 = .ok (.iload 5, 2) := by decide +kernel
theorem dX8_culprit_37 : decode cX8_culprit 37 = .ok (.aload_n 0, 1) := by decide +kernel
theorem dX8_culprit_38 : decode cX8_culprit 38 = .ok (.getfield 12, 3) := by decide +kernel
theorem dX8_culprit_41 : decode cX8_culprit 41 = .ok (.getfield 96, 3) := by decide +kernel
theorem dX8_culprit_44 : decode cX8_culprit 44 = .ok (.if_icmp .ge 46, 3) := by decide +kernel
theorem dX8_culprit_47 : decode cX8_culprit 47 = .ok (.aload_n 0, 1) := by decide +kernel
theorem dX8_culprit_48 : decode cX8_culprit 48 = .ok (.getfield 12, 3) := by decide +kernel
theorem dX8_culprit_51 : decode cX8_culprit 51 = .ok (.getfield 151, 3) := by decide +kernel
theorem dX8_culprit_54 : decode cX8_culprit 54 = .ok (.iload 5, 2) := by decide +kernel
theorem dX8_culprit_56 : decode cX8_culprit 56 = .ok (.baload, 1) := by decide +kernel
theorem dX8_culprit_57 : decode cX8_culprit 57 = .ok (.ifCond .eq 27, 3) := by decide +kernel
theorem dX8_culprit_60 : decode cX8_culprit 60 = .ok (.aload_n 0, 1) := by decide +kernel
theorem dX8_culprit_61 : decode cX8_culprit 61 = .ok (.iload 5, 2) := by decide +kernel
theorem dX8_culprit_63 : decode cX8_culprit 63 = .ok (.invokevirtual 201, 3) := by decide +kernel
theorem dX8_culprit_66 : decode cX8_culprit 66 = .ok (.aload_n 0, 1) := by decide +kernel
theorem dX8_culprit_67 : decode cX8_culprit 67 = .ok (.getfield 23, 3) := by decide +kernel
theorem dX8_culprit_70 : decode cX8_culprit 70 = .ok (.iload_n 1, 1) := by decide +kernel
theorem dX8_culprit_71 : decode cX8_culprit 71 = .ok (.iload_n 2, 1) := by decide +kernel
theorem dX8_culprit_72 : decode cX8_culprit 72 = .ok (.iload_n 3, 1) := by decide +kernel
theorem dX8_culprit_73 : decode cX8_culprit 73 = .ok (.iload 4, 2) := by decide +kernel
theorem dX8_culprit_75 : decode cX8_culprit 75 = .ok (.invokevirtual 120, 3) := by decide +kernel
theorem dX8_culprit_78 : decode cX8_culprit 78 = .ok (.ifCond .lt 6, 3) := by decide +kernel
theorem dX8_culprit_81 : decode cX8_culprit 81 = .ok (.iload 5, 2) := by decide +kernel
theorem dX8_culprit_83 : decode cX8_culprit 83 = .ok (.ireturn, 1) := by decide +kernel
theorem dX8_culprit_84 : decode cX8_culprit 84 = .ok (.iinc 5 1, 3) := by decide +kernel
theorem dX8_culprit_87 : decode cX8_culprit 87 = .ok (.goto (-52), 3) := by decide +kernel
theorem dX8_culprit_90 : decode cX8_culprit 90 = .ok (.bipush (-2), 2) := by decide +kernel
theorem dX8_culprit_92 : decode cX8_culprit 92 = .ok (.ireturn, 1) := by decide +kernel
theorem dX8_tightest_0 : decode cX8_tightest 0 = .ok (.aload_n 0, 1) := by decide +kernel
theorem dX8_tightest_1 : decode cX8_tightest 1 = .ok (.iload_n 1, 1) := by decide +kernel
theorem dX8_tightest_2 : decode cX8_tightest 2 = .ok (.iload_n 2, 1) := by decide +kernel
theorem dX8_tightest_3 : decode cX8_tightest 3 = .ok (.invokevirtual 286, 3) := by decide +kernel
theorem dX8_tightest_6 : decode cX8_tightest 6 = .ok (.ifCond .eq 10, 3) := by decide +kernel
theorem dX8_tightest_9 : decode cX8_tightest 9 = .ok (.iload_n 3, 1) := by decide +kernel
theorem dX8_tightest_10 : decode cX8_tightest 10 = .ok (.invokestatic 325, 3) := by decide +kernel
theorem dX8_tightest_13 : decode cX8_tightest 13 = .ok (.ifCond .ne 5, 3) := by decide +kernel
theorem dX8_tightest_16 : decode cX8_tightest 16 = .ok (.iconst (-1), 1) := by decide +kernel
theorem dX8_tightest_17 : decode cX8_tightest 17 = .ok (.ireturn, 1) := by decide +kernel
theorem dX8_tightest_18 : decode cX8_tightest 18 = .ok (.aload_n 0, 1) := by decide +kernel
theorem dX8_tightest_19 : decode cX8_tightest 19 = .ok (.iload_n 1, 1) := by decide +kernel
theorem dX8_tightest_20 : decode cX8_tightest 20 = .ok (.iload_n 2, 1) := by decide +kernel
theorem dX8_tightest_21 : decode cX8_tightest 21 = .ok (.iload_n 3, 1) := by decide +kernel
theorem dX8_tightest_22 : decode cX8_tightest 22 = .ok (.invokevirtual 328, 3) := by decide +kernel
theorem dX8_tightest_25 : decode cX8_tightest 25 = .ok (.ireturn, 1) := by decide +kernel
theorem dX8_spare_0 : decode cX8_spare 0 = .ok (.aload_n 0, 1) := by decide +kernel
theorem dX8_spare_1 : decode cX8_spare 1 = .ok (.iload_n 1, 1) := by decide +kernel
theorem dX8_spare_2 : decode cX8_spare 2 = .ok (.invokevirtual 137, 3) := by decide +kernel
theorem dX8_spare_5 : decode cX8_spare 5 = .ok (.ifCond .ne 5, 3) := by decide +kernel
theorem dX8_spare_8 : decode cX8_spare 8 = .ok (.iconst (-1), 1) := by decide +kernel
theorem dX8_spare_9 : decode cX8_spare 9 = .ok (.ireturn, 1) := by decide +kernel
theorem dX8_spare_10 : decode cX8_spare 10 = .ok (.aload_n 0, 1) := by decide +kernel
theorem dX8_spare_11 : decode cX8_spare 11 = .ok (.getfield 12, 3) := by decide +kernel
theorem dX8_spare_14 : decode cX8_spare 14 = .ok (.getfield 151, 3) := by decide +kernel
theorem dX8_spare_17 : decode cX8_spare 17 = .ok (.iload_n 1, 1) := by decide +kernel
theorem dX8_spare_18 : decode cX8_spare 18 = .ok (.baload, 1) := by decide +kernel
theorem dX8_spare_19 : decode cX8_spare 19 = .ok (.ifCond .ne 6, 3) := by decide +kernel
theorem dX8_spare_22 : decode cX8_spare 22 = .ok (.bipush (-3), 2) := by decide +kernel
theorem dX8_spare_24 : decode cX8_spare 24 = .ok (.ireturn, 1) := by decide +kernel
theorem dX8_spare_25 : decode cX8_spare 25 = .ok (.aload_n 0, 1) := by decide +kernel
theorem dX8_spare_26 : decode cX8_spare 26 = .ok (.aload_n 0, 1) := by decide +kernel
theorem dX8_spare_27 : decode cX8_spare 27 = .ok (.getfield 12, 3) := by decide +kernel
theorem dX8_spare_30 : decode cX8_spare 30 = .ok (.getfield 195, 3) := by decide +kernel
theorem dX8_spare_33 : decode cX8_spare 33 = .ok (.iload_n 1, 1) := by decide +kernel
theorem dX8_spare_34 : decode cX8_spare 34 = .ok (.iaload, 1) := by decide +kernel
theorem dX8_spare_35 : decode cX8_spare 35 = .ok (.aload_n 0, 1) := by decide +kernel
theorem dX8_spare_36 : decode cX8_spare 36 = .ok (.getfield 12, 3) := by decide +kernel
theorem dX8_spare_39 : decode cX8_spare 39 = .ok (.getfield 198, 3) := by decide +kernel
theorem dX8_spare_42 : decode cX8_spare 42 = .ok (.iload_n 1, 1) := by decide +kernel
theorem dX8_spare_43 : decode cX8_spare 43 = .ok (.iaload, 1) := by decide +kernel
theorem dX8_spare_44 : decode cX8_spare 44 = .ok (.aload_n 0, 1) := by decide +kernel
theorem dX8_spare_45 : decode cX8_spare 45 = .ok (.getfield 12, 3) := by decide +kernel
theorem dX8_spare_48 : decode cX8_spare 48 = .ok (.getfield 204, 3) := by decide +kernel
theorem dX8_spare_51 : decode cX8_spare 51 = .ok (.iload_n 1, 1) := by decide +kernel
theorem dX8_spare_52 : decode cX8_spare 52 = .ok (.iaload, 1) := by decide +kernel
theorem dX8_spare_53 : decode cX8_spare 53 = .ok (.invokevirtual 328, 3) := by decide +kernel
theorem dX8_spare_56 : decode cX8_spare 56 = .ok (.istore_n 2, 1) := by decide +kernel
theorem dX8_spare_57 : decode cX8_spare 57 = .ok (.aload_n 0, 1) := by decide +kernel
theorem dX8_spare_58 : decode cX8_spare 58 = .ok (.getfield 12, 3) := by decide +kernel
theorem dX8_spare_61 : decode cX8_spare 61 = .ok (.getfield 141, 3) := by decide +kernel
theorem dX8_spare_64 : decode cX8_spare 64 = .ok (.iload_n 1, 1) := by decide +kernel
theorem dX8_spare_65 : decode cX8_spare 65 = .ok (.iaload, 1) := by decide +kernel
theorem dX8_spare_66 : decode cX8_spare 66 = .ok (.iload_n 2, 1) := by decide +kernel
theorem dX8_spare_67 : decode cX8_spare 67 = .ok (.isub, 1) := by decide +kernel
theorem dX8_spare_68 : decode cX8_spare 68 = .ok (.invokestatic 331, 3) := by decide +kernel
theorem dX8_spare_71 : decode cX8_spare 71 = .ok (.ireturn, 1) := by decide +kernel
theorem dX8_needless_0 : decode cX8_needless 0 = .ok (.aload_n 0, 1) := by decide +kernel
theorem dX8_needless_1 : decode cX8_needless 1 = .ok (.iconst 0, 1) := by decide +kernel
theorem dX8_needless_2 : decode cX8_needless 2 = .ok (.invokevirtual 217, 3) := by decide +kernel
theorem dX8_needless_5 : decode cX8_needless 5 = .ok (.ireturn, 1) := by decide +kernel
theorem dX8_needs_0 : decode cX8_needs 0 = .ok (.aload_n 0, 1) := by decide +kernel
theorem dX8_needs_1 : decode cX8_needs 1 = .ok (.iload_n 1, 1) := by decide +kernel
theorem dX8_needs_2 : decode cX8_needs 2 = .ok (.invokevirtual 163, 3) := by decide +kernel
theorem dX8_needs_5 : decode cX8_needs 5 = .ok (.ifCond .ne 5, 3) := by decide +kernel
theorem dX8_needs_8 : decode cX8_needs 8 = .ok (.iconst (-1), 1) := by decide +kernel
theorem dX8_needs_9 : decode cX8_needs 9 = .ok (.ireturn, 1) := by decide +kernel
theorem dX8_needs_10 : decode cX8_needs 10 = .ok (.iconst 0, 1) := by decide +kernel
theorem dX8_needs_11 : decode cX8_needs 11 = .ok (.istore_n 2, 1) := by decide +kernel
theorem dX8_needs_12 : decode cX8_needs 12 = .ok (.iconst 0, 1) := by decide +kernel
theorem dX8_needs_13 : decode cX8_needs 13 = .ok (.istore_n 3, 1) := by decide +kernel
theorem dX8_needs_14 : decode cX8_needs 14 = .ok (.iload_n 3, 1) := by decide +kernel
theorem dX8_needs_15 : decode cX8_needs 15 = .ok (.aload_n 0, 1) := by decide +kernel
theorem dX8_needs_16 : decode cX8_needs 16 = .ok (.getfield 12, 3) := by decide +kernel
theorem dX8_needs_19 : decode cX8_needs 19 = .ok (.getfield 96, 3) := by decide +kernel
theorem dX8_needs_22 : decode cX8_needs 22 = .ok (.if_icmp .ge 40, 3) := by decide +kernel
theorem dX8_needs_25 : decode cX8_needs 25 = .ok (.iload_n 2, 1) := by decide +kernel
theorem dX8_needs_26 : decode cX8_needs 26 = .ok (.aload_n 0, 1) := by decide +kernel
theorem dX8_needs_27 : decode cX8_needs 27 = .ok (.getfield 12, 3) := by decide +kernel
theorem dX8_needs_30 : decode cX8_needs 30 = .ok (.iload_n 3, 1) := by decide +kernel
theorem dX8_needs_31 : decode cX8_needs 31 = .ok (.iload_n 1, 1) := by decide +kernel
theorem dX8_needs_32 : decode cX8_needs 32 = .ok (.invokevirtual 336, 3) := by decide +kernel
theorem dX8_needs_35 : decode cX8_needs 35 = .ok (.ifCond .eq 15, 3) := by decide +kernel
theorem dX8_needs_38 : decode cX8_needs 38 = .ok (.aload_n 0, 1) := by decide +kernel
theorem dX8_needs_39 : decode cX8_needs 39 = .ok (.iload_n 3, 1) := by decide +kernel
theorem dX8_needs_40 : decode cX8_needs 40 = .ok (.invokevirtual 264, 3) := by decide +kernel
theorem dX8_needs_43 : decode cX8_needs 43 = .ok (.ifCond .eq 7, 3) := by decide +kernel
theorem dX8_needs_46 : decode cX8_needs 46 = .ok (.iconst 1, 1) := by decide +kernel
theorem dX8_needs_47 : decode cX8_needs 47 = .ok (.goto 4, 3) := by decide +kernel
theorem dX8_needs_50 : decode cX8_needs 50 = .ok (.iconst 0, 1) := by decide +kernel
theorem dX8_needs_51 : decode cX8_needs 51 = .ok (.invokestatic 159, 3) := by decide +kernel
theorem dX8_needs_54 : decode cX8_needs 54 = .ok (.iadd, 1) := by decide +kernel
theorem dX8_needs_55 : decode cX8_needs 55 = .ok (.istore_n 2, 1) := by decide +kernel
theorem dX8_needs_56 : decode cX8_needs 56 = .ok (.iinc 3 1, 3) := by decide +kernel
theorem dX8_needs_59 : decode cX8_needs 59 = .ok (.goto (-45), 3) := by decide +kernel
theorem dX8_needs_62 : decode cX8_needs 62 = .ok (.iload_n 2, 1) := by decide +kernel
theorem dX8_needs_63 : decode cX8_needs 63 = .ok (.ireturn, 1) := by decide +kernel
theorem dX8_ifTold_0 : decode cX8_ifTold 0 = .ok (.aload_n 0, 1) := by decide +kernel
theorem dX8_ifTold_1 : decode cX8_ifTold 1 = .ok (.iload_n 1, 1) := by decide +kernel
theorem dX8_ifTold_2 : decode cX8_ifTold 2 = .ok (.iload_n 2, 1) := by decide +kernel
theorem dX8_ifTold_3 : decode cX8_ifTold 3 = .ok (.iload_n 3, 1) := by decide +kernel
theorem dX8_ifTold_4 : decode cX8_ifTold 4 = .ok (.iload 4, 2) := by decide +kernel
theorem dX8_ifTold_6 : decode cX8_ifTold 6 = .ok (.invokevirtual 116, 3) := by decide +kernel
theorem dX8_ifTold_9 : decode cX8_ifTold 9 = .ok (.ifCond .eq 11, 3) := by decide +kernel
theorem dX8_ifTold_12 : decode cX8_ifTold 12 = .ok (.iload 5, 2) := by decide +kernel
theorem dX8_ifTold_14 : decode cX8_ifTold 14 = .ok (.invokestatic 339, 3) := by decide +kernel
theorem dX8_ifTold_17 : decode cX8_ifTold 17 = .ok (.ifCond .ne 5, 3) := by decide +kernel
theorem dX8_ifTold_20 : decode cX8_ifTold 20 = .ok (.iconst (-1), 1) := by decide +kernel
theorem dX8_ifTold_21 : decode cX8_ifTold 21 = .ok (.ireturn, 1) := by decide +kernel
theorem dX8_ifTold_22 : decode cX8_ifTold 22 = .ok (.aload_n 0, 1) := by decide +kernel
theorem dX8_ifTold_23 : decode cX8_ifTold 23 = .ok (.getfield 19, 3) := by decide +kernel
theorem dX8_ifTold_26 : decode cX8_ifTold 26 = .ok (.iload_n 1, 1) := by decide +kernel
theorem dX8_ifTold_27 : decode cX8_ifTold 27 = .ok (.iload_n 2, 1) := by decide +kernel
theorem dX8_ifTold_28 : decode cX8_ifTold 28 = .ok (.iload_n 3, 1) := by decide +kernel
theorem dX8_ifTold_29 : decode cX8_ifTold 29 = .ok (.iload 4, 2) := by decide +kernel
theorem dX8_ifTold_31 : decode cX8_ifTold 31 = .ok (.invokevirtual 120, 3) := by decide +kernel
theorem dX8_ifTold_34 : decode cX8_ifTold 34 = .ok (.ifCond .ge 6, 3) := by decide +kernel
theorem dX8_ifTold_37 : decode cX8_ifTold 37 = .ok (.bipush (-5), 2) := by decide +kernel
theorem dX8_ifTold_39 : decode cX8_ifTold 39 = .ok (.ireturn, 1) := by decide +kernel
theorem dX8_ifTold_40 : decode cX8_ifTold 40 = .ok (.aload_n 0, 1) := by decide +kernel
theorem dX8_ifTold_41 : decode cX8_ifTold 41 = .ok (.getfield 23, 3) := by decide +kernel
theorem dX8_ifTold_44 : decode cX8_ifTold 44 = .ok (.aload_n 0, 1) := by decide +kernel
theorem dX8_ifTold_45 : decode cX8_ifTold 45 = .ok (.getfield 19, 3) := by decide +kernel
theorem dX8_ifTold_48 : decode cX8_ifTold 48 = .ok (.invokevirtual 308, 3) := by decide +kernel
theorem dX8_ifTold_51 : decode cX8_ifTold 51 = .ok (.aload_n 0, 1) := by decide +kernel
theorem dX8_ifTold_52 : decode cX8_ifTold 52 = .ok (.getfield 23, 3) := by decide +kernel
theorem dX8_ifTold_55 : decode cX8_ifTold 55 = .ok (.iload_n 1, 1) := by decide +kernel
theorem dX8_ifTold_56 : decode cX8_ifTold 56 = .ok (.iload_n 2, 1) := by decide +kernel
theorem dX8_ifTold_57 : decode cX8_ifTold 57 = .ok (.iload_n 3, 1) := by decide +kernel
theorem dX8_ifTold_58 : decode cX8_ifTold 58 = .ok (.iload 4, 2) := by decide +kernel
theorem dX8_ifTold_60 : decode cX8_ifTold 60 = .ok (.invokevirtual 342, 3) := by decide +kernel
theorem dX8_ifTold_63 : decode cX8_ifTold 63 = .ok (.aload_n 0, 1) := by decide +kernel
theorem dX8_ifTold_64 : decode cX8_ifTold 64 = .ok (.iload 5, 2) := by decide +kernel
theorem dX8_ifTold_66 : decode cX8_ifTold 66 = .ok (.invokevirtual 346, 3) := by decide +kernel
theorem dX8_ifTold_69 : decode cX8_ifTold 69 = .ok (.ireturn, 1) := by decide +kernel
theorem dX8_ifDropped_0 : decode cX8_ifDropped 0 = .ok (.aload_n 0, 1) := by decide +kernel
theorem dX8_ifDropped_1 : decode cX8_ifDropped 1 = .ok (.iload_n 1, 1) := by decide +kernel
theorem dX8_ifDropped_2 : decode cX8_ifDropped 2 = .ok (.invokevirtual 137, 3) := by decide +kernel
theorem dX8_ifDropped_5 : decode cX8_ifDropped 5 = .ok (.ifCond .eq 10, 3) := by decide +kernel
theorem dX8_ifDropped_8 : decode cX8_ifDropped 8 = .ok (.iload_n 2, 1) := by decide +kernel
theorem dX8_ifDropped_9 : decode cX8_ifDropped 9 = .ok (.invokestatic 339, 3) := by decide +kernel
theorem dX8_ifDropped_12 : decode cX8_ifDropped 12 = .ok (.ifCond .ne 5, 3) := by decide +kernel
theorem dX8_ifDropped_15 : decode cX8_ifDropped 15 = .ok (.iconst (-1), 1) := by decide +kernel
theorem dX8_ifDropped_16 : decode cX8_ifDropped 16 = .ok (.ireturn, 1) := by decide +kernel
theorem dX8_ifDropped_17 : decode cX8_ifDropped 17 = .ok (.aload_n 0, 1) := by decide +kernel
theorem dX8_ifDropped_18 : decode cX8_ifDropped 18 = .ok (.iload_n 1, 1) := by decide +kernel
theorem dX8_ifDropped_19 : decode cX8_ifDropped 19 = .ok (.invokevirtual 201, 3) := by decide +kernel
theorem dX8_ifDropped_22 : decode cX8_ifDropped 22 = .ok (.aload_n 0, 1) := by decide +kernel
theorem dX8_ifDropped_23 : decode cX8_ifDropped 23 = .ok (.iload_n 2, 1) := by decide +kernel
theorem dX8_ifDropped_24 : decode cX8_ifDropped 24 = .ok (.invokevirtual 346, 3) := by decide +kernel
theorem dX8_ifDropped_27 : decode cX8_ifDropped 27 = .ok (.ireturn, 1) := by decide +kernel
theorem dX8_ifTurned_0 : decode cX8_ifTurned 0 = .ok (.aload_n 0, 1) := by decide +kernel
theorem dX8_ifTurned_1 : decode cX8_ifTurned 1 = .ok (.iload_n 1, 1) := by decide +kernel
theorem dX8_ifTurned_2 : decode cX8_ifTurned 2 = .ok (.invokevirtual 137, 3) := by decide +kernel
theorem dX8_ifTurned_5 : decode cX8_ifTurned 5 = .ok (.ifCond .eq 10, 3) := by decide +kernel
theorem dX8_ifTurned_8 : decode cX8_ifTurned 8 = .ok (.iload_n 2, 1) := by decide +kernel
theorem dX8_ifTurned_9 : decode cX8_ifTurned 9 = .ok (.invokestatic 339, 3) := by decide +kernel
theorem dX8_ifTurned_12 : decode cX8_ifTurned 12 = .ok (.ifCond .ne 5, 3) := by decide +kernel
theorem dX8_ifTurned_15 : decode cX8_ifTurned 15 = .ok (.iconst (-1), 1) := by decide +kernel
theorem dX8_ifTurned_16 : decode cX8_ifTurned 16 = .ok (.ireturn, 1) := by decide +kernel
theorem dX8_ifTurned_17 : decode cX8_ifTurned 17 = .ok (.aload_n 0, 1) := by decide +kernel
theorem dX8_ifTurned_18 : decode cX8_ifTurned 18 = .ok (.getfield 12, 3) := by decide +kernel
theorem dX8_ifTurned_21 : decode cX8_ifTurned 21 = .ok (.getfield 151, 3) := by decide +kernel
theorem dX8_ifTurned_24 : decode cX8_ifTurned 24 = .ok (.iload_n 1, 1) := by decide +kernel
theorem dX8_ifTurned_25 : decode cX8_ifTurned 25 = .ok (.baload, 1) := by decide +kernel
theorem dX8_ifTurned_26 : decode cX8_ifTurned 26 = .ok (.ifCond .eq 14, 3) := by decide +kernel
theorem dX8_ifTurned_29 : decode cX8_ifTurned 29 = .ok (.aload_n 0, 1) := by decide +kernel
theorem dX8_ifTurned_30 : decode cX8_ifTurned 30 = .ok (.iload_n 1, 1) := by decide +kernel
theorem dX8_ifTurned_31 : decode cX8_ifTurned 31 = .ok (.invokevirtual 201, 3) := by decide +kernel
theorem dX8_ifTurned_34 : decode cX8_ifTurned 34 = .ok (.aload_n 0, 1) := by decide +kernel
theorem dX8_ifTurned_35 : decode cX8_ifTurned 35 = .ok (.iload_n 2, 1) := by decide +kernel
theorem dX8_ifTurned_36 : decode cX8_ifTurned 36 = .ok (.invokevirtual 346, 3) := by decide +kernel
theorem dX8_ifTurned_39 : decode cX8_ifTurned 39 = .ok (.ireturn, 1) := by decide +kernel
theorem dX8_ifTurned_40 : decode cX8_ifTurned 40 = .ok (.aload_n 0, 1) := by decide +kernel
theorem dX8_ifTurned_41 : decode cX8_ifTurned 41 = .ok (.aload_n 0, 1) := by decide +kernel
theorem dX8_ifTurned_42 : decode cX8_ifTurned 42 = .ok (.getfield 12, 3) := by decide +kernel
theorem dX8_ifTurned_45 : decode cX8_ifTurned 45 = .ok (.getfield 195, 3) := by decide +kernel
theorem dX8_ifTurned_48 : decode cX8_ifTurned 48 = .ok (.iload_n 1, 1) := by decide +kernel
theorem dX8_ifTurned_49 : decode cX8_ifTurned 49 = .ok (.iaload, 1) := by decide +kernel
theorem dX8_ifTurned_50 : decode cX8_ifTurned 50 = .ok (.aload_n 0, 1) := by decide +kernel
theorem dX8_ifTurned_51 : decode cX8_ifTurned 51 = .ok (.getfield 12, 3) := by decide +kernel
theorem dX8_ifTurned_54 : decode cX8_ifTurned 54 = .ok (.getfield 198, 3) := by decide +kernel
theorem dX8_ifTurned_57 : decode cX8_ifTurned 57 = .ok (.iload_n 1, 1) := by decide +kernel
theorem dX8_ifTurned_58 : decode cX8_ifTurned 58 = .ok (.iaload, 1) := by decide +kernel
theorem dX8_ifTurned_59 : decode cX8_ifTurned 59 = .ok (.aload_n 0, 1) := by decide +kernel
theorem dX8_ifTurned_60 : decode cX8_ifTurned 60 = .ok (.getfield 12, 3) := by decide +kernel
theorem dX8_ifTurned_63 : decode cX8_ifTurned 63 = .ok (.getfield 204, 3) := by decide +kernel
theorem dX8_ifTurned_66 : decode cX8_ifTurned 66 = .ok (.iload_n 1, 1) := by decide +kernel
theorem dX8_ifTurned_67 : decode cX8_ifTurned 67 = .ok (.iaload, 1) := by decide +kernel
theorem dX8_ifTurned_68 : decode cX8_ifTurned 68 = .ok (.aload_n 0, 1) := by decide +kernel
theorem dX8_ifTurned_69 : decode cX8_ifTurned 69 = .ok (.getfield 12, 3) := by decide +kernel
theorem dX8_ifTurned_72 : decode cX8_ifTurned 72 = .ok (.getfield 141, 3) := by decide +kernel
theorem dX8_ifTurned_75 : decode cX8_ifTurned 75 = .ok (.iload_n 1, 1) := by decide +kernel
theorem dX8_ifTurned_76 : decode cX8_ifTurned 76 = .ok (.iaload, 1) := by decide +kernel
theorem dX8_ifTurned_77 : decode cX8_ifTurned 77 = .ok (.iload_n 2, 1) := by decide +kernel
theorem dX8_ifTurned_78 : decode cX8_ifTurned 78 = .ok (.invokevirtual 349, 3) := by decide +kernel
theorem dX8_ifTurned_81 : decode cX8_ifTurned 81 = .ok (.ireturn, 1) := by decide +kernel
theorem dX8_ifPinned_0 : decode cX8_ifPinned 0 = .ok (.aload_n 0, 1) := by decide +kernel
theorem dX8_ifPinned_1 : decode cX8_ifPinned 1 = .ok (.iload_n 1, 1) := by decide +kernel
theorem dX8_ifPinned_2 : decode cX8_ifPinned 2 = .ok (.invokevirtual 163, 3) := by decide +kernel
theorem dX8_ifPinned_5 : decode cX8_ifPinned 5 = .ok (.ifCond .eq 18, 3) := by decide +kernel
theorem dX8_ifPinned_8 : decode cX8_ifPinned 8 = .ok (.aload_n 0, 1) := by decide +kernel
theorem dX8_ifPinned_9 : decode cX8_ifPinned 9 = .ok (.iload_n 2, 1) := by decide +kernel
theorem dX8_ifPinned_10 : decode cX8_ifPinned 10 = .ok (.invokevirtual 166, 3) := by decide +kernel
theorem dX8_ifPinned_13 : decode cX8_ifPinned 13 = .ok (.ifCond .eq 10, 3) := by decide +kernel
theorem dX8_ifPinned_16 : decode cX8_ifPinned 16 = .ok (.iload_n 3, 1) := by decide +kernel
theorem dX8_ifPinned_17 : decode cX8_ifPinned 17 = .ok (.invokestatic 339, 3) := by decide +kernel
theorem dX8_ifPinned_20 : decode cX8_ifPinned 20 = .ok (.ifCond .ne 5, 3) := by decide +kernel
theorem dX8_ifPinned_23 : decode cX8_ifPinned 23 = .ok (.iconst (-1), 1) := by decide +kernel
theorem dX8_ifPinned_24 : decode cX8_ifPinned 24 = .ok (.ireturn, 1) := by decide +kernel
theorem dX8_ifPinned_25 : decode cX8_ifPinned 25 = .ok (.aload_n 0, 1) := by decide +kernel
theorem dX8_ifPinned_26 : decode cX8_ifPinned 26 = .ok (.iload_n 1, 1) := by decide +kernel
theorem dX8_ifPinned_27 : decode cX8_ifPinned 27 = .ok (.invokevirtual 169, 3) := by decide +kernel
theorem dX8_ifPinned_30 : decode cX8_ifPinned 30 = .ok (.ifCond .ne 6, 3) := by decide +kernel
theorem dX8_ifPinned_33 : decode cX8_ifPinned 33 = .ok (.bipush (-3), 2) := by decide +kernel
theorem dX8_ifPinned_35 : decode cX8_ifPinned 35 = .ok (.ireturn, 1) := by decide +kernel
theorem dX8_ifPinned_36 : decode cX8_ifPinned 36 = .ok (.aload_n 0, 1) := by decide +kernel
theorem dX8_ifPinned_37 : decode cX8_ifPinned 37 = .ok (.getfield 19, 3) := by decide +kernel
theorem dX8_ifPinned_40 : decode cX8_ifPinned 40 = .ok (.iload_n 1, 1) := by decide +kernel
theorem dX8_ifPinned_41 : decode cX8_ifPinned 41 = .ok (.iload_n 2, 1) := by decide +kernel
theorem dX8_ifPinned_42 : decode cX8_ifPinned 42 = .ok (.invokevirtual 172, 3) := by decide +kernel
theorem dX8_ifPinned_45 : decode cX8_ifPinned 45 = .ok (.ifCond .ne 6, 3) := by decide +kernel
theorem dX8_ifPinned_48 : decode cX8_ifPinned 48 = .ok (.bipush (-5), 2) := by decide +kernel
theorem dX8_ifPinned_50 : decode cX8_ifPinned 50 = .ok (.ireturn, 1) := by decide +kernel
theorem dX8_ifPinned_51 : decode cX8_ifPinned 51 = .ok (.aload_n 0, 1) := by decide +kernel
theorem dX8_ifPinned_52 : decode cX8_ifPinned 52 = .ok (.getfield 23, 3) := by decide +kernel
theorem dX8_ifPinned_55 : decode cX8_ifPinned 55 = .ok (.aload_n 0, 1) := by decide +kernel
theorem dX8_ifPinned_56 : decode cX8_ifPinned 56 = .ok (.getfield 19, 3) := by decide +kernel
theorem dX8_ifPinned_59 : decode cX8_ifPinned 59 = .ok (.invokevirtual 308, 3) := by decide +kernel
theorem dX8_ifPinned_62 : decode cX8_ifPinned 62 = .ok (.aload_n 0, 1) := by decide +kernel
theorem dX8_ifPinned_63 : decode cX8_ifPinned 63 = .ok (.getfield 23, 3) := by decide +kernel
theorem dX8_ifPinned_66 : decode cX8_ifPinned 66 = .ok (.iload_n 1, 1) := by decide +kernel
theorem dX8_ifPinned_67 : decode cX8_ifPinned 67 = .ok (.iload_n 2, 1) := by decide +kernel
theorem dX8_ifPinned_68 : decode cX8_ifPinned 68 = .ok (.invokevirtual 312, 3) := by decide +kernel
theorem dX8_ifPinned_71 : decode cX8_ifPinned 71 = .ok (.aload_n 0, 1) := by decide +kernel
theorem dX8_ifPinned_72 : decode cX8_ifPinned 72 = .ok (.iload_n 3, 1) := by decide +kernel
theorem dX8_ifPinned_73 : decode cX8_ifPinned 73 = .ok (.invokevirtual 346, 3) := by decide +kernel
theorem dX8_ifPinned_76 : decode cX8_ifPinned 76 = .ok (.ireturn, 1) := by decide +kernel
theorem dX8_leastEnd_0 : decode cX8_leastEnd 0 = .ok (.iconst 1, 1) := by decide +kernel
theorem dX8_leastEnd_1 : decode cX8_leastEnd 1 = .ok (.aload_n 0, 1) := by decide +kernel
theorem dX8_leastEnd_2 : decode cX8_leastEnd 2 = .ok (.getfield 19, 3) := by decide +kernel
theorem dX8_leastEnd_5 : decode cX8_leastEnd 5 = .ok (.invokevirtual 188, 3) := by decide +kernel
theorem dX8_leastEnd_8 : decode cX8_leastEnd 8 = .ok (.invokestatic 353, 3) := by decide +kernel
theorem dX8_leastEnd_11 : decode cX8_leastEnd 11 = .ok (.ireturn, 1) := by decide +kernel
theorem dX8_log_0 : decode cX8_log 0 = .ok (.iload_n 1, 1) := by decide +kernel
theorem dX8_log_1 : decode cX8_log 1 = .ok (.ifCond .lt 12, 3) := by decide +kernel
theorem dX8_log_4 : decode cX8_log 4 = .ok (.iload_n 2, 1) := by decide +kernel
theorem dX8_log_5 : decode cX8_log 5 = .ok (.ifCond .lt 8, 3) := by decide +kernel
theorem dX8_log_8 : decode cX8_log 8 = .ok (.iload_n 2, 1) := by decide +kernel
theorem dX8_log_9 : decode cX8_log 9 = .ok (.iconst 2, 1) := by decide +kernel
theorem dX8_log_10 : decode cX8_log 10 = .ok (.if_icmp .le 5, 3) := by decide +kernel
theorem dX8_log_13 : decode cX8_log 13 = .ok (.iconst (-1), 1) := by decide +kernel
theorem dX8_log_14 : decode cX8_log 14 = .ok (.ireturn, 1) := by decide +kernel
theorem dX8_log_15 : decode cX8_log 15 = .ok (.iload_n 1, 1) := by decide +kernel
theorem dX8_log_16 : decode cX8_log 16 = .ok (.aload_n 0, 1) := by decide +kernel
theorem dX8_log_17 : decode cX8_log 17 = .ok (.getfield 12, 3) := by decide +kernel
theorem dX8_log_20 : decode cX8_log 20 = .ok (.getfield 124, 3) := by decide +kernel
theorem dX8_log_23 : decode cX8_log 23 = .ok (.getfield 254, 3) := by decide +kernel
theorem dX8_log_26 : decode cX8_log 26 = .ok (.if_icmp .ge 18, 3) := by decide +kernel
theorem dX8_log_29 : decode cX8_log 29 = .ok (.aload_n 0, 1) := by decide +kernel
theorem dX8_log_30 : decode cX8_log 30 = .ok (.getfield 12, 3) := by decide +kernel
theorem dX8_log_33 : decode cX8_log 33 = .ok (.getfield 124, 3) := by decide +kernel
theorem dX8_log_36 : decode cX8_log 36 = .ok (.iload_n 1, 1) := by decide +kernel
theorem dX8_log_37 : decode cX8_log 37 = .ok (.iload_n 2, 1) := by decide +kernel
theorem dX8_log_38 : decode cX8_log 38 = .ok (.invokevirtual 356, 3) := by decide +kernel
theorem dX8_log_41 : decode cX8_log 41 = .ok (.goto 5, 3) := by decide +kernel
theorem dX8_log_44 : decode cX8_log 44 = .ok (.bipush (-2), 2) := by decide +kernel
theorem dX8_log_46 : decode cX8_log 46 = .ok (.ireturn, 1) := by decide +kernel
theorem dX8_tightShare_0 : decode cX8_tightShare 0 = .ok (.aload_n 0, 1) := by decide +kernel
theorem dX8_tightShare_1 : decode cX8_tightShare 1 = .ok (.getfield 12, 3) := by decide +kernel
theorem dX8_tightShare_4 : decode cX8_tightShare 4 = .ok (.invokevirtual 239, 3) := by decide +kernel
theorem dX8_tightShare_7 : decode cX8_tightShare 7 = .ok (.istore_n 1, 1) := by decide +kernel
theorem dX8_tightShare_8 : decode cX8_tightShare 8 = .ok (.iload_n 1, 1) := by decide +kernel
theorem dX8_tightShare_9 : decode cX8_tightShare 9 = .ok (.ifCond .ne 7, 3) := by decide +kernel
theorem dX8_tightShare_12 : decode cX8_tightShare 12 = .ok (.fconst 0, 1) := by decide +kernel
theorem dX8_tightShare_13 : decode cX8_tightShare 13 = .ok (.goto 11, 3) := by decide +kernel
theorem dX8_tightShare_16 : decode cX8_tightShare 16 = .ok (.aload_n 0, 1) := by decide +kernel
theorem dX8_tightShare_17 : decode cX8_tightShare 17 = .ok (.invokevirtual 245, 3) := by decide +kernel
theorem dX8_tightShare_20 : decode cX8_tightShare 20 = .ok (.i2f, 1) := by decide +kernel
theorem dX8_tightShare_21 : decode cX8_tightShare 21 = .ok (.iload_n 1, 1) := by decide +kernel
theorem dX8_tightShare_22 : decode cX8_tightShare 22 = .ok (.i2f, 1) := by decide +kernel
theorem dX8_tightShare_23 : decode cX8_tightShare 23 = .ok (.fdiv, 1) := by decide +kernel
theorem dX8_tightShare_24 : decode cX8_tightShare 24 = .ok (.freturn, 1) := by decide +kernel
theorem dX8_meanRoom_0 : decode cX8_meanRoom 0 = .ok (.aload_n 0, 1) := by decide +kernel
theorem dX8_meanRoom_1 : decode cX8_meanRoom 1 = .ok (.getfield 12, 3) := by decide +kernel
theorem dX8_meanRoom_4 : decode cX8_meanRoom 4 = .ok (.getfield 102, 3) := by decide +kernel
theorem dX8_meanRoom_7 : decode cX8_meanRoom 7 = .ok (.ifCond .ne 7, 3) := by decide +kernel
theorem dX8_meanRoom_10 : decode cX8_meanRoom 10 = .ok (.dconst 0, 1) := by decide +kernel
theorem dX8_meanRoom_11 : decode cX8_meanRoom 11 = .ok (.goto 20, 3) := by decide +kernel
theorem dX8_meanRoom_14 : decode cX8_meanRoom 14 = .ok (.aload_n 0, 1) := by decide +kernel
theorem dX8_meanRoom_15 : decode cX8_meanRoom 15 = .ok (.getfield 19, 3) := by decide +kernel
theorem dX8_meanRoom_18 : decode cX8_meanRoom 18 = .ok (.invokevirtual 214, 3) := by decide +kernel
theorem dX8_meanRoom_21 : decode cX8_meanRoom 21 = .ok (.i2d, 1) := by decide +kernel
theorem dX8_meanRoom_22 : decode cX8_meanRoom 22 = .ok (.aload_n 0, 1) := by decide +kernel
theorem dX8_meanRoom_23 : decode cX8_meanRoom 23 = .ok (.getfield 12, 3) := by decide +kernel
theorem dX8_meanRoom_26 : decode cX8_meanRoom 26 = .ok (.getfield 102, 3) := by decide +kernel
theorem dX8_meanRoom_29 : decode cX8_meanRoom 29 = .ok (.i2d, 1) := by decide +kernel
theorem dX8_meanRoom_30 : decode cX8_meanRoom 30 = .ok (.ddiv, 1) := by decide +kernel
theorem dX8_meanRoom_31 : decode cX8_meanRoom 31 = .ok (.dreturn, 1) := by decide +kernel
theorem dX8_listLength_0 : decode cX8_listLength 0 = .ok (.aload_n 0, 1) := by decide +kernel
theorem dX8_listLength_1 : decode cX8_listLength 1 = .ok (.getfield 55, 3) := by decide +kernel
theorem dX8_listLength_4 : decode cX8_listLength 4 = .ok (.aload_n 0, 1) := by decide +kernel
theorem dX8_listLength_5 : decode cX8_listLength 5 = .ok (.getfield 12, 3) := by decide +kernel
theorem dX8_listLength_8 : decode cX8_listLength 8 = .ok (.aload_n 0, 1) := by decide +kernel
theorem dX8_listLength_9 : decode cX8_listLength 9 = .ok (.getfield 19, 3) := by decide +kernel
theorem dX8_listLength_12 : decode cX8_listLength 12 = .ok (.invokevirtual 359, 3) := by decide +kernel
theorem dX8_listLength_15 : decode cX8_listLength 15 = .ok (.aload_n 0, 1) := by decide +kernel
theorem dX8_listLength_16 : decode cX8_listLength 16 = .ok (.getfield 55, 3) := by decide +kernel
theorem dX8_listLength_19 : decode cX8_listLength 19 = .ok (.getfield 363, 3) := by decide +kernel
theorem dX8_listLength_22 : decode cX8_listLength 22 = .ok (.ireturn, 1) := by decide +kernel
theorem dX8_listByte_0 : decode cX8_listByte 0 = .ok (.iload_n 1, 1) := by decide +kernel
theorem dX8_listByte_1 : decode cX8_listByte 1 = .ok (.ifCond .ge 5, 3) := by decide +kernel
theorem dX8_listByte_4 : decode cX8_listByte 4 = .ok (.iconst (-1), 1) := by decide +kernel
theorem dX8_listByte_5 : decode cX8_listByte 5 = .ok (.ireturn, 1) := by decide +kernel
theorem dX8_listByte_6 : decode cX8_listByte 6 = .ok (.aload_n 0, 1) := by decide +kernel
theorem dX8_listByte_7 : decode cX8_listByte 7 = .ok (.getfield 55, 3) := by decide +kernel
theorem dX8_listByte_10 : decode cX8_listByte 10 = .ok (.aload_n 0, 1) := by decide +kernel
theorem dX8_listByte_11 : decode cX8_listByte 11 = .ok (.getfield 12, 3) := by decide +kernel
theorem dX8_listByte_14 : decode cX8_listByte 14 = .ok (.aload_n 0, 1) := by decide +kernel
theorem dX8_listByte_15 : decode cX8_listByte 15 = .ok (.getfield 19, 3) := by decide +kernel
theorem dX8_listByte_18 : decode cX8_listByte 18 = .ok (.invokevirtual 359, 3) := by decide +kernel
theorem dX8_listByte_21 : decode cX8_listByte 21 = .ok (.aload_n 0, 1) := by decide +kernel
theorem dX8_listByte_22 : decode cX8_listByte 22 = .ok (.getfield 55, 3) := by decide +kernel
theorem dX8_listByte_25 : decode cX8_listByte 25 = .ok (.iload_n 1, 1) := by decide +kernel
theorem dX8_listByte_26 : decode cX8_listByte 26 = .ok (.invokevirtual 364, 3) := by decide +kernel
theorem dX8_listByte_29 : decode cX8_listByte 29 = .ok (.ireturn, 1) := by decide +kernel
theorem dX8_setupLength_0 : decode cX8_setupLength 0 = .ok (.aload_n 0, 1) := by decide +kernel
theorem dX8_setupLength_1 : decode cX8_setupLength 1 = .ok (.getfield 55, 3) := by decide +kernel
theorem dX8_setupLength_4 : decode cX8_setupLength 4 = .ok (.aload_n 0, 1) := by decide +kernel
theorem dX8_setupLength_5 : decode cX8_setupLength 5 = .ok (.getfield 12, 3) := by decide +kernel
theorem dX8_setupLength_8 : decode cX8_setupLength 8 = .ok (.invokevirtual 367, 3) := by decide +kernel
theorem dX8_setupLength_11 : decode cX8_setupLength 11 = .ok (.aload_n 0, 1) := by decide +kernel
theorem dX8_setupLength_12 : decode cX8_setupLength 12 = .ok (.getfield 55, 3) := by decide +kernel
theorem dX8_setupLength_15 : decode cX8_setupLength 15 = .ok (.getfield 363, 3) := by decide +kernel
theorem dX8_setupLength_18 : decode cX8_setupLength 18 = .ok (.ireturn, 1) := by decide +kernel
theorem dX8_setupByte_0 : decode cX8_setupByte 0 = .ok (.iload_n 1, 1) := by decide +kernel
theorem dX8_setupByte_1 : decode cX8_setupByte 1 = .ok (.ifCond .ge 5, 3) := by decide +kernel
theorem dX8_setupByte_4 : decode cX8_setupByte 4 = .ok (.iconst (-1), 1) := by decide +kernel
theorem dX8_setupByte_5 : decode cX8_setupByte 5 = .ok (.ireturn, 1) := by decide +kernel
theorem dX8_setupByte_6 : decode cX8_setupByte 6 = .ok (.aload_n 0, 1) := by decide +kernel
theorem dX8_setupByte_7 : decode cX8_setupByte 7 = .ok (.getfield 55, 3) := by decide +kernel
theorem dX8_setupByte_10 : decode cX8_setupByte 10 = .ok (.aload_n 0, 1) := by decide +kernel
theorem dX8_setupByte_11 : decode cX8_setupByte 11 = .ok (.getfield 12, 3) := by decide +kernel
theorem dX8_setupByte_14 : decode cX8_setupByte 14 = .ok (.invokevirtual 367, 3) := by decide +kernel
theorem dX8_setupByte_17 : decode cX8_setupByte 17 = .ok (.aload_n 0, 1) := by decide +kernel
theorem dX8_setupByte_18 : decode cX8_setupByte 18 = .ok (.getfield 55, 3) := by decide +kernel
theorem dX8_setupByte_21 : decode cX8_setupByte 21 = .ok (.iload_n 1, 1) := by decide +kernel
theorem dX8_setupByte_22 : decode cX8_setupByte 22 = .ok (.invokevirtual 364, 3) := by decide +kernel
theorem dX8_setupByte_25 : decode cX8_setupByte 25 = .ok (.ireturn, 1) := by decide +kernel
theorem dX8_isEvent_0 : decode cX8_isEvent 0 = .ok (.iload_n 1, 1) := by decide +kernel
theorem dX8_isEvent_1 : decode cX8_isEvent 1 = .ok (.ifCond .lt 18, 3) := by decide +kernel
theorem dX8_isEvent_4 : decode cX8_isEvent 4 = .ok (.iload_n 1, 1) := by decide +kernel
theorem dX8_isEvent_5 : decode cX8_isEvent 5 = .ok (.aload_n 0, 1) := by decide +kernel
theorem dX8_isEvent_6 : decode cX8_isEvent 6 = .ok (.getfield 12, 3) := by decide +kernel
theorem dX8_isEvent_9 : decode cX8_isEvent 9 = .ok (.getfield 102, 3) := by decide +kernel
theorem dX8_isEvent_12 : decode cX8_isEvent 12 = .ok (.if_icmp .ge 7, 3) := by decide +kernel
theorem dX8_isEvent_15 : decode cX8_isEvent 15 = .ok (.iconst 1, 1) := by decide +kernel
theorem dX8_isEvent_16 : decode cX8_isEvent 16 = .ok (.goto 4, 3) := by decide +kernel
theorem dX8_isEvent_19 : decode cX8_isEvent 19 = .ok (.iconst 0, 1) := by decide +kernel
theorem dX8_isEvent_20 : decode cX8_isEvent 20 = .ok (.ireturn, 1) := by decide +kernel
theorem dX8_areTwoEvents_0 : decode cX8_areTwoEvents 0 = .ok (.aload_n 0, 1) := by decide +kernel
theorem dX8_areTwoEvents_1 : decode cX8_areTwoEvents 1 = .ok (.iload_n 1, 1) := by decide +kernel
theorem dX8_areTwoEvents_2 : decode cX8_areTwoEvents 2 = .ok (.invokevirtual 163, 3) := by decide +kernel
theorem dX8_areTwoEvents_5 : decode cX8_areTwoEvents 5 = .ok (.ifCond .eq 20, 3) := by decide +kernel
theorem dX8_areTwoEvents_8 : decode cX8_areTwoEvents 8 = .ok (.aload_n 0, 1) := by decide +kernel
theorem dX8_areTwoEvents_9 : decode cX8_areTwoEvents 9 = .ok (.iload_n 2, 1) := by decide +kernel
theorem dX8_areTwoEvents_10 : decode cX8_areTwoEvents 10 = .ok (.invokevirtual 163, 3) := by decide +kernel
theorem dX8_areTwoEvents_13 : decode cX8_areTwoEvents 13 = .ok (.ifCond .eq 12, 3) := by decide +kernel
theorem dX8_areTwoEvents_16 : decode cX8_areTwoEvents 16 = .ok (.iload_n 1, 1) := by decide +kernel
theorem dX8_areTwoEvents_17 : decode cX8_areTwoEvents 17 = .ok (.iload_n 2, 1) := by decide +kernel
theorem dX8_areTwoEvents_18 : decode cX8_areTwoEvents 18 = .ok (.if_icmp .eq 7, 3) := by decide +kernel
theorem dX8_areTwoEvents_21 : decode cX8_areTwoEvents 21 = .ok (.iconst 1, 1) := by decide +kernel
theorem dX8_areTwoEvents_22 : decode cX8_areTwoEvents 22 = .ok (.goto 4, 3) := by decide +kernel
theorem dX8_areTwoEvents_25 : decode cX8_areTwoEvents 25 = .ok (.iconst 0, 1) := by decide +kernel
theorem dX8_areTwoEvents_26 : decode cX8_areTwoEvents 26 = .ok (.ireturn, 1) := by decide +kernel
theorem dX8_isGap_0 : decode cX8_isGap 0 = .ok (.iload_n 1, 1) := by decide +kernel
theorem dX8_isGap_1 : decode cX8_isGap 1 = .ok (.ifCond .lt 18, 3) := by decide +kernel
theorem dX8_isGap_4 : decode cX8_isGap 4 = .ok (.iload_n 1, 1) := by decide +kernel
theorem dX8_isGap_5 : decode cX8_isGap 5 = .ok (.aload_n 0, 1) := by decide +kernel
theorem dX8_isGap_6 : decode cX8_isGap 6 = .ok (.getfield 12, 3) := by decide +kernel
theorem dX8_isGap_9 : decode cX8_isGap 9 = .ok (.getfield 96, 3) := by decide +kernel
theorem dX8_isGap_12 : decode cX8_isGap 12 = .ok (.if_icmp .ge 7, 3) := by decide +kernel
theorem dX8_isGap_15 : decode cX8_isGap 15 = .ok (.iconst 1, 1) := by decide +kernel
theorem dX8_isGap_16 : decode cX8_isGap 16 = .ok (.goto 4, 3) := by decide +kernel
theorem dX8_isGap_19 : decode cX8_isGap 19 = .ok (.iconst 0, 1) := by decide +kernel
theorem dX8_isGap_20 : decode cX8_isGap 20 = .ok (.ireturn, 1) := by decide +kernel
theorem dX8_isTellable_0 : decode cX8_isTellable 0 = .ok (.aload_n 0, 1) := by decide +kernel
theorem dX8_isTellable_1 : decode cX8_isTellable 1 = .ok (.iload_n 1, 1) := by decide +kernel
theorem dX8_isTellable_2 : decode cX8_isTellable 2 = .ok (.iload_n 2, 1) := by decide +kernel
theorem dX8_isTellable_3 : decode cX8_isTellable 3 = .ok (.invokevirtual 286, 3) := by decide +kernel
theorem dX8_isTellable_6 : decode cX8_isTellable 6 = .ok (.ifCond .eq 22, 3) := by decide +kernel
theorem dX8_isTellable_9 : decode cX8_isTellable 9 = .ok (.iload_n 3, 1) := by decide +kernel
theorem dX8_isTellable_10 : decode cX8_isTellable 10 = .ok (.invokestatic 325, 3) := by decide +kernel
theorem dX8_isTellable_13 : decode cX8_isTellable 13 = .ok (.ifCond .eq 15, 3) := by decide +kernel
theorem dX8_isTellable_16 : decode cX8_isTellable 16 = .ok (.iload 4, 2) := by decide +kernel
theorem dX8_isTellable_18 : decode cX8_isTellable 18 = .ok (.invokestatic 148, 3) := by decide +kernel
theorem dX8_isTellable_21 : decode cX8_isTellable 21 = .ok (.ifCond .eq 7, 3) := by decide +kernel
theorem dX8_isTellable_24 : decode cX8_isTellable 24 = .ok (.iconst 1, 1) := by decide +kernel
theorem dX8_isTellable_25 : decode cX8_isTellable 25 = .ok (.goto 4, 3) := by decide +kernel
theorem dX8_isTellable_28 : decode cX8_isTellable 28 = .ok (.iconst 0, 1) := by decide +kernel
theorem dX8_isTellable_29 : decode cX8_isTellable 29 = .ok (.ireturn, 1) := by decide +kernel
theorem dX8_isTime_0 : decode cX8_isTime 0 = .ok (.iload_n 1, 1) := by decide +kernel
theorem dX8_isTime_1 : decode cX8_isTime 1 = .ok (.ifCond .lt 18, 3) := by decide +kernel
theorem dX8_isTime_4 : decode cX8_isTime 4 = .ok (.iload_n 1, 1) := by decide +kernel
theorem dX8_isTime_5 : decode cX8_isTime 5 = .ok (.aload_n 0, 1) := by decide +kernel
theorem dX8_isTime_6 : decode cX8_isTime 6 = .ok (.getfield 12, 3) := by decide +kernel
theorem dX8_isTime_9 : decode cX8_isTime 9 = .ok (.getfield 185, 3) := by decide +kernel
theorem dX8_isTime_12 : decode cX8_isTime 12 = .ok (.if_icmp .gt 7, 3) := by decide +kernel
theorem dX8_isTime_15 : decode cX8_isTime 15 = .ok (.iconst 1, 1) := by decide +kernel
theorem dX8_isTime_16 : decode cX8_isTime 16 = .ok (.goto 4, 3) := by decide +kernel
theorem dX8_isTime_19 : decode cX8_isTime 19 = .ok (.iconst 0, 1) := by decide +kernel
theorem dX8_isTime_20 : decode cX8_isTime 20 = .ok (.ireturn, 1) := by decide +kernel
theorem dX8_isPinnable_0 : decode cX8_isPinnable 0 = .ok (.iload_n 1, 1) := by decide +kernel
theorem dX8_isPinnable_1 : decode cX8_isPinnable 1 = .ok (.ifCond .eq 18, 3) := by decide +kernel
theorem dX8_isPinnable_4 : decode cX8_isPinnable 4 = .ok (.aload_n 0, 1) := by decide +kernel
theorem dX8_isPinnable_5 : decode cX8_isPinnable 5 = .ok (.getfield 12, 3) := by decide +kernel
theorem dX8_isPinnable_8 : decode cX8_isPinnable 8 = .ok (.iload_n 1, 1) := by decide +kernel
theorem dX8_isPinnable_9 : decode cX8_isPinnable 9 = .ok (.invokevirtual 182, 3) := by decide +kernel
theorem dX8_isPinnable_12 : decode cX8_isPinnable 12 = .ok (.ifCond .ne 7, 3) := by decide +kernel
theorem dX8_isPinnable_15 : decode cX8_isPinnable 15 = .ok (.iconst 1, 1) := by decide +kernel
theorem dX8_isPinnable_16 : decode cX8_isPinnable 16 = .ok (.goto 4, 3) := by decide +kernel
theorem dX8_isPinnable_19 : decode cX8_isPinnable 19 = .ok (.iconst 0, 1) := by decide +kernel
theorem dX8_isPinnable_20 : decode cX8_isPinnable 20 = .ok (.ireturn, 1) := by decide +kernel
theorem dX8_isNewNameOnTape_0 : decode cX8_isNewNameOnTape 0 = .ok (.aload_n 0, 1) := by decide +kernel
theorem dX8_isNewNameOnTape_1 : decode cX8_isNewNameOnTape 1 = .ok (.getfield 51, 3) := by decide +kernel
theorem dX8_isNewNameOnTape_4 : decode cX8_isNewNameOnTape 4 = .ok (.iconst 0, 1) := by decide +kernel
theorem dX8_isNewNameOnTape_5 : decode cX8_isNewNameOnTape 5 = .ok (.aload_n 0, 1) := by decide +kernel
theorem dX8_isNewNameOnTape_6 : decode cX8_isNewNameOnTape 6 = .ok (.getfield 51, 3) := by decide +kernel
theorem dX8_isNewNameOnTape_9 : decode cX8_isNewNameOnTape 9 = .ok (.getfield 70, 3) := by decide +kernel
theorem dX8_isNewNameOnTape_12 : decode cX8_isNewNameOnTape 12 = .ok (.invokevirtual 370, 3) := by decide +kernel
theorem dX8_isNewNameOnTape_15 : decode cX8_isNewNameOnTape 15 = .ok (.ifCond .eq 30, 3) := by decide +kernel
theorem dX8_isNewNameOnTape_18 : decode cX8_isNewNameOnTape 18 = .ok (.aload_n 0, 1) := by decide +kernel
theorem dX8_isNewNameOnTape_19 : decode cX8_isNewNameOnTape 19 = .ok (.getfield 12, 3) := by decide +kernel
theorem dX8_isNewNameOnTape_22 : decode cX8_isNewNameOnTape 22 = .ok (.aload_n 0, 1) := by decide +kernel
theorem dX8_isNewNameOnTape_23 : decode cX8_isNewNameOnTape 23 = .ok (.getfield 51, 3) := by decide +kernel
theorem dX8_isNewNameOnTape_26 : decode cX8_isNewNameOnTape 26 = .ok (.iconst 0, 1) := by decide +kernel
theorem dX8_isNewNameOnTape_27 : decode cX8_isNewNameOnTape 27 = .ok (.aload_n 0, 1) := by decide +kernel
theorem dX8_isNewNameOnTape_28 : decode cX8_isNewNameOnTape 28 = .ok (.getfield 51, 3) := by decide +kernel
theorem dX8_isNewNameOnTape_31 : decode cX8_isNewNameOnTape 31 = .ok (.getfield 70, 3) := by decide +kernel
theorem dX8_isNewNameOnTape_34 : decode cX8_isNewNameOnTape 34 = .ok (.invokevirtual 373, 3) := by decide +kernel
theorem dX8_isNewNameOnTape_37 : decode cX8_isNewNameOnTape 37 = .ok (.iconst (-1), 1) := by decide +kernel
theorem dX8_isNewNameOnTape_38 : decode cX8_isNewNameOnTape 38 = .ok (.if_icmp .ne 7, 3) := by decide +kernel
theorem dX8_isNewNameOnTape_41 : decode cX8_isNewNameOnTape 41 = .ok (.iconst 1, 1) := by decide +kernel
theorem dX8_isNewNameOnTape_42 : decode cX8_isNewNameOnTape 42 = .ok (.goto 4, 3) := by decide +kernel
theorem dX8_isNewNameOnTape_45 : decode cX8_isNewNameOnTape 45 = .ok (.iconst 0, 1) := by decide +kernel
theorem dX8_isNewNameOnTape_46 : decode cX8_isNewNameOnTape 46 = .ok (.ireturn, 1) := by decide +kernel
theorem dX8_isKind_0 : decode cX8_isKind 0 = .ok (.iload_n 0, 1) := by decide +kernel
theorem dX8_isKind_1 : decode cX8_isKind 1 = .ok (.ifCond .eq 8, 3) := by decide +kernel
theorem dX8_isKind_4 : decode cX8_isKind 4 = .ok (.iload_n 0, 1) := by decide +kernel
theorem dX8_isKind_5 : decode cX8_isKind 5 = .ok (.iconst 1, 1) := by decide +kernel
theorem dX8_isKind_6 : decode cX8_isKind 6 = .ok (.if_icmp .ne 7, 3) := by decide +kernel
theorem dX8_isKind_9 : decode cX8_isKind 9 = .ok (.iconst 1, 1) := by decide +kernel
theorem dX8_isKind_10 : decode cX8_isKind 10 = .ok (.goto 4, 3) := by decide +kernel
theorem dX8_isKind_13 : decode cX8_isKind 13 = .ok (.iconst 0, 1) := by decide +kernel
theorem dX8_isKind_14 : decode cX8_isKind 14 = .ok (.ireturn, 1) := by decide +kernel
theorem dX8_isNumber_0 : decode cX8_isNumber 0 = .ok (.iload_n 0, 1) := by decide +kernel
theorem dX8_isNumber_1 : decode cX8_isNumber 1 = .ok (.ifCond .lt 14, 3) := by decide +kernel
theorem dX8_isNumber_4 : decode cX8_isNumber 4 = .ok (.iload_n 0, 1) := by decide +kernel
theorem dX8_isNumber_5 : decode cX8_isNumber 5 = .ok (.sipush 999, 3) := by decide +kernel
theorem dX8_isNumber_8 : decode cX8_isNumber 8 = .ok (.if_icmp .gt 7, 3) := by decide +kernel
theorem dX8_isNumber_11 : decode cX8_isNumber 11 = .ok (.iconst 1, 1) := by decide +kernel
theorem dX8_isNumber_12 : decode cX8_isNumber 12 = .ok (.goto 4, 3) := by decide +kernel
theorem dX8_isNumber_15 : decode cX8_isNumber 15 = .ok (.iconst 0, 1) := by decide +kernel
theorem dX8_isNumber_16 : decode cX8_isNumber 16 = .ok (.ireturn, 1) := by decide +kernel
theorem dX8_isSlot_0 : decode cX8_isSlot 0 = .ok (.iload_n 0, 1) := by decide +kernel
theorem dX8_isSlot_1 : decode cX8_isSlot 1 = .ok (.ifCond .lt 12, 3) := by decide +kernel
theorem dX8_isSlot_4 : decode cX8_isSlot 4 = .ok (.iload_n 0, 1) := by decide +kernel
theorem dX8_isSlot_5 : decode cX8_isSlot 5 = .ok (.iconst 2, 1) := by decide +kernel
theorem dX8_isSlot_6 : decode cX8_isSlot 6 = .ok (.if_icmp .ge 7, 3) := by decide +kernel
theorem dX8_isSlot_9 : decode cX8_isSlot 9 = .ok (.iconst 1, 1) := by decide +kernel
theorem dX8_isSlot_10 : decode cX8_isSlot 10 = .ok (.goto 4, 3) := by decide +kernel
theorem dX8_isSlot_13 : decode cX8_isSlot 13 = .ok (.iconst 0, 1) := by decide +kernel
theorem dX8_isSlot_14 : decode cX8_isSlot 14 = .ok (.ireturn, 1) := by decide +kernel
theorem dX8_isChange_0 : decode cX8_isChange 0 = .ok (.iload_n 0, 1) := by decide +kernel
theorem dX8_isChange_1 : decode cX8_isChange 1 = .ok (.ifCond .lt 12, 3) := by decide +kernel
theorem dX8_isChange_4 : decode cX8_isChange 4 = .ok (.iload_n 0, 1) := by decide +kernel
theorem dX8_isChange_5 : decode cX8_isChange 5 = .ok (.iconst 2, 1) := by decide +kernel
theorem dX8_isChange_6 : decode cX8_isChange 6 = .ok (.if_icmp .gt 7, 3) := by decide +kernel
theorem dX8_isChange_9 : decode cX8_isChange 9 = .ok (.iconst 1, 1) := by decide +kernel
theorem dX8_isChange_10 : decode cX8_isChange 10 = .ok (.goto 4, 3) := by decide +kernel
theorem dX8_isChange_13 : decode cX8_isChange 13 = .ok (.iconst 0, 1) := by decide +kernel
theorem dX8_isChange_14 : decode cX8_isChange 14 = .ok (.ireturn, 1) := by decide +kernel
theorem dX8_asNumber_0 : decode cX8_asNumber 0 = .ok (.iload_n 0, 1) := by decide +kernel
theorem dX8_asNumber_1 : decode cX8_asNumber 1 = .ok (.ifCond .eq 7, 3) := by decide +kernel
theorem dX8_asNumber_4 : decode cX8_asNumber 4 = .ok (.iconst 1, 1) := by decide +kernel
theorem dX8_asNumber_5 : decode cX8_asNumber 5 = .ok (.goto 4, 3) := by decide +kernel
theorem dX8_asNumber_8 : decode cX8_asNumber 8 = .ok (.iconst 0, 1) := by decide +kernel
theorem dX8_asNumber_9 : decode cX8_asNumber 9 = .ok (.ireturn, 1) := by decide +kernel
theorem dX8_finish_0 : decode cX8_finish 0 = .ok (.aload_n 0, 1) := by decide +kernel
theorem dX8_finish_1 : decode cX8_finish 1 = .ok (.getfield 12, 3) := by decide +kernel
theorem dX8_finish_4 : decode cX8_finish 4 = .ok (.getfield 124, 3) := by decide +kernel
theorem dX8_finish_7 : decode cX8_finish 7 = .ok (.iload_n 1, 1) := by decide +kernel
theorem dX8_finish_8 : decode cX8_finish 8 = .ok (.iload_n 2, 1) := by decide +kernel
theorem dX8_finish_9 : decode cX8_finish 9 = .ok (.iload_n 3, 1) := by decide +kernel
theorem dX8_finish_10 : decode cX8_finish 10 = .ok (.invokevirtual 128, 3) := by decide +kernel
theorem dX8_finish_13 : decode cX8_finish 13 = .ok (.aload_n 0, 1) := by decide +kernel
theorem dX8_finish_14 : decode cX8_finish 14 = .ok (.getfield 19, 3) := by decide +kernel
theorem dX8_finish_17 : decode cX8_finish 17 = .ok (.aload_n 0, 1) := by decide +kernel
theorem dX8_finish_18 : decode cX8_finish 18 = .ok (.getfield 12, 3) := by decide +kernel
theorem dX8_finish_21 : decode cX8_finish 21 = .ok (.iconst (-1), 1) := by decide +kernel
theorem dX8_finish_22 : decode cX8_finish 22 = .ok (.invokevirtual 66, 3) := by decide +kernel
theorem dX8_finish_25 : decode cX8_finish 25 = .ok (.return_, 1) := by decide +kernel
theorem dX8_beginOf_0 : decode cX8_beginOf 0 = .ok (.aload_n 0, 1) := by decide +kernel
theorem dX8_beginOf_1 : decode cX8_beginOf 1 = .ok (.getfield 12, 3) := by decide +kernel
theorem dX8_beginOf_4 : decode cX8_beginOf 4 = .ok (.getfield 195, 3) := by decide +kernel
theorem dX8_beginOf_7 : decode cX8_beginOf 7 = .ok (.iload_n 1, 1) := by decide +kernel
theorem dX8_beginOf_8 : decode cX8_beginOf 8 = .ok (.iaload, 1) := by decide +kernel
theorem dX8_beginOf_9 : decode cX8_beginOf 9 = .ok (.aload_n 0, 1) := by decide +kernel
theorem dX8_beginOf_10 : decode cX8_beginOf 10 = .ok (.getfield 12, 3) := by decide +kernel
theorem dX8_beginOf_13 : decode cX8_beginOf 13 = .ok (.getfield 198, 3) := by decide +kernel
theorem dX8_beginOf_16 : decode cX8_beginOf 16 = .ok (.iload_n 1, 1) := by decide +kernel
theorem dX8_beginOf_17 : decode cX8_beginOf 17 = .ok (.iaload, 1) := by decide +kernel
theorem dX8_beginOf_18 : decode cX8_beginOf 18 = .ok (.aload_n 0, 1) := by decide +kernel
theorem dX8_beginOf_19 : decode cX8_beginOf 19 = .ok (.getfield 12, 3) := by decide +kernel
theorem dX8_beginOf_22 : decode cX8_beginOf 22 = .ok (.getfield 204, 3) := by decide +kernel
theorem dX8_beginOf_25 : decode cX8_beginOf 25 = .ok (.iload_n 1, 1) := by decide +kernel
theorem dX8_beginOf_26 : decode cX8_beginOf 26 = .ok (.iaload, 1) := by decide +kernel
theorem dX8_beginOf_27 : decode cX8_beginOf 27 = .ok (.invokestatic 376, 3) := by decide +kernel
theorem dX8_beginOf_30 : decode cX8_beginOf 30 = .ok (.ireturn, 1) := by decide +kernel
theorem dX8_finishOf_0 : decode cX8_finishOf 0 = .ok (.aload_n 0, 1) := by decide +kernel
theorem dX8_finishOf_1 : decode cX8_finishOf 1 = .ok (.getfield 12, 3) := by decide +kernel
theorem dX8_finishOf_4 : decode cX8_finishOf 4 = .ok (.getfield 195, 3) := by decide +kernel
theorem dX8_finishOf_7 : decode cX8_finishOf 7 = .ok (.iload_n 1, 1) := by decide +kernel
theorem dX8_finishOf_8 : decode cX8_finishOf 8 = .ok (.iaload, 1) := by decide +kernel
theorem dX8_finishOf_9 : decode cX8_finishOf 9 = .ok (.aload_n 0, 1) := by decide +kernel
theorem dX8_finishOf_10 : decode cX8_finishOf 10 = .ok (.getfield 12, 3) := by decide +kernel
theorem dX8_finishOf_13 : decode cX8_finishOf 13 = .ok (.getfield 198, 3) := by decide +kernel
theorem dX8_finishOf_16 : decode cX8_finishOf 16 = .ok (.iload_n 1, 1) := by decide +kernel
theorem dX8_finishOf_17 : decode cX8_finishOf 17 = .ok (.iaload, 1) := by decide +kernel
theorem dX8_finishOf_18 : decode cX8_finishOf 18 = .ok (.aload_n 0, 1) := by decide +kernel
theorem dX8_finishOf_19 : decode cX8_finishOf 19 = .ok (.getfield 12, 3) := by decide +kernel
theorem dX8_finishOf_22 : decode cX8_finishOf 22 = .ok (.getfield 204, 3) := by decide +kernel
theorem dX8_finishOf_25 : decode cX8_finishOf 25 = .ok (.iload_n 1, 1) := by decide +kernel
theorem dX8_finishOf_26 : decode cX8_finishOf 26 = .ok (.iaload, 1) := by decide +kernel
theorem dX8_finishOf_27 : decode cX8_finishOf 27 = .ok (.invokestatic 379, 3) := by decide +kernel
theorem dX8_finishOf_30 : decode cX8_finishOf 30 = .ok (.ireturn, 1) := by decide +kernel
theorem dX8_lengthOf_0 : decode cX8_lengthOf 0 = .ok (.aload_n 0, 1) := by decide +kernel
theorem dX8_lengthOf_1 : decode cX8_lengthOf 1 = .ok (.getfield 12, 3) := by decide +kernel
theorem dX8_lengthOf_4 : decode cX8_lengthOf 4 = .ok (.getfield 204, 3) := by decide +kernel
theorem dX8_lengthOf_7 : decode cX8_lengthOf 7 = .ok (.iload_n 1, 1) := by decide +kernel
theorem dX8_lengthOf_8 : decode cX8_lengthOf 8 = .ok (.iaload, 1) := by decide +kernel
theorem dX8_lengthOf_9 : decode cX8_lengthOf 9 = .ok (.aload_n 0, 1) := by decide +kernel
theorem dX8_lengthOf_10 : decode cX8_lengthOf 10 = .ok (.getfield 12, 3) := by decide +kernel
theorem dX8_lengthOf_13 : decode cX8_lengthOf 13 = .ok (.getfield 141, 3) := by decide +kernel
theorem dX8_lengthOf_16 : decode cX8_lengthOf 16 = .ok (.iload_n 1, 1) := by decide +kernel
theorem dX8_lengthOf_17 : decode cX8_lengthOf 17 = .ok (.iaload, 1) := by decide +kernel
theorem dX8_lengthOf_18 : decode cX8_lengthOf 18 = .ok (.invokestatic 382, 3) := by decide +kernel
theorem dX8_lengthOf_21 : decode cX8_lengthOf 21 = .ok (.ireturn, 1) := by decide +kernel
theorem dX8_boundOf_0 : decode cX8_boundOf 0 = .ok (.aload_n 0, 1) := by decide +kernel
theorem dX8_boundOf_1 : decode cX8_boundOf 1 = .ok (.getfield 19, 3) := by decide +kernel
theorem dX8_boundOf_4 : decode cX8_boundOf 4 = .ok (.aload_n 0, 1) := by decide +kernel
theorem dX8_boundOf_5 : decode cX8_boundOf 5 = .ok (.iload_n 1, 1) := by decide +kernel
theorem dX8_boundOf_6 : decode cX8_boundOf 6 = .ok (.invokevirtual 299, 3) := by decide +kernel
theorem dX8_boundOf_9 : decode cX8_boundOf 9 = .ok (.aload_n 0, 1) := by decide +kernel
theorem dX8_boundOf_10 : decode cX8_boundOf 10 = .ok (.iload_n 1, 1) := by decide +kernel
theorem dX8_boundOf_11 : decode cX8_boundOf 11 = .ok (.invokevirtual 302, 3) := by decide +kernel
theorem dX8_boundOf_14 : decode cX8_boundOf 14 = .ok (.invokevirtual 282, 3) := by decide +kernel
theorem dX8_boundOf_17 : decode cX8_boundOf 17 = .ok (.ireturn, 1) := by decide +kernel
theorem dX8_ringOfGap_0 : decode cX8_ringOfGap 0 = .ok (.aload_n 0, 1) := by decide +kernel
theorem dX8_ringOfGap_1 : decode cX8_ringOfGap 1 = .ok (.getfield 19, 3) := by decide +kernel
theorem dX8_ringOfGap_4 : decode cX8_ringOfGap 4 = .ok (.aload_n 0, 1) := by decide +kernel
theorem dX8_ringOfGap_5 : decode cX8_ringOfGap 5 = .ok (.getfield 12, 3) := by decide +kernel
theorem dX8_ringOfGap_8 : decode cX8_ringOfGap 8 = .ok (.getfield 195, 3) := by decide +kernel
theorem dX8_ringOfGap_11 : decode cX8_ringOfGap 11 = .ok (.iload_n 1, 1) := by decide +kernel
theorem dX8_ringOfGap_12 : decode cX8_ringOfGap 12 = .ok (.iaload, 1) := by decide +kernel
theorem dX8_ringOfGap_13 : decode cX8_ringOfGap 13 = .ok (.aload_n 0, 1) := by decide +kernel
theorem dX8_ringOfGap_14 : decode cX8_ringOfGap 14 = .ok (.getfield 12, 3) := by decide +kernel
theorem dX8_ringOfGap_17 : decode cX8_ringOfGap 17 = .ok (.getfield 198, 3) := by decide +kernel
theorem dX8_ringOfGap_20 : decode cX8_ringOfGap 20 = .ok (.iload_n 1, 1) := by decide +kernel
theorem dX8_ringOfGap_21 : decode cX8_ringOfGap 21 = .ok (.iaload, 1) := by decide +kernel
theorem dX8_ringOfGap_22 : decode cX8_ringOfGap 22 = .ok (.aload_n 0, 1) := by decide +kernel
theorem dX8_ringOfGap_23 : decode cX8_ringOfGap 23 = .ok (.getfield 12, 3) := by decide +kernel
theorem dX8_ringOfGap_26 : decode cX8_ringOfGap 26 = .ok (.getfield 204, 3) := by decide +kernel
theorem dX8_ringOfGap_29 : decode cX8_ringOfGap 29 = .ok (.iload_n 1, 1) := by decide +kernel
theorem dX8_ringOfGap_30 : decode cX8_ringOfGap 30 = .ok (.iaload, 1) := by decide +kernel
theorem dX8_ringOfGap_31 : decode cX8_ringOfGap 31 = .ok (.iload_n 2, 1) := by decide +kernel
theorem dX8_ringOfGap_32 : decode cX8_ringOfGap 32 = .ok (.invokevirtual 120, 3) := by decide +kernel
theorem dX8_ringOfGap_35 : decode cX8_ringOfGap 35 = .ok (.ireturn, 1) := by decide +kernel
theorem dX8_isTight_0 : decode cX8_isTight 0 = .ok (.aload_n 0, 1) := by decide +kernel
theorem dX8_isTight_1 : decode cX8_isTight 1 = .ok (.getfield 12, 3) := by decide +kernel
theorem dX8_isTight_4 : decode cX8_isTight 4 = .ok (.getfield 151, 3) := by decide +kernel
theorem dX8_isTight_7 : decode cX8_isTight 7 = .ok (.iload_n 1, 1) := by decide +kernel
theorem dX8_isTight_8 : decode cX8_isTight 8 = .ok (.baload, 1) := by decide +kernel
theorem dX8_isTight_9 : decode cX8_isTight 9 = .ok (.ifCond .eq 20, 3) := by decide +kernel
theorem dX8_isTight_12 : decode cX8_isTight 12 = .ok (.aload_n 0, 1) := by decide +kernel
theorem dX8_isTight_13 : decode cX8_isTight 13 = .ok (.iload_n 1, 1) := by decide +kernel
theorem dX8_isTight_14 : decode cX8_isTight 14 = .ok (.invokevirtual 267, 3) := by decide +kernel
theorem dX8_isTight_17 : decode cX8_isTight 17 = .ok (.aload_n 0, 1) := by decide +kernel
theorem dX8_isTight_18 : decode cX8_isTight 18 = .ok (.iload_n 1, 1) := by decide +kernel
theorem dX8_isTight_19 : decode cX8_isTight 19 = .ok (.invokevirtual 270, 3) := by decide +kernel
theorem dX8_isTight_22 : decode cX8_isTight 22 = .ok (.if_icmp .ne 7, 3) := by decide +kernel
theorem dX8_isTight_25 : decode cX8_isTight 25 = .ok (.iconst 1, 1) := by decide +kernel
theorem dX8_isTight_26 : decode cX8_isTight 26 = .ok (.goto 4, 3) := by decide +kernel
theorem dX8_isTight_29 : decode cX8_isTight 29 = .ok (.iconst 0, 1) := by decide +kernel
theorem dX8_isTight_30 : decode cX8_isTight 30 = .ok (.ireturn, 1) := by decide +kernel
theorem dX8_isNeeded_0 : decode cX8_isNeeded 0 = .ok (.aload_n 0, 1) := by decide +kernel
theorem dX8_isNeeded_1 : decode cX8_isNeeded 1 = .ok (.iload_n 1, 1) := by decide +kernel
theorem dX8_isNeeded_2 : decode cX8_isNeeded 2 = .ok (.invokevirtual 261, 3) := by decide +kernel
theorem dX8_isNeeded_5 : decode cX8_isNeeded 5 = .ok (.ifCond .ne 5, 3) := by decide +kernel
theorem dX8_isNeeded_8 : decode cX8_isNeeded 8 = .ok (.iconst 0, 1) := by decide +kernel
theorem dX8_isNeeded_9 : decode cX8_isNeeded 9 = .ok (.ireturn, 1) := by decide +kernel
theorem dX8_isNeeded_10 : decode cX8_isNeeded 10 = .ok (.aload_n 0, 1) := by decide +kernel
theorem dX8_isNeeded_11 : decode cX8_isNeeded 11 = .ok (.getfield 23, 3) := by decide +kernel
theorem dX8_isNeeded_14 : decode cX8_isNeeded 14 = .ok (.aload_n 0, 1) := by decide +kernel
theorem dX8_isNeeded_15 : decode cX8_isNeeded 15 = .ok (.getfield 12, 3) := by decide +kernel
theorem dX8_isNeeded_18 : decode cX8_isNeeded 18 = .ok (.iload_n 1, 1) := by decide +kernel
theorem dX8_isNeeded_19 : decode cX8_isNeeded 19 = .ok (.invokevirtual 66, 3) := by decide +kernel
theorem dX8_isNeeded_22 : decode cX8_isNeeded 22 = .ok (.aload_n 0, 1) := by decide +kernel
theorem dX8_isNeeded_23 : decode cX8_isNeeded 23 = .ok (.getfield 23, 3) := by decide +kernel
theorem dX8_isNeeded_26 : decode cX8_isNeeded 26 = .ok (.aload_n 0, 1) := by decide +kernel
theorem dX8_isNeeded_27 : decode cX8_isNeeded 27 = .ok (.iload_n 1, 1) := by decide +kernel
theorem dX8_isNeeded_28 : decode cX8_isNeeded 28 = .ok (.invokevirtual 299, 3) := by decide +kernel
theorem dX8_isNeeded_31 : decode cX8_isNeeded 31 = .ok (.aload_n 0, 1) := by decide +kernel
theorem dX8_isNeeded_32 : decode cX8_isNeeded 32 = .ok (.iload_n 1, 1) := by decide +kernel
theorem dX8_isNeeded_33 : decode cX8_isNeeded 33 = .ok (.invokevirtual 302, 3) := by decide +kernel
theorem dX8_isNeeded_36 : decode cX8_isNeeded 36 = .ok (.invokevirtual 282, 3) := by decide +kernel
theorem dX8_isNeeded_39 : decode cX8_isNeeded 39 = .ok (.aload_n 0, 1) := by decide +kernel
theorem dX8_isNeeded_40 : decode cX8_isNeeded 40 = .ok (.iload_n 1, 1) := by decide +kernel
theorem dX8_isNeeded_41 : decode cX8_isNeeded 41 = .ok (.invokevirtual 270, 3) := by decide +kernel
theorem dX8_isNeeded_44 : decode cX8_isNeeded 44 = .ok (.if_icmp .le 7, 3) := by decide +kernel
theorem dX8_isNeeded_47 : decode cX8_isNeeded 47 = .ok (.iconst 1, 1) := by decide +kernel
theorem dX8_isNeeded_48 : decode cX8_isNeeded 48 = .ok (.goto 4, 3) := by decide +kernel
theorem dX8_isNeeded_51 : decode cX8_isNeeded 51 = .ok (.iconst 0, 1) := by decide +kernel
theorem dX8_isNeeded_52 : decode cX8_isNeeded 52 = .ok (.ireturn, 1) := by decide +kernel
theorem dX8_isLoose_0 : decode cX8_isLoose 0 = .ok (.aload_n 0, 1) := by decide +kernel
theorem dX8_isLoose_1 : decode cX8_isLoose 1 = .ok (.getfield 12, 3) := by decide +kernel
theorem dX8_isLoose_4 : decode cX8_isLoose 4 = .ok (.getfield 151, 3) := by decide +kernel
theorem dX8_isLoose_7 : decode cX8_isLoose 7 = .ok (.iload_n 1, 1) := by decide +kernel
theorem dX8_isLoose_8 : decode cX8_isLoose 8 = .ok (.baload, 1) := by decide +kernel
theorem dX8_isLoose_9 : decode cX8_isLoose 9 = .ok (.ifCond .eq 23, 3) := by decide +kernel
theorem dX8_isLoose_12 : decode cX8_isLoose 12 = .ok (.aload_n 0, 1) := by decide +kernel
theorem dX8_isLoose_13 : decode cX8_isLoose 13 = .ok (.iload_n 1, 1) := by decide +kernel
theorem dX8_isLoose_14 : decode cX8_isLoose 14 = .ok (.invokevirtual 261, 3) := by decide +kernel
theorem dX8_isLoose_17 : decode cX8_isLoose 17 = .ok (.ifCond .ne 15, 3) := by decide +kernel
theorem dX8_isLoose_20 : decode cX8_isLoose 20 = .ok (.aload_n 0, 1) := by decide +kernel
theorem dX8_isLoose_21 : decode cX8_isLoose 21 = .ok (.iload_n 1, 1) := by decide +kernel
theorem dX8_isLoose_22 : decode cX8_isLoose 22 = .ok (.invokevirtual 210, 3) := by decide +kernel
theorem dX8_isLoose_25 : decode cX8_isLoose 25 = .ok (.ifCond .lt 7, 3) := by decide +kernel
theorem dX8_isLoose_28 : decode cX8_isLoose 28 = .ok (.iconst 1, 1) := by decide +kernel
theorem dX8_isLoose_29 : decode cX8_isLoose 29 = .ok (.goto 4, 3) := by decide +kernel
theorem dX8_isLoose_32 : decode cX8_isLoose 32 = .ok (.iconst 0, 1) := by decide +kernel
theorem dX8_isLoose_33 : decode cX8_isLoose 33 = .ok (.ireturn, 1) := by decide +kernel
theorem dX8_tightNumber_0 : decode cX8_tightNumber 0 = .ok (.aload_n 0, 1) := by decide +kernel
theorem dX8_tightNumber_1 : decode cX8_tightNumber 1 = .ok (.getfield 12, 3) := by decide +kernel
theorem dX8_tightNumber_4 : decode cX8_tightNumber 4 = .ok (.getfield 204, 3) := by decide +kernel
theorem dX8_tightNumber_7 : decode cX8_tightNumber 7 = .ok (.iload_n 1, 1) := by decide +kernel
theorem dX8_tightNumber_8 : decode cX8_tightNumber 8 = .ok (.iaload, 1) := by decide +kernel
theorem dX8_tightNumber_9 : decode cX8_tightNumber 9 = .ok (.ifCond .ne 11, 3) := by decide +kernel
theorem dX8_tightNumber_12 : decode cX8_tightNumber 12 = .ok (.aload_n 0, 1) := by decide +kernel
theorem dX8_tightNumber_13 : decode cX8_tightNumber 13 = .ok (.iload_n 1, 1) := by decide +kernel
theorem dX8_tightNumber_14 : decode cX8_tightNumber 14 = .ok (.invokevirtual 270, 3) := by decide +kernel
theorem dX8_tightNumber_17 : decode cX8_tightNumber 17 = .ok (.goto 9, 3) := by decide +kernel
theorem dX8_tightNumber_20 : decode cX8_tightNumber 20 = .ok (.aload_n 0, 1) := by decide +kernel
theorem dX8_tightNumber_21 : decode cX8_tightNumber 21 = .ok (.iload_n 1, 1) := by decide +kernel
theorem dX8_tightNumber_22 : decode cX8_tightNumber 22 = .ok (.invokevirtual 270, 3) := by decide +kernel
theorem dX8_tightNumber_25 : decode cX8_tightNumber 25 = .ok (.ineg, 1) := by decide +kernel
theorem dX8_tightNumber_26 : decode cX8_tightNumber 26 = .ok (.ireturn, 1) := by decide +kernel
theorem dX8_tightestNumber_0 : decode cX8_tightestNumber 0 = .ok (.iload_n 3, 1) := by decide +kernel
theorem dX8_tightestNumber_1 : decode cX8_tightestNumber 1 = .ok (.ifCond .ne 35, 3) := by decide +kernel
theorem dX8_tightestNumber_4 : decode cX8_tightestNumber 4 = .ok (.iconst 0, 1) := by decide +kernel
theorem dX8_tightestNumber_5 : decode cX8_tightestNumber 5 = .ok (.aload_n 0, 1) := by decide +kernel
theorem dX8_tightestNumber_6 : decode cX8_tightestNumber 6 = .ok (.getfield 19, 3) := by decide +kernel
theorem dX8_tightestNumber_9 : decode cX8_tightestNumber 9 = .ok (.iload_n 2, 1) := by decide +kernel
theorem dX8_tightestNumber_10 : decode cX8_tightestNumber 10 = .ok (.iload_n 1, 1) := by decide +kernel
theorem dX8_tightestNumber_11 : decode cX8_tightestNumber 11 = .ok (.invokevirtual 282, 3) := by decide +kernel
theorem dX8_tightestNumber_14 : decode cX8_tightestNumber 14 = .ok (.ineg, 1) := by decide +kernel
theorem dX8_tightestNumber_15 : decode cX8_tightestNumber 15 = .ok (.invokestatic 353, 3) := by decide +kernel
theorem dX8_tightestNumber_18 : decode cX8_tightestNumber 18 = .ok (.istore 4, 2) := by decide +kernel
theorem dX8_tightestNumber_20 : decode cX8_tightestNumber 20 = .ok (.iload 4, 2) := by decide +kernel
theorem dX8_tightestNumber_22 : decode cX8_tightestNumber 22 = .ok (.sipush 999, 3) := by decide +kernel
theorem dX8_tightestNumber_25 : decode cX8_tightestNumber 25 = .ok (.if_icmp .gt 8, 3) := by decide +kernel
theorem dX8_tightestNumber_28 : decode cX8_tightestNumber 28 = .ok (.iload 4, 2) := by decide +kernel
theorem dX8_tightestNumber_30 : decode cX8_tightestNumber 30 = .ok (.goto 5, 3) := by decide +kernel
theorem dX8_tightestNumber_33 : decode cX8_tightestNumber 33 = .ok (.bipush (-2), 2) := by decide +kernel
theorem dX8_tightestNumber_35 : decode cX8_tightestNumber 35 = .ok (.ireturn, 1) := by decide +kernel
theorem dX8_tightestNumber_36 : decode cX8_tightestNumber 36 = .ok (.sipush 999, 3) := by decide +kernel
theorem dX8_tightestNumber_39 : decode cX8_tightestNumber 39 = .ok (.aload_n 0, 1) := by decide +kernel
theorem dX8_tightestNumber_40 : decode cX8_tightestNumber 40 = .ok (.getfield 19, 3) := by decide +kernel
theorem dX8_tightestNumber_43 : decode cX8_tightestNumber 43 = .ok (.iload_n 1, 1) := by decide +kernel
theorem dX8_tightestNumber_44 : decode cX8_tightestNumber 44 = .ok (.iload_n 2, 1) := by decide +kernel
theorem dX8_tightestNumber_45 : decode cX8_tightestNumber 45 = .ok (.invokevirtual 282, 3) := by decide +kernel
theorem dX8_tightestNumber_48 : decode cX8_tightestNumber 48 = .ok (.invokestatic 385, 3) := by decide +kernel
theorem dX8_tightestNumber_51 : decode cX8_tightestNumber 51 = .ok (.istore 4, 2) := by decide +kernel
theorem dX8_tightestNumber_53 : decode cX8_tightestNumber 53 = .ok (.iload 4, 2) := by decide +kernel
theorem dX8_tightestNumber_55 : decode cX8_tightestNumber 55 = .ok (.ifCond .lt 8, 3) := by decide +kernel
theorem dX8_tightestNumber_58 : decode cX8_tightestNumber 58 = .ok (.iload 4, 2) := by decide +kernel
theorem dX8_tightestNumber_60 : decode cX8_tightestNumber 60 = .ok (.goto 5, 3) := by decide +kernel
theorem dX8_tightestNumber_63 : decode cX8_tightestNumber 63 = .ok (.bipush (-2), 2) := by decide +kernel
theorem dX8_tightestNumber_65 : decode cX8_tightestNumber 65 = .ok (.ireturn, 1) := by decide +kernel
theorem dX8_countTight_0 : decode cX8_countTight 0 = .ok (.iconst 0, 1) := by decide +kernel
theorem dX8_countTight_1 : decode cX8_countTight 1 = .ok (.istore_n 1, 1) := by decide +kernel
theorem dX8_countTight_2 : decode cX8_countTight 2 = .ok (.iconst 0, 1) := by decide +kernel
theorem dX8_countTight_3 : decode cX8_countTight 3 = .ok (.istore_n 2, 1) := by decide +kernel
theorem dX8_countTight_4 : decode cX8_countTight 4 = .ok (.iload_n 2, 1) := by decide +kernel
theorem dX8_countTight_5 : decode cX8_countTight 5 = .ok (.aload_n 0, 1) := by decide +kernel
theorem dX8_countTight_6 : decode cX8_countTight 6 = .ok (.getfield 12, 3) := by decide +kernel
theorem dX8_countTight_9 : decode cX8_countTight 9 = .ok (.getfield 96, 3) := by decide +kernel
theorem dX8_countTight_12 : decode cX8_countTight 12 = .ok (.if_icmp .ge 20, 3) := by decide +kernel
theorem dX8_countTight_15 : decode cX8_countTight 15 = .ok (.iload_n 1, 1) := by decide +kernel
theorem dX8_countTight_16 : decode cX8_countTight 16 = .ok (.aload_n 0, 1) := by decide +kernel
theorem dX8_countTight_17 : decode cX8_countTight 17 = .ok (.iload_n 2, 1) := by decide +kernel
theorem dX8_countTight_18 : decode cX8_countTight 18 = .ok (.invokevirtual 261, 3) := by decide +kernel
theorem dX8_countTight_21 : decode cX8_countTight 21 = .ok (.invokestatic 159, 3) := by decide +kernel
theorem dX8_countTight_24 : decode cX8_countTight 24 = .ok (.iadd, 1) := by decide +kernel
theorem dX8_countTight_25 : decode cX8_countTight 25 = .ok (.istore_n 1, 1) := by decide +kernel
theorem dX8_countTight_26 : decode cX8_countTight 26 = .ok (.iinc 2 1, 3) := by decide +kernel
theorem dX8_countTight_29 : decode cX8_countTight 29 = .ok (.goto (-25), 3) := by decide +kernel
theorem dX8_countTight_32 : decode cX8_countTight 32 = .ok (.iload_n 1, 1) := by decide +kernel
theorem dX8_countTight_33 : decode cX8_countTight 33 = .ok (.ireturn, 1) := by decide +kernel
theorem dX8_countNeeded_0 : decode cX8_countNeeded 0 = .ok (.iconst 0, 1) := by decide +kernel
theorem dX8_countNeeded_1 : decode cX8_countNeeded 1 = .ok (.istore_n 1, 1) := by decide +kernel
theorem dX8_countNeeded_2 : decode cX8_countNeeded 2 = .ok (.iconst 0, 1) := by decide +kernel
theorem dX8_countNeeded_3 : decode cX8_countNeeded 3 = .ok (.istore_n 2, 1) := by decide +kernel
theorem dX8_countNeeded_4 : decode cX8_countNeeded 4 = .ok (.iload_n 2, 1) := by decide +kernel
theorem dX8_countNeeded_5 : decode cX8_countNeeded 5 = .ok (.aload_n 0, 1) := by decide +kernel
theorem dX8_countNeeded_6 : decode cX8_countNeeded 6 = .ok (.getfield 12, 3) := by decide +kernel
theorem dX8_countNeeded_9 : decode cX8_countNeeded 9 = .ok (.getfield 96, 3) := by decide +kernel
theorem dX8_countNeeded_12 : decode cX8_countNeeded 12 = .ok (.if_icmp .ge 20, 3) := by decide +kernel
theorem dX8_countNeeded_15 : decode cX8_countNeeded 15 = .ok (.iload_n 1, 1) := by decide +kernel
theorem dX8_countNeeded_16 : decode cX8_countNeeded 16 = .ok (.aload_n 0, 1) := by decide +kernel
theorem dX8_countNeeded_17 : decode cX8_countNeeded 17 = .ok (.iload_n 2, 1) := by decide +kernel
theorem dX8_countNeeded_18 : decode cX8_countNeeded 18 = .ok (.invokevirtual 264, 3) := by decide +kernel
theorem dX8_countNeeded_21 : decode cX8_countNeeded 21 = .ok (.invokestatic 159, 3) := by decide +kernel
theorem dX8_countNeeded_24 : decode cX8_countNeeded 24 = .ok (.iadd, 1) := by decide +kernel
theorem dX8_countNeeded_25 : decode cX8_countNeeded 25 = .ok (.istore_n 1, 1) := by decide +kernel
theorem dX8_countNeeded_26 : decode cX8_countNeeded 26 = .ok (.iinc 2 1, 3) := by decide +kernel
theorem dX8_countNeeded_29 : decode cX8_countNeeded 29 = .ok (.goto (-25), 3) := by decide +kernel
theorem dX8_countNeeded_32 : decode cX8_countNeeded 32 = .ok (.iload_n 1, 1) := by decide +kernel
theorem dX8_countNeeded_33 : decode cX8_countNeeded 33 = .ok (.ireturn, 1) := by decide +kernel
theorem dX8_firstNeedless_0 : decode cX8_firstNeedless 0 = .ok (.iload_n 1, 1) := by decide +kernel
theorem dX8_firstNeedless_1 : decode cX8_firstNeedless 1 = .ok (.istore_n 2, 1) := by decide +kernel
theorem dX8_firstNeedless_2 : decode cX8_firstNeedless 2 = .ok (.iload_n 2, 1) := by decide +kernel
theorem dX8_firstNeedless_3 : decode cX8_firstNeedless 3 = .ok (.aload_n 0, 1) := by decide +kernel
theorem dX8_firstNeedless_4 : decode cX8_firstNeedless 4 = .ok (.getfield 12, 3) := by decide +kernel
theorem dX8_firstNeedless_7 : decode cX8_firstNeedless 7 = .ok (.getfield 96, 3) := by decide +kernel
theorem dX8_firstNeedless_10 : decode cX8_firstNeedless 10 = .ok (.if_icmp .ge 31, 3) := by decide +kernel
theorem dX8_firstNeedless_13 : decode cX8_firstNeedless 13 = .ok (.aload_n 0, 1) := by decide +kernel
theorem dX8_firstNeedless_14 : decode cX8_firstNeedless 14 = .ok (.getfield 12, 3) := by decide +kernel
theorem dX8_firstNeedless_17 : decode cX8_firstNeedless 17 = .ok (.getfield 151, 3) := by decide +kernel
theorem dX8_firstNeedless_20 : decode cX8_firstNeedless 20 = .ok (.iload_n 2, 1) := by decide +kernel
theorem dX8_firstNeedless_21 : decode cX8_firstNeedless 21 = .ok (.baload, 1) := by decide +kernel
theorem dX8_firstNeedless_22 : decode cX8_firstNeedless 22 = .ok (.ifCond .eq 13, 3) := by decide +kernel
theorem dX8_firstNeedless_25 : decode cX8_firstNeedless 25 = .ok (.aload_n 0, 1) := by decide +kernel
theorem dX8_firstNeedless_26 : decode cX8_firstNeedless 26 = .ok (.iload_n 2, 1) := by decide +kernel
theorem dX8_firstNeedless_27 : decode cX8_firstNeedless 27 = .ok (.invokevirtual 264, 3) := by decide +kernel
theorem dX8_firstNeedless_30 : decode cX8_firstNeedless 30 = .ok (.ifCond .ne 5, 3) := by decide +kernel
theorem dX8_firstNeedless_33 : decode cX8_firstNeedless 33 = .ok (.iload_n 2, 1) := by decide +kernel
theorem dX8_firstNeedless_34 : decode cX8_firstNeedless 34 = .ok (.ireturn, 1) := by decide +kernel
theorem dX8_firstNeedless_35 : decode cX8_firstNeedless 35 = .ok (.iinc 2 1, 3) := by decide +kernel
theorem dX8_firstNeedless_38 : decode cX8_firstNeedless 38 = .ok (.goto (-36), 3) := by decide +kernel
theorem dX8_firstNeedless_41 : decode cX8_firstNeedless 41 = .ok (.bipush (-2), 2) := by decide +kernel
theorem dX8_firstNeedless_43 : decode cX8_firstNeedless 43 = .ok (.ireturn, 1) := by decide +kernel
theorem dX8_relationOf_0 : decode cX8_relationOf 0 = .ok (.aload_n 0, 1) := by decide +kernel
theorem dX8_relationOf_1 : decode cX8_relationOf 1 = .ok (.getfield 19, 3) := by decide +kernel
theorem dX8_relationOf_4 : decode cX8_relationOf 4 = .ok (.iload_n 1, 1) := by decide +kernel
theorem dX8_relationOf_5 : decode cX8_relationOf 5 = .ok (.iload_n 2, 1) := by decide +kernel
theorem dX8_relationOf_6 : decode cX8_relationOf 6 = .ok (.invokevirtual 282, 3) := by decide +kernel
theorem dX8_relationOf_9 : decode cX8_relationOf 9 = .ok (.istore_n 3, 1) := by decide +kernel
theorem dX8_relationOf_10 : decode cX8_relationOf 10 = .ok (.aload_n 0, 1) := by decide +kernel
theorem dX8_relationOf_11 : decode cX8_relationOf 11 = .ok (.getfield 19, 3) := by decide +kernel
theorem dX8_relationOf_14 : decode cX8_relationOf 14 = .ok (.iload_n 2, 1) := by decide +kernel
theorem dX8_relationOf_15 : decode cX8_relationOf 15 = .ok (.iload_n 1, 1) := by decide +kernel
theorem dX8_relationOf_16 : decode cX8_relationOf 16 = .ok (.invokevirtual 282, 3) := by decide +kernel
theorem dX8_relationOf_19 : decode cX8_relationOf 19 = .ok (.ineg, 1) := by decide +kernel
theorem dX8_relationOf_20 : decode cX8_relationOf 20 = .ok (.istore 4, 2) := by decide +kernel
theorem dX8_relationOf_22 : decode cX8_relationOf 22 = .ok (.iload 4, 2) := by decide +kernel
theorem dX8_relationOf_24 : decode cX8_relationOf 24 = .ok (.ifCond .ne 9, 3) := by decide +kernel
theorem dX8_relationOf_27 : decode cX8_relationOf 27 = .ok (.iload_n 3, 1) := by decide +kernel
theorem dX8_relationOf_28 : decode cX8_relationOf 28 = .ok (.ifCond .ne 5, 3) := by decide +kernel
theorem dX8_relationOf_31 : decode cX8_relationOf 31 = .ok (.iconst 0, 1) := by decide +kernel
theorem dX8_relationOf_32 : decode cX8_relationOf 32 = .ok (.ireturn, 1) := by decide +kernel
theorem dX8_relationOf_33 : decode cX8_relationOf 33 = .ok (.iload 4, 2) := by decide +kernel
theorem dX8_relationOf_35 : decode cX8_relationOf 35 = .ok (.ifCond .le 5, 3) := by decide +kernel
theorem dX8_relationOf_38 : decode cX8_relationOf 38 = .ok (.iconst 1, 1) := by decide +kernel
theorem dX8_relationOf_39 : decode cX8_relationOf 39 = .ok (.ireturn, 1) := by decide +kernel
theorem dX8_relationOf_40 : decode cX8_relationOf 40 = .ok (.iload_n 3, 1) := by decide +kernel
theorem dX8_relationOf_41 : decode cX8_relationOf 41 = .ok (.ifCond .ge 5, 3) := by decide +kernel
theorem dX8_relationOf_44 : decode cX8_relationOf 44 = .ok (.iconst 2, 1) := by decide +kernel
theorem dX8_relationOf_45 : decode cX8_relationOf 45 = .ok (.ireturn, 1) := by decide +kernel
theorem dX8_relationOf_46 : decode cX8_relationOf 46 = .ok (.iload 4, 2) := by decide +kernel
theorem dX8_relationOf_48 : decode cX8_relationOf 48 = .ok (.ifCond .ne 5, 3) := by decide +kernel
theorem dX8_relationOf_51 : decode cX8_relationOf 51 = .ok (.iconst 3, 1) := by decide +kernel
theorem dX8_relationOf_52 : decode cX8_relationOf 52 = .ok (.ireturn, 1) := by decide +kernel
theorem dX8_relationOf_53 : decode cX8_relationOf 53 = .ok (.iload_n 3, 1) := by decide +kernel
theorem dX8_relationOf_54 : decode cX8_relationOf 54 = .ok (.ifCond .ne 7, 3) := by decide +kernel
theorem dX8_relationOf_57 : decode cX8_relationOf 57 = .ok (.iconst 4, 1) := by decide +kernel
theorem dX8_relationOf_58 : decode cX8_relationOf 58 = .ok (.goto 4, 3) := by decide +kernel
theorem dX8_relationOf_61 : decode cX8_relationOf 61 = .ok (.iconst 5, 1) := by decide +kernel
theorem dX8_relationOf_62 : decode cX8_relationOf 62 = .ok (.ireturn, 1) := by decide +kernel
theorem dX8_stepOfRing_0 : decode cX8_stepOfRing 0 = .ok (.aload_n 0, 1) := by decide +kernel
theorem dX8_stepOfRing_1 : decode cX8_stepOfRing 1 = .ok (.getfield 19, 3) := by decide +kernel
theorem dX8_stepOfRing_4 : decode cX8_stepOfRing 4 = .ok (.iload_n 1, 1) := by decide +kernel
theorem dX8_stepOfRing_5 : decode cX8_stepOfRing 5 = .ok (.iload_n 2, 1) := by decide +kernel
theorem dX8_stepOfRing_6 : decode cX8_stepOfRing 6 = .ok (.iload_n 3, 1) := by decide +kernel
theorem dX8_stepOfRing_7 : decode cX8_stepOfRing 7 = .ok (.invokestatic 379, 3) := by decide +kernel
theorem dX8_stepOfRing_10 : decode cX8_stepOfRing 10 = .ok (.iload_n 1, 1) := by decide +kernel
theorem dX8_stepOfRing_11 : decode cX8_stepOfRing 11 = .ok (.iload_n 2, 1) := by decide +kernel
theorem dX8_stepOfRing_12 : decode cX8_stepOfRing 12 = .ok (.iload_n 3, 1) := by decide +kernel
theorem dX8_stepOfRing_13 : decode cX8_stepOfRing 13 = .ok (.invokestatic 376, 3) := by decide +kernel
theorem dX8_stepOfRing_16 : decode cX8_stepOfRing 16 = .ok (.iload 4, 2) := by decide +kernel
theorem dX8_stepOfRing_18 : decode cX8_stepOfRing 18 = .ok (.invokevirtual 289, 3) := by decide +kernel
theorem dX8_stepOfRing_21 : decode cX8_stepOfRing 21 = .ok (.ireturn, 1) := by decide +kernel
theorem dX8_tryWithout_0 : decode cX8_tryWithout 0 = .ok (.aload_n 0, 1) := by decide +kernel
theorem dX8_tryWithout_1 : decode cX8_tryWithout 1 = .ok (.iload_n 1, 1) := by decide +kernel
theorem dX8_tryWithout_2 : decode cX8_tryWithout 2 = .ok (.invokevirtual 261, 3) := by decide +kernel
theorem dX8_tryWithout_5 : decode cX8_tryWithout 5 = .ok (.ifCond .eq 18, 3) := by decide +kernel
theorem dX8_tryWithout_8 : decode cX8_tryWithout 8 = .ok (.aload_n 0, 1) := by decide +kernel
theorem dX8_tryWithout_9 : decode cX8_tryWithout 9 = .ok (.getfield 23, 3) := by decide +kernel
theorem dX8_tryWithout_12 : decode cX8_tryWithout 12 = .ok (.aload_n 0, 1) := by decide +kernel
theorem dX8_tryWithout_13 : decode cX8_tryWithout 13 = .ok (.getfield 12, 3) := by decide +kernel
theorem dX8_tryWithout_16 : decode cX8_tryWithout 16 = .ok (.iload_n 1, 1) := by decide +kernel
theorem dX8_tryWithout_17 : decode cX8_tryWithout 17 = .ok (.invokevirtual 66, 3) := by decide +kernel
theorem dX8_tryWithout_20 : decode cX8_tryWithout 20 = .ok (.goto 14, 3) := by decide +kernel
theorem dX8_tryWithout_23 : decode cX8_tryWithout 23 = .ok (.aload_n 0, 1) := by decide +kernel
theorem dX8_tryWithout_24 : decode cX8_tryWithout 24 = .ok (.getfield 23, 3) := by decide +kernel
theorem dX8_tryWithout_27 : decode cX8_tryWithout 27 = .ok (.aload_n 0, 1) := by decide +kernel
theorem dX8_tryWithout_28 : decode cX8_tryWithout 28 = .ok (.getfield 19, 3) := by decide +kernel
theorem dX8_tryWithout_31 : decode cX8_tryWithout 31 = .ok (.invokevirtual 308, 3) := by decide +kernel
theorem dX8_tryWithout_34 : decode cX8_tryWithout 34 = .ok (.return_, 1) := by decide +kernel
theorem dX8_changeOnTrial_0 : decode cX8_changeOnTrial 0 = .ok (.iload_n 1, 1) := by decide +kernel
theorem dX8_changeOnTrial_1 : decode cX8_changeOnTrial 1 = .ok (.lookupswitch 51 #[(0, 27), (1, 39)], 27) := by decide +kernel
theorem dX8_changeOnTrial_28 : decode cX8_changeOnTrial 28 = .ok (.aload_n 0, 1) := by decide +kernel
theorem dX8_changeOnTrial_29 : decode cX8_changeOnTrial 29 = .ok (.getfield 19, 3) := by decide +kernel
theorem dX8_changeOnTrial_32 : decode cX8_changeOnTrial 32 = .ok (.aload_n 0, 1) := by decide +kernel
theorem dX8_changeOnTrial_33 : decode cX8_changeOnTrial 33 = .ok (.getfield 23, 3) := by decide +kernel
theorem dX8_changeOnTrial_36 : decode cX8_changeOnTrial 36 = .ok (.invokevirtual 388, 3) := by decide +kernel
theorem dX8_changeOnTrial_39 : decode cX8_changeOnTrial 39 = .ok (.ireturn, 1) := by decide +kernel
theorem dX8_changeOnTrial_40 : decode cX8_changeOnTrial 40 = .ok (.aload_n 0, 1) := by decide +kernel
theorem dX8_changeOnTrial_41 : decode cX8_changeOnTrial 41 = .ok (.getfield 19, 3) := by decide +kernel
theorem dX8_changeOnTrial_44 : decode cX8_changeOnTrial 44 = .ok (.aload_n 0, 1) := by decide +kernel
theorem dX8_changeOnTrial_45 : decode cX8_changeOnTrial 45 = .ok (.getfield 23, 3) := by decide +kernel
theorem dX8_changeOnTrial_48 : decode cX8_changeOnTrial 48 = .ok (.invokevirtual 392, 3) := by decide +kernel
theorem dX8_changeOnTrial_51 : decode cX8_changeOnTrial 51 = .ok (.ireturn, 1) := by decide +kernel
theorem dX8_changeOnTrial_52 : decode cX8_changeOnTrial 52 = .ok (.aload_n 0, 1) := by decide +kernel
theorem dX8_changeOnTrial_53 : decode cX8_changeOnTrial 53 = .ok (.getfield 23, 3) := by decide +kernel
theorem dX8_changeOnTrial_56 : decode cX8_changeOnTrial 56 = .ok (.invokevirtual 214, 3) := by decide +kernel
theorem dX8_changeOnTrial_59 : decode cX8_changeOnTrial 59 = .ok (.ireturn, 1) := by decide +kernel
theorem dX8_stepBegin_0 : decode cX8_stepBegin 0 = .ok (.iload_n 2, 1) := by decide +kernel
theorem dX8_stepBegin_1 : decode cX8_stepBegin 1 = .ok (.ifCond .ne 7, 3) := by decide +kernel
theorem dX8_stepBegin_4 : decode cX8_stepBegin 4 = .ok (.iload_n 0, 1) := by decide +kernel
theorem dX8_stepBegin_5 : decode cX8_stepBegin 5 = .ok (.goto 4, 3) := by decide +kernel
theorem dX8_stepBegin_8 : decode cX8_stepBegin 8 = .ok (.iload_n 1, 1) := by decide +kernel
theorem dX8_stepBegin_9 : decode cX8_stepBegin 9 = .ok (.ireturn, 1) := by decide +kernel
theorem dX8_stepFinish_0 : decode cX8_stepFinish 0 = .ok (.iload_n 2, 1) := by decide +kernel
theorem dX8_stepFinish_1 : decode cX8_stepFinish 1 = .ok (.ifCond .ne 7, 3) := by decide +kernel
theorem dX8_stepFinish_4 : decode cX8_stepFinish 4 = .ok (.iload_n 1, 1) := by decide +kernel
theorem dX8_stepFinish_5 : decode cX8_stepFinish 5 = .ok (.goto 4, 3) := by decide +kernel
theorem dX8_stepFinish_8 : decode cX8_stepFinish 8 = .ok (.iload_n 0, 1) := by decide +kernel
theorem dX8_stepFinish_9 : decode cX8_stepFinish 9 = .ok (.ireturn, 1) := by decide +kernel
theorem dX8_stepLength_0 : decode cX8_stepLength 0 = .ok (.iload_n 0, 1) := by decide +kernel
theorem dX8_stepLength_1 : decode cX8_stepLength 1 = .ok (.ifCond .ne 7, 3) := by decide +kernel
theorem dX8_stepLength_4 : decode cX8_stepLength 4 = .ok (.iload_n 1, 1) := by decide +kernel
theorem dX8_stepLength_5 : decode cX8_stepLength 5 = .ok (.goto 5, 3) := by decide +kernel
theorem dX8_stepLength_8 : decode cX8_stepLength 8 = .ok (.iload_n 1, 1) := by decide +kernel
theorem dX8_stepLength_9 : decode cX8_stepLength 9 = .ok (.ineg, 1) := by decide +kernel
theorem dX8_stepLength_10 : decode cX8_stepLength 10 = .ok (.ireturn, 1) := by decide +kernel
theorem dJ5_init_d00df_0 : decode cJ5_init_d00df 0 = .ok (.aload_n 0, 1) := by decide +kernel
theorem dJ5_init_d00df_1 : decode cJ5_init_d00df 1 = .ok (.invokespecial 3, 3) := by decide +kernel
theorem dJ5_init_d00df_4 : decode cJ5_init_d00df 4 = .ok (.getstatic 18, 3) := by decide +kernel
theorem dJ5_init_d00df_7 : decode cJ5_init_d00df 7 = .ok (.ifCond .eq 18, 3) := by decide +kernel
theorem dJ5_init_d00df_10 : decode cJ5_init_d00df 10 = .ok (.aload_n 0, 1) := by decide +kernel
theorem dJ5_init_d00df_11 : decode cJ5_init_d00df 11 = .ok (.iload_n 1, 1) := by decide +kernel
theorem dJ5_init_d00df_12 : decode cJ5_init_d00df 12 = .ok (.newarray .byte, 2) := by decide +kernel
theorem dJ5_init_d00df_14 : decode cJ5_init_d00df 14 = .ok (.putfield 15, 3) := by decide +kernel
theorem dJ5_init_d00df_17 : decode cJ5_init_d00df 17 = .ok (.aload_n 0, 1) := by decide +kernel
theorem dJ5_init_d00df_18 : decode cJ5_init_d00df 18 = .ok (.iconst 0, 1) := by decide +kernel
theorem dJ5_init_d00df_19 : decode cJ5_init_d00df 19 = .ok (.putfield 22, 3) := by decide +kernel
theorem dJ5_init_d00df_22 : decode cJ5_init_d00df 22 = .ok (.goto 16, 3) := by decide +kernel
theorem dJ5_init_d00df_25 : decode cJ5_init_d00df 25 = .ok (.aload_n 0, 1) := by decide +kernel
theorem dJ5_init_d00df_26 : decode cJ5_init_d00df 26 = .ok (.iload_n 1, 1) := by decide +kernel
theorem dJ5_init_d00df_27 : decode cJ5_init_d00df 27 = .ok (.invokestatic 26, 3) := by decide +kernel
theorem dJ5_init_d00df_30 : decode cJ5_init_d00df 30 = .ok (.putfield 15, 3) := by decide +kernel
theorem dJ5_init_d00df_33 : decode cJ5_init_d00df 33 = .ok (.aload_n 0, 1) := by decide +kernel
theorem dJ5_init_d00df_34 : decode cJ5_init_d00df 34 = .ok (.iconst 1, 1) := by decide +kernel
theorem dJ5_init_d00df_35 : decode cJ5_init_d00df 35 = .ok (.putfield 22, 3) := by decide +kernel
theorem dJ5_init_d00df_38 : decode cJ5_init_d00df 38 = .ok (.return_, 1) := by decide +kernel
theorem dJ5_init_a7421_0 : decode cJ5_init_a7421 0 = .ok (.aload_n 0, 1) := by decide +kernel
theorem dJ5_init_a7421_1 : decode cJ5_init_a7421 1 = .ok (.invokespecial 3, 3) := by decide +kernel
theorem dJ5_init_a7421_4 : decode cJ5_init_a7421 4 = .ok (.aload_n 1, 1) := by decide +kernel
theorem dJ5_init_a7421_5 : decode cJ5_init_a7421 5 = .ok (.invokevirtual 32, 3) := by decide +kernel
theorem dJ5_init_a7421_8 : decode cJ5_init_a7421 8 = .ok (.istore_n 2, 1) := by decide +kernel
theorem dJ5_init_a7421_9 : decode cJ5_init_a7421 9 = .ok (.iload_n 2, 1) := by decide +kernel
theorem dJ5_init_a7421_10 : decode cJ5_init_a7421 10 = .ok (.ldc 38, 2) := by decide +kernel
theorem dJ5_init_a7421_12 : decode cJ5_init_a7421 12 = .ok (.if_icmp .ge 10, 3) := by decide +kernel
theorem dJ5_init_a7421_15 : decode cJ5_init_a7421 15 = .ok (.iload_n 2, 1) := by decide +kernel
theorem dJ5_init_a7421_16 : decode cJ5_init_a7421 16 = .ok (.bipush 16, 2) := by decide +kernel
theorem dJ5_init_a7421_18 : decode cJ5_init_a7421 18 = .ok (.iadd, 1) := by decide +kernel
theorem dJ5_init_a7421_19 : decode cJ5_init_a7421 19 = .ok (.goto 5, 3) := by decide +kernel
theorem dJ5_init_a7421_22 : decode cJ5_init_a7421 22 = .ok (.ldc 39, 2) := by decide +kernel
theorem dJ5_init_a7421_24 : decode cJ5_init_a7421 24 = .ok (.istore_n 3, 1) := by decide +kernel
theorem dJ5_init_a7421_25 : decode cJ5_init_a7421 25 = .ok (.aload_n 1, 1) := by decide +kernel
theorem dJ5_init_a7421_26 : decode cJ5_init_a7421 26 = .ok (.invokevirtual 40, 3) := by decide +kernel
theorem dJ5_init_a7421_29 : decode cJ5_init_a7421 29 = .ok (.istore 4, 2) := by decide +kernel
theorem dJ5_init_a7421_31 : decode cJ5_init_a7421 31 = .ok (.aload_n 0, 1) := by decide +kernel
theorem dJ5_init_a7421_32 : decode cJ5_init_a7421 32 = .ok (.iload 4, 2) := by decide +kernel
theorem dJ5_init_a7421_34 : decode cJ5_init_a7421 34 = .ok (.putfield 22, 3) := by decide +kernel
theorem dJ5_init_a7421_37 : decode cJ5_init_a7421 37 = .ok (.aload_n 0, 1) := by decide +kernel
theorem dJ5_init_a7421_38 : decode cJ5_init_a7421 38 = .ok (.iload 4, 2) := by decide +kernel
theorem dJ5_init_a7421_40 : decode cJ5_init_a7421 40 = .ok (.ifCond .ne 9, 3) := by decide +kernel
theorem dJ5_init_a7421_43 : decode cJ5_init_a7421 43 = .ok (.iload_n 3, 1) := by decide +kernel
theorem dJ5_init_a7421_44 : decode cJ5_init_a7421 44 = .ok (.newarray .byte, 2) := by decide +kernel
theorem dJ5_init_a7421_46 : decode cJ5_init_a7421 46 = .ok (.goto 7, 3) := by decide +kernel
theorem dJ5_init_a7421_49 : decode cJ5_init_a7421 49 = .ok (.iload_n 3, 1) := by decide +kernel
theorem dJ5_init_a7421_50 : decode cJ5_init_a7421 50 = .ok (.invokestatic 26, 3) := by decide +kernel
theorem dJ5_init_a7421_53 : decode cJ5_init_a7421 53 = .ok (.putfield 15, 3) := by decide +kernel
theorem dJ5_init_a7421_56 : decode cJ5_init_a7421 56 = .ok (.aload_n 0, 1) := by decide +kernel
theorem dJ5_init_a7421_57 : decode cJ5_init_a7421 57 = .ok (.aload_n 1, 1) := by decide +kernel
theorem dJ5_init_a7421_58 : decode cJ5_init_a7421 58 = .ok (.invokevirtual 43, 3) := by decide +kernel
theorem dJ5_init_a7421_61 : decode cJ5_init_a7421 61 = .ok (.pop, 1) := by decide +kernel
theorem dJ5_init_a7421_62 : decode cJ5_init_a7421 62 = .ok (.return_, 1) := by decide +kernel
theorem dJ5_length_8abf5_0 : decode cJ5_length_8abf5 0 = .ok (.aload_n 0, 1) := by decide +kernel
theorem dJ5_length_8abf5_1 : decode cJ5_length_8abf5 1 = .ok (.getfield 79, 3) := by decide +kernel
theorem dJ5_length_8abf5_4 : decode cJ5_length_8abf5 4 = .ok (.ireturn, 1) := by decide +kernel
theorem dJ5_ensureCapacityInternal_d00df_0 : decode cJ5_ensureCapacityInternal_d00df 0 = .ok (.aload_n 0, 1) := by decide +kernel
theorem dJ5_ensureCapacityInternal_d00df_1 : decode cJ5_ensureCapacityInternal_d00df 1 = .ok (.getfield 15, 3) := by decide +kernel
theorem dJ5_ensureCapacityInternal_d00df_4 : decode cJ5_ensureCapacityInternal_d00df 4 = .ok (.arraylength, 1) := by decide +kernel
theorem dJ5_ensureCapacityInternal_d00df_5 : decode cJ5_ensureCapacityInternal_d00df 5 = .ok (.aload_n 0, 1) := by decide +kernel
theorem dJ5_ensureCapacityInternal_d00df_6 : decode cJ5_ensureCapacityInternal_d00df 6 = .ok (.getfield 22, 3) := by decide +kernel
theorem dJ5_ensureCapacityInternal_d00df_9 : decode cJ5_ensureCapacityInternal_d00df 9 = .ok (.ishr, 1) := by decide +kernel
theorem dJ5_ensureCapacityInternal_d00df_10 : decode cJ5_ensureCapacityInternal_d00df 10 = .ok (.istore_n 2, 1) := by decide +kernel
theorem dJ5_ensureCapacityInternal_d00df_11 : decode cJ5_ensureCapacityInternal_d00df 11 = .ok (.iload_n 1, 1) := by decide +kernel
theorem dJ5_ensureCapacityInternal_d00df_12 : decode cJ5_ensureCapacityInternal_d00df 12 = .ok (.iload_n 2, 1) := by decide +kernel
theorem dJ5_ensureCapacityInternal_d00df_13 : decode cJ5_ensureCapacityInternal_d00df 13 = .ok (.isub, 1) := by decide +kernel
theorem dJ5_ensureCapacityInternal_d00df_14 : decode cJ5_ensureCapacityInternal_d00df 14 = .ok (.ifCond .le 24, 3) := by decide +kernel
theorem dJ5_ensureCapacityInternal_d00df_17 : decode cJ5_ensureCapacityInternal_d00df 17 = .ok (.aload_n 0, 1) := by decide +kernel
theorem dJ5_ensureCapacityInternal_d00df_18 : decode cJ5_ensureCapacityInternal_d00df 18 = .ok (.aload_n 0, 1) := by decide +kernel
theorem dJ5_ensureCapacityInternal_d00df_19 : decode cJ5_ensureCapacityInternal_d00df 19 = .ok (.getfield 15, 3) := by decide +kernel
theorem dJ5_ensureCapacityInternal_d00df_22 : decode cJ5_ensureCapacityInternal_d00df 22 = .ok (.aload_n 0, 1) := by decide +kernel
theorem dJ5_ensureCapacityInternal_d00df_23 : decode cJ5_ensureCapacityInternal_d00df 23 = .ok (.iload_n 1, 1) := by decide +kernel
theorem dJ5_ensureCapacityInternal_d00df_24 : decode cJ5_ensureCapacityInternal_d00df 24 = .ok (.invokevirtual 104, 3) := by decide +kernel
theorem dJ5_ensureCapacityInternal_d00df_27 : decode cJ5_ensureCapacityInternal_d00df 27 = .ok (.aload_n 0, 1) := by decide +kernel
theorem dJ5_ensureCapacityInternal_d00df_28 : decode cJ5_ensureCapacityInternal_d00df 28 = .ok (.getfield 22, 3) := by decide +kernel
theorem dJ5_ensureCapacityInternal_d00df_31 : decode cJ5_ensureCapacityInternal_d00df 31 = .ok (.ishl, 1) := by decide +kernel
theorem dJ5_ensureCapacityInternal_d00df_32 : decode cJ5_ensureCapacityInternal_d00df 32 = .ok (.invokestatic 108, 3) := by decide +kernel
theorem dJ5_ensureCapacityInternal_d00df_35 : decode cJ5_ensureCapacityInternal_d00df 35 = .ok (.putfield 15, 3) := by decide +kernel
theorem dJ5_ensureCapacityInternal_d00df_38 : decode cJ5_ensureCapacityInternal_d00df 38 = .ok (.return_, 1) := by decide +kernel
theorem dJ5_newCapacity_0f7a4_0 : decode cJ5_newCapacity_0f7a4 0 = .ok (.aload_n 0, 1) := by decide +kernel
theorem dJ5_newCapacity_0f7a4_1 : decode cJ5_newCapacity_0f7a4 1 = .ok (.getfield 15, 3) := by decide +kernel
theorem dJ5_newCapacity_0f7a4_4 : decode cJ5_newCapacity_0f7a4 4 = .ok (.arraylength, 1) := by decide +kernel
theorem dJ5_newCapacity_0f7a4_5 : decode cJ5_newCapacity_0f7a4 5 = .ok (.istore_n 2, 1) := by decide +kernel
theorem dJ5_newCapacity_0f7a4_6 : decode cJ5_newCapacity_0f7a4 6 = .ok (.iload_n 1, 1) := by decide +kernel
theorem dJ5_newCapacity_0f7a4_7 : decode cJ5_newCapacity_0f7a4 7 = .ok (.aload_n 0, 1) := by decide +kernel
theorem dJ5_newCapacity_0f7a4_8 : decode cJ5_newCapacity_0f7a4 8 = .ok (.getfield 22, 3) := by decide +kernel
theorem dJ5_newCapacity_0f7a4_11 : decode cJ5_newCapacity_0f7a4 11 = .ok (.ishl, 1) := by decide +kernel
theorem dJ5_newCapacity_0f7a4_12 : decode cJ5_newCapacity_0f7a4 12 = .ok (.istore_n 3, 1) := by decide +kernel
theorem dJ5_newCapacity_0f7a4_13 : decode cJ5_newCapacity_0f7a4 13 = .ok (.iload_n 3, 1) := by decide +kernel
theorem dJ5_newCapacity_0f7a4_14 : decode cJ5_newCapacity_0f7a4 14 = .ok (.iload_n 2, 1) := by decide +kernel
theorem dJ5_newCapacity_0f7a4_15 : decode cJ5_newCapacity_0f7a4 15 = .ok (.isub, 1) := by decide +kernel
theorem dJ5_newCapacity_0f7a4_16 : decode cJ5_newCapacity_0f7a4 16 = .ok (.istore 4, 2) := by decide +kernel
theorem dJ5_newCapacity_0f7a4_18 : decode cJ5_newCapacity_0f7a4 18 = .ok (.iload_n 2, 1) := by decide +kernel
theorem dJ5_newCapacity_0f7a4_19 : decode cJ5_newCapacity_0f7a4 19 = .ok (.iload 4, 2) := by decide +kernel
theorem dJ5_newCapacity_0f7a4_21 : decode cJ5_newCapacity_0f7a4 21 = .ok (.iload_n 2, 1) := by decide +kernel
theorem dJ5_newCapacity_0f7a4_22 : decode cJ5_newCapacity_0f7a4 22 = .ok (.iconst 2, 1) := by decide +kernel
theorem dJ5_newCapacity_0f7a4_23 : decode cJ5_newCapacity_0f7a4 23 = .ok (.aload_n 0, 1) := by decide +kernel
theorem dJ5_newCapacity_0f7a4_24 : decode cJ5_newCapacity_0f7a4 24 = .ok (.getfield 22, 3) := by decide +kernel
theorem dJ5_newCapacity_0f7a4_27 : decode cJ5_newCapacity_0f7a4 27 = .ok (.ishl, 1) := by decide +kernel
theorem dJ5_newCapacity_0f7a4_28 : decode cJ5_newCapacity_0f7a4 28 = .ok (.iadd, 1) := by decide +kernel
theorem dJ5_newCapacity_0f7a4_29 : decode cJ5_newCapacity_0f7a4 29 = .ok (.invokestatic 114, 3) := by decide +kernel
theorem dJ5_newCapacity_0f7a4_32 : decode cJ5_newCapacity_0f7a4 32 = .ok (.istore 5, 2) := by decide +kernel
theorem dJ5_newCapacity_0f7a4_34 : decode cJ5_newCapacity_0f7a4 34 = .ok (.iload 5, 2) := by decide +kernel
theorem dJ5_newCapacity_0f7a4_36 : decode cJ5_newCapacity_0f7a4 36 = .ok (.ldc 39, 2) := by decide +kernel
theorem dJ5_newCapacity_0f7a4_38 : decode cJ5_newCapacity_0f7a4 38 = .ok (.if_icmp .ne 13, 3) := by decide +kernel
theorem dJ5_newCapacity_0f7a4_41 : decode cJ5_newCapacity_0f7a4 41 = .ok (.new 120, 3) := by decide +kernel
theorem dJ5_newCapacity_0f7a4_44 : decode cJ5_newCapacity_0f7a4 44 = .ok (.dup, 1) := by decide +kernel
theorem dJ5_newCapacity_0f7a4_45 : decode cJ5_newCapacity_0f7a4 45 = .ok (.ldc 122, 2) := by decide +kernel
theorem dJ5_newCapacity_0f7a4_47 : decode cJ5_newCapacity_0f7a4 47 = .ok (.invokespecial 124, 3) := by decide +kernel
theorem dJ5_newCapacity_0f7a4_50 : decode cJ5_newCapacity_0f7a4 50 = .ok (.athrow, 1) := by decide +kernel
theorem dJ5_newCapacity_0f7a4_51 : decode cJ5_newCapacity_0f7a4 51 = .ok (.iload 5, 2) := by decide +kernel
theorem dJ5_newCapacity_0f7a4_53 : decode cJ5_newCapacity_0f7a4 53 = .ok (.aload_n 0, 1) := by decide +kernel
theorem dJ5_newCapacity_0f7a4_54 : decode cJ5_newCapacity_0f7a4 54 = .ok (.getfield 22, 3) := by decide +kernel
theorem dJ5_newCapacity_0f7a4_57 : decode cJ5_newCapacity_0f7a4 57 = .ok (.ishr, 1) := by decide +kernel
theorem dJ5_newCapacity_0f7a4_58 : decode cJ5_newCapacity_0f7a4 58 = .ok (.ireturn, 1) := by decide +kernel
theorem dJ5_inflate_da8c8_0 : decode cJ5_inflate_da8c8 0 = .ok (.aload_n 0, 1) := by decide +kernel
theorem dJ5_inflate_da8c8_1 : decode cJ5_inflate_da8c8 1 = .ok (.invokevirtual 83, 3) := by decide +kernel
theorem dJ5_inflate_da8c8_4 : decode cJ5_inflate_da8c8 4 = .ok (.ifCond .ne 4, 3) := by decide +kernel
theorem dJ5_inflate_da8c8_7 : decode cJ5_inflate_da8c8 7 = .ok (.return_, 1) := by decide +kernel
theorem dJ5_inflate_da8c8_8 : decode cJ5_inflate_da8c8 8 = .ok (.aload_n 0, 1) := by decide +kernel
theorem dJ5_inflate_da8c8_9 : decode cJ5_inflate_da8c8 9 = .ok (.getfield 15, 3) := by decide +kernel
theorem dJ5_inflate_da8c8_12 : decode cJ5_inflate_da8c8 12 = .ok (.arraylength, 1) := by decide +kernel
theorem dJ5_inflate_da8c8_13 : decode cJ5_inflate_da8c8 13 = .ok (.invokestatic 26, 3) := by decide +kernel
theorem dJ5_inflate_da8c8_16 : decode cJ5_inflate_da8c8 16 = .ok (.astore_n 1, 1) := by decide +kernel
theorem dJ5_inflate_da8c8_17 : decode cJ5_inflate_da8c8 17 = .ok (.aload_n 0, 1) := by decide +kernel
theorem dJ5_inflate_da8c8_18 : decode cJ5_inflate_da8c8 18 = .ok (.getfield 15, 3) := by decide +kernel
theorem dJ5_inflate_da8c8_21 : decode cJ5_inflate_da8c8 21 = .ok (.iconst 0, 1) := by decide +kernel
theorem dJ5_inflate_da8c8_22 : decode cJ5_inflate_da8c8 22 = .ok (.aload_n 1, 1) := by decide +kernel
theorem dJ5_inflate_da8c8_23 : decode cJ5_inflate_da8c8 23 = .ok (.iconst 0, 1) := by decide +kernel
theorem dJ5_inflate_da8c8_24 : decode cJ5_inflate_da8c8 24 = .ok (.aload_n 0, 1) := by decide +kernel
theorem dJ5_inflate_da8c8_25 : decode cJ5_inflate_da8c8 25 = .ok (.getfield 79, 3) := by decide +kernel
theorem dJ5_inflate_da8c8_28 : decode cJ5_inflate_da8c8 28 = .ok (.invokestatic 125, 3) := by decide +kernel
theorem dJ5_inflate_da8c8_31 : decode cJ5_inflate_da8c8 31 = .ok (.aload_n 0, 1) := by decide +kernel
theorem dJ5_inflate_da8c8_32 : decode cJ5_inflate_da8c8 32 = .ok (.aload_n 1, 1) := by decide +kernel
theorem dJ5_inflate_da8c8_33 : decode cJ5_inflate_da8c8 33 = .ok (.putfield 15, 3) := by decide +kernel
theorem dJ5_inflate_da8c8_36 : decode cJ5_inflate_da8c8 36 = .ok (.aload_n 0, 1) := by decide +kernel
theorem dJ5_inflate_da8c8_37 : decode cJ5_inflate_da8c8 37 = .ok (.iconst 1, 1) := by decide +kernel
theorem dJ5_inflate_da8c8_38 : decode cJ5_inflate_da8c8 38 = .ok (.putfield 22, 3) := by decide +kernel
theorem dJ5_inflate_da8c8_41 : decode cJ5_inflate_da8c8 41 = .ok (.return_, 1) := by decide +kernel
theorem dJ5_append_cf1ce_0 : decode cJ5_append_cf1ce 0 = .ok (.aload_n 1, 1) := by decide +kernel
theorem dJ5_append_cf1ce_1 : decode cJ5_append_cf1ce 1 = .ok (.ifnonnull 8, 3) := by decide +kernel
theorem dJ5_append_cf1ce_4 : decode cJ5_append_cf1ce 4 = .ok (.aload_n 0, 1) := by decide +kernel
theorem dJ5_append_cf1ce_5 : decode cJ5_append_cf1ce 5 = .ok (.invokevirtual 204, 3) := by decide +kernel
theorem dJ5_append_cf1ce_8 : decode cJ5_append_cf1ce 8 = .ok (.areturn, 1) := by decide +kernel
theorem dJ5_append_cf1ce_9 : decode cJ5_append_cf1ce 9 = .ok (.aload_n 1, 1) := by decide +kernel
theorem dJ5_append_cf1ce_10 : decode cJ5_append_cf1ce 10 = .ok (.invokevirtual 32, 3) := by decide +kernel
theorem dJ5_append_cf1ce_13 : decode cJ5_append_cf1ce 13 = .ok (.istore_n 2, 1) := by decide +kernel
theorem dJ5_append_cf1ce_14 : decode cJ5_append_cf1ce 14 = .ok (.aload_n 0, 1) := by decide +kernel
theorem dJ5_append_cf1ce_15 : decode cJ5_append_cf1ce 15 = .ok (.aload_n 0, 1) := by decide +kernel
theorem dJ5_append_cf1ce_16 : decode cJ5_append_cf1ce 16 = .ok (.getfield 79, 3) := by decide +kernel
theorem dJ5_append_cf1ce_19 : decode cJ5_append_cf1ce 19 = .ok (.iload_n 2, 1) := by decide +kernel
theorem dJ5_append_cf1ce_20 : decode cJ5_append_cf1ce 20 = .ok (.iadd, 1) := by decide +kernel
theorem dJ5_append_cf1ce_21 : decode cJ5_append_cf1ce 21 = .ok (.invokevirtual 100, 3) := by decide +kernel
theorem dJ5_append_cf1ce_24 : decode cJ5_append_cf1ce 24 = .ok (.aload_n 0, 1) := by decide +kernel
theorem dJ5_append_cf1ce_25 : decode cJ5_append_cf1ce 25 = .ok (.aload_n 0, 1) := by decide +kernel
theorem dJ5_append_cf1ce_26 : decode cJ5_append_cf1ce 26 = .ok (.getfield 79, 3) := by decide +kernel
theorem dJ5_append_cf1ce_29 : decode cJ5_append_cf1ce 29 = .ok (.aload_n 1, 1) := by decide +kernel
theorem dJ5_append_cf1ce_30 : decode cJ5_append_cf1ce 30 = .ok (.invokevirtual 208, 3) := by decide +kernel
theorem dJ5_append_cf1ce_33 : decode cJ5_append_cf1ce 33 = .ok (.aload_n 0, 1) := by decide +kernel
theorem dJ5_append_cf1ce_34 : decode cJ5_append_cf1ce 34 = .ok (.dup, 1) := by decide +kernel
theorem dJ5_append_cf1ce_35 : decode cJ5_append_cf1ce 35 = .ok (.getfield 79, 3) := by decide +kernel
theorem dJ5_append_cf1ce_38 : decode cJ5_append_cf1ce 38 = .ok (.iload_n 2, 1) := by decide +kernel
theorem dJ5_append_cf1ce_39 : decode cJ5_append_cf1ce 39 = .ok (.iadd, 1) := by decide +kernel
theorem dJ5_append_cf1ce_40 : decode cJ5_append_cf1ce 40 = .ok (.putfield 79, 3) := by decide +kernel
theorem dJ5_append_cf1ce_43 : decode cJ5_append_cf1ce 43 = .ok (.aload_n 0, 1) := by decide +kernel
theorem dJ5_append_cf1ce_44 : decode cJ5_append_cf1ce 44 = .ok (.areturn, 1) := by decide +kernel
theorem dJ5_appendNull_278bc_0 : decode cJ5_appendNull_278bc 0 = .ok (.aload_n 0, 1) := by decide +kernel
theorem dJ5_appendNull_278bc_1 : decode cJ5_appendNull_278bc 1 = .ok (.aload_n 0, 1) := by decide +kernel
theorem dJ5_appendNull_278bc_2 : decode cJ5_appendNull_278bc 2 = .ok (.getfield 79, 3) := by decide +kernel
theorem dJ5_appendNull_278bc_5 : decode cJ5_appendNull_278bc 5 = .ok (.iconst 4, 1) := by decide +kernel
theorem dJ5_appendNull_278bc_6 : decode cJ5_appendNull_278bc 6 = .ok (.iadd, 1) := by decide +kernel
theorem dJ5_appendNull_278bc_7 : decode cJ5_appendNull_278bc 7 = .ok (.invokevirtual 100, 3) := by decide +kernel
theorem dJ5_appendNull_278bc_10 : decode cJ5_appendNull_278bc 10 = .ok (.aload_n 0, 1) := by decide +kernel
theorem dJ5_appendNull_278bc_11 : decode cJ5_appendNull_278bc 11 = .ok (.getfield 79, 3) := by decide +kernel
theorem dJ5_appendNull_278bc_14 : decode cJ5_appendNull_278bc 14 = .ok (.istore_n 1, 1) := by decide +kernel
theorem dJ5_appendNull_278bc_15 : decode cJ5_appendNull_278bc 15 = .ok (.aload_n 0, 1) := by decide +kernel
theorem dJ5_appendNull_278bc_16 : decode cJ5_appendNull_278bc 16 = .ok (.getfield 15, 3) := by decide +kernel
theorem dJ5_appendNull_278bc_19 : decode cJ5_appendNull_278bc 19 = .ok (.astore_n 2, 1) := by decide +kernel
theorem dJ5_appendNull_278bc_20 : decode cJ5_appendNull_278bc 20 = .ok (.aload_n 0, 1) := by decide +kernel
theorem dJ5_appendNull_278bc_21 : decode cJ5_appendNull_278bc 21 = .ok (.invokevirtual 83, 3) := by decide +kernel
theorem dJ5_appendNull_278bc_24 : decode cJ5_appendNull_278bc 24 = .ok (.ifCond .eq 38, 3) := by decide +kernel
theorem dJ5_appendNull_278bc_27 : decode cJ5_appendNull_278bc 27 = .ok (.aload_n 2, 1) := by decide +kernel
theorem dJ5_appendNull_278bc_28 : decode cJ5_appendNull_278bc 28 = .ok (.iload_n 1, 1) := by decide +kernel
theorem dJ5_appendNull_278bc_29 : decode cJ5_appendNull_278bc 29 = .ok (.iinc 1 1, 3) := by decide +kernel
