theorem dL_tells_120 : decode cL_tells 120 = .ok (.aload_n 1, 1) := by decide +kernel
theorem dL_tells_121 : decode cL_tells 121 = .ok (.iload_n 2, 1) := by decide +kernel
theorem dL_tells_122 : decode cL_tells 122 = .ok (.aload_n 0, 1) := by decide +kernel
theorem dL_tells_123 : decode cL_tells 123 = .ok (.iload_n 3, 1) := by decide +kernel
theorem dL_tells_124 : decode cL_tells 124 = .ok (.iload 4, 2) := by decide +kernel
theorem dL_tells_126 : decode cL_tells 126 = .ok (.invokevirtual 154, 3) := by decide +kernel
theorem dL_tells_129 : decode cL_tells 129 = .ok (.iastore, 1) := by decide +kernel
theorem dL_tells_130 : decode cL_tells 130 = .ok (.iinc 2 1, 3) := by decide +kernel
theorem dL_tells_133 : decode cL_tells 133 = .ok (.iinc 4 1, 3) := by decide +kernel
theorem dL_tells_136 : decode cL_tells 136 = .ok (.goto (-22), 3) := by decide +kernel
theorem dL_tells_139 : decode cL_tells 139 = .ok (.iinc 3 1, 3) := by decide +kernel
theorem dL_tells_142 : decode cL_tells 142 = .ok (.goto (-40), 3) := by decide +kernel
theorem dL_tells_145 : decode cL_tells 145 = .ok (.iconst 0, 1) := by decide +kernel
theorem dL_tells_146 : decode cL_tells 146 = .ok (.istore_n 3, 1) := by decide +kernel
theorem dL_tells_147 : decode cL_tells 147 = .ok (.iload_n 3, 1) := by decide +kernel
theorem dL_tells_148 : decode cL_tells 148 = .ok (.aload_n 0, 1) := by decide +kernel
theorem dL_tells_149 : decode cL_tells 149 = .ok (.bipush 11, 2) := by decide +kernel
theorem dL_tells_151 : decode cL_tells 151 = .ok (.invokevirtual 103, 3) := by decide +kernel
theorem dL_tells_154 : decode cL_tells 154 = .ok (.if_icmp .ge 43, 3) := by decide +kernel
theorem dL_tells_157 : decode cL_tells 157 = .ok (.aload_n 1, 1) := by decide +kernel
theorem dL_tells_158 : decode cL_tells 158 = .ok (.iload_n 2, 1) := by decide +kernel
theorem dL_tells_159 : decode cL_tells 159 = .ok (.aload_n 0, 1) := by decide +kernel
theorem dL_tells_160 : decode cL_tells 160 = .ok (.iload_n 3, 1) := by decide +kernel
theorem dL_tells_161 : decode cL_tells 161 = .ok (.iconst 0, 1) := by decide +kernel
theorem dL_tells_162 : decode cL_tells 162 = .ok (.invokevirtual 157, 3) := by decide +kernel
theorem dL_tells_165 : decode cL_tells 165 = .ok (.iastore, 1) := by decide +kernel
theorem dL_tells_166 : decode cL_tells 166 = .ok (.aload_n 1, 1) := by decide +kernel
theorem dL_tells_167 : decode cL_tells 167 = .ok (.iload_n 2, 1) := by decide +kernel
theorem dL_tells_168 : decode cL_tells 168 = .ok (.iconst 1, 1) := by decide +kernel
theorem dL_tells_169 : decode cL_tells 169 = .ok (.iadd, 1) := by decide +kernel
theorem dL_tells_170 : decode cL_tells 170 = .ok (.aload_n 0, 1) := by decide +kernel
theorem dL_tells_171 : decode cL_tells 171 = .ok (.iload_n 3, 1) := by decide +kernel
theorem dL_tells_172 : decode cL_tells 172 = .ok (.iconst 1, 1) := by decide +kernel
theorem dL_tells_173 : decode cL_tells 173 = .ok (.invokevirtual 157, 3) := by decide +kernel
theorem dL_tells_176 : decode cL_tells 176 = .ok (.iastore, 1) := by decide +kernel
theorem dL_tells_177 : decode cL_tells 177 = .ok (.aload_n 1, 1) := by decide +kernel
theorem dL_tells_178 : decode cL_tells 178 = .ok (.iload_n 2, 1) := by decide +kernel
theorem dL_tells_179 : decode cL_tells 179 = .ok (.iconst 2, 1) := by decide +kernel
theorem dL_tells_180 : decode cL_tells 180 = .ok (.iadd, 1) := by decide +kernel
theorem dL_tells_181 : decode cL_tells 181 = .ok (.aload_n 0, 1) := by decide +kernel
theorem dL_tells_182 : decode cL_tells 182 = .ok (.iload_n 3, 1) := by decide +kernel
theorem dL_tells_183 : decode cL_tells 183 = .ok (.iconst 2, 1) := by decide +kernel
theorem dL_tells_184 : decode cL_tells 184 = .ok (.invokevirtual 157, 3) := by decide +kernel
theorem dL_tells_187 : decode cL_tells 187 = .ok (.iastore, 1) := by decide +kernel
theorem dL_tells_188 : decode cL_tells 188 = .ok (.iinc 2 3, 3) := by decide +kernel
theorem dL_tells_191 : decode cL_tells 191 = .ok (.iinc 3 1, 3) := by decide +kernel
theorem dL_tells_194 : decode cL_tells 194 = .ok (.goto (-47), 3) := by decide +kernel
theorem dL_tells_197 : decode cL_tells 197 = .ok (.iload_n 2, 1) := by decide +kernel
theorem dL_tells_198 : decode cL_tells 198 = .ok (.ireturn, 1) := by decide +kernel
theorem dL_isAs_0 : decode cL_isAs 0 = .ok (.aload_n 0, 1) := by decide +kernel
theorem dL_isAs_1 : decode cL_isAs 1 = .ok (.aload_n 3, 1) := by decide +kernel
theorem dL_isAs_2 : decode cL_isAs 2 = .ok (.invokestatic 160, 3) := by decide +kernel
theorem dL_isAs_5 : decode cL_isAs 5 = .ok (.iload_n 2, 1) := by decide +kernel
theorem dL_isAs_6 : decode cL_isAs 6 = .ok (.if_icmp .ne 7, 3) := by decide +kernel
theorem dL_isAs_9 : decode cL_isAs 9 = .ok (.iconst 1, 1) := by decide +kernel
theorem dL_isAs_10 : decode cL_isAs 10 = .ok (.goto 4, 3) := by decide +kernel
theorem dL_isAs_13 : decode cL_isAs 13 = .ok (.iconst 0, 1) := by decide +kernel
theorem dL_isAs_14 : decode cL_isAs 14 = .ok (.istore 4, 2) := by decide +kernel
theorem dL_isAs_16 : decode cL_isAs 16 = .ok (.iconst 0, 1) := by decide +kernel
theorem dL_isAs_17 : decode cL_isAs 17 = .ok (.istore 5, 2) := by decide +kernel
theorem dL_isAs_19 : decode cL_isAs 19 = .ok (.iload 5, 2) := by decide +kernel
theorem dL_isAs_21 : decode cL_isAs 21 = .ok (.iload_n 2, 1) := by decide +kernel
theorem dL_isAs_22 : decode cL_isAs 22 = .ok (.if_icmp .ge 32, 3) := by decide +kernel
theorem dL_isAs_25 : decode cL_isAs 25 = .ok (.iload 4, 2) := by decide +kernel
theorem dL_isAs_27 : decode cL_isAs 27 = .ok (.ifCond .eq 27, 3) := by decide +kernel
theorem dL_isAs_30 : decode cL_isAs 30 = .ok (.aload_n 3, 1) := by decide +kernel
theorem dL_isAs_31 : decode cL_isAs 31 = .ok (.iload 5, 2) := by decide +kernel
theorem dL_isAs_33 : decode cL_isAs 33 = .ok (.iaload, 1) := by decide +kernel
theorem dL_isAs_34 : decode cL_isAs 34 = .ok (.aload_n 1, 1) := by decide +kernel
theorem dL_isAs_35 : decode cL_isAs 35 = .ok (.iload 5, 2) := by decide +kernel
theorem dL_isAs_37 : decode cL_isAs 37 = .ok (.iaload, 1) := by decide +kernel
theorem dL_isAs_38 : decode cL_isAs 38 = .ok (.if_icmp .ne 7, 3) := by decide +kernel
theorem dL_isAs_41 : decode cL_isAs 41 = .ok (.iconst 1, 1) := by decide +kernel
theorem dL_isAs_42 : decode cL_isAs 42 = .ok (.goto 4, 3) := by decide +kernel
theorem dL_isAs_45 : decode cL_isAs 45 = .ok (.iconst 0, 1) := by decide +kernel
theorem dL_isAs_46 : decode cL_isAs 46 = .ok (.istore 4, 2) := by decide +kernel
theorem dL_isAs_48 : decode cL_isAs 48 = .ok (.iinc 5 1, 3) := by decide +kernel
theorem dL_isAs_51 : decode cL_isAs 51 = .ok (.goto (-32), 3) := by decide +kernel
theorem dL_isAs_54 : decode cL_isAs 54 = .ok (.iload 4, 2) := by decide +kernel
theorem dL_isAs_56 : decode cL_isAs 56 = .ok (.ireturn, 1) := by decide +kernel
theorem dL_bear_0 : decode cL_bear 0 = .ok (.iconst 1, 1) := by decide +kernel
theorem dL_bear_1 : decode cL_bear 1 = .ok (.istore_n 2, 1) := by decide +kernel
theorem dL_bear_2 : decode cL_bear 2 = .ok (.iconst 0, 1) := by decide +kernel
theorem dL_bear_3 : decode cL_bear 3 = .ok (.istore_n 3, 1) := by decide +kernel
theorem dL_bear_4 : decode cL_bear 4 = .ok (.iload_n 3, 1) := by decide +kernel
theorem dL_bear_5 : decode cL_bear 5 = .ok (.aload_n 0, 1) := by decide +kernel
theorem dL_bear_6 : decode cL_bear 6 = .ok (.iconst 2, 1) := by decide +kernel
theorem dL_bear_7 : decode cL_bear 7 = .ok (.invokevirtual 103, 3) := by decide +kernel
theorem dL_bear_10 : decode cL_bear 10 = .ok (.if_icmp .ge 87, 3) := by decide +kernel
theorem dL_bear_13 : decode cL_bear 13 = .ok (.iload_n 2, 1) := by decide +kernel
theorem dL_bear_14 : decode cL_bear 14 = .ok (.ifCond .eq 83, 3) := by decide +kernel
theorem dL_bear_17 : decode cL_bear 17 = .ok (.aload_n 0, 1) := by decide +kernel
theorem dL_bear_18 : decode cL_bear 18 = .ok (.aload_n 0, 1) := by decide +kernel
theorem dL_bear_19 : decode cL_bear 19 = .ok (.iload_n 3, 1) := by decide +kernel
theorem dL_bear_20 : decode cL_bear 20 = .ok (.iconst 1, 1) := by decide +kernel
theorem dL_bear_21 : decode cL_bear 21 = .ok (.invokevirtual 154, 3) := by decide +kernel
theorem dL_bear_24 : decode cL_bear 24 = .ok (.iload_n 1, 1) := by decide +kernel
theorem dL_bear_25 : decode cL_bear 25 = .ok (.invokestatic 164, 3) := by decide +kernel
theorem dL_bear_28 : decode cL_bear 28 = .ok (.aload_n 0, 1) := by decide +kernel
theorem dL_bear_29 : decode cL_bear 29 = .ok (.aload_n 0, 1) := by decide +kernel
theorem dL_bear_30 : decode cL_bear 30 = .ok (.iload_n 3, 1) := by decide +kernel
theorem dL_bear_31 : decode cL_bear 31 = .ok (.iconst 0, 1) := by decide +kernel
theorem dL_bear_32 : decode cL_bear 32 = .ok (.invokevirtual 154, 3) := by decide +kernel
theorem dL_bear_35 : decode cL_bear 35 = .ok (.iload_n 1, 1) := by decide +kernel
theorem dL_bear_36 : decode cL_bear 36 = .ok (.invokestatic 164, 3) := by decide +kernel
theorem dL_bear_39 : decode cL_bear 39 = .ok (.isub, 1) := by decide +kernel
theorem dL_bear_40 : decode cL_bear 40 = .ok (.istore 4, 2) := by decide +kernel
theorem dL_bear_42 : decode cL_bear 42 = .ok (.aload_n 0, 1) := by decide +kernel
theorem dL_bear_43 : decode cL_bear 43 = .ok (.iload_n 3, 1) := by decide +kernel
theorem dL_bear_44 : decode cL_bear 44 = .ok (.iconst 4, 1) := by decide +kernel
theorem dL_bear_45 : decode cL_bear 45 = .ok (.invokevirtual 154, 3) := by decide +kernel
theorem dL_bear_48 : decode cL_bear 48 = .ok (.ifCond .eq 37, 3) := by decide +kernel
theorem dL_bear_51 : decode cL_bear 51 = .ok (.aload_n 0, 1) := by decide +kernel
theorem dL_bear_52 : decode cL_bear 52 = .ok (.iload_n 3, 1) := by decide +kernel
theorem dL_bear_53 : decode cL_bear 53 = .ok (.iconst 2, 1) := by decide +kernel
theorem dL_bear_54 : decode cL_bear 54 = .ok (.invokevirtual 154, 3) := by decide +kernel
theorem dL_bear_57 : decode cL_bear 57 = .ok (.ifCond .ne 17, 3) := by decide +kernel
theorem dL_bear_60 : decode cL_bear 60 = .ok (.iload 4, 2) := by decide +kernel
theorem dL_bear_62 : decode cL_bear 62 = .ok (.aload_n 0, 1) := by decide +kernel
theorem dL_bear_63 : decode cL_bear 63 = .ok (.iload_n 3, 1) := by decide +kernel
theorem dL_bear_64 : decode cL_bear 64 = .ok (.iconst 3, 1) := by decide +kernel
theorem dL_bear_65 : decode cL_bear 65 = .ok (.invokevirtual 154, 3) := by decide +kernel
theorem dL_bear_68 : decode cL_bear 68 = .ok (.if_icmp .gt 21, 3) := by decide +kernel
theorem dL_bear_71 : decode cL_bear 71 = .ok (.goto 14, 3) := by decide +kernel
theorem dL_bear_74 : decode cL_bear 74 = .ok (.iload 4, 2) := by decide +kernel
theorem dL_bear_76 : decode cL_bear 76 = .ok (.aload_n 0, 1) := by decide +kernel
theorem dL_bear_77 : decode cL_bear 77 = .ok (.iload_n 3, 1) := by decide +kernel
theorem dL_bear_78 : decode cL_bear 78 = .ok (.iconst 3, 1) := by decide +kernel
theorem dL_bear_79 : decode cL_bear 79 = .ok (.invokevirtual 154, 3) := by decide +kernel
theorem dL_bear_82 : decode cL_bear 82 = .ok (.if_icmp .lt 7, 3) := by decide +kernel
theorem dL_bear_85 : decode cL_bear 85 = .ok (.iconst 1, 1) := by decide +kernel
theorem dL_bear_86 : decode cL_bear 86 = .ok (.goto 4, 3) := by decide +kernel
theorem dL_bear_89 : decode cL_bear 89 = .ok (.iconst 0, 1) := by decide +kernel
theorem dL_bear_90 : decode cL_bear 90 = .ok (.istore_n 2, 1) := by decide +kernel
theorem dL_bear_91 : decode cL_bear 91 = .ok (.iinc 3 1, 3) := by decide +kernel
theorem dL_bear_94 : decode cL_bear 94 = .ok (.goto (-90), 3) := by decide +kernel
theorem dL_bear_97 : decode cL_bear 97 = .ok (.iconst 0, 1) := by decide +kernel
theorem dL_bear_98 : decode cL_bear 98 = .ok (.istore_n 3, 1) := by decide +kernel
theorem dL_bear_99 : decode cL_bear 99 = .ok (.iload_n 3, 1) := by decide +kernel
theorem dL_bear_100 : decode cL_bear 100 = .ok (.aload_n 0, 1) := by decide +kernel
theorem dL_bear_101 : decode cL_bear 101 = .ok (.iconst 1, 1) := by decide +kernel
theorem dL_bear_102 : decode cL_bear 102 = .ok (.invokevirtual 103, 3) := by decide +kernel
theorem dL_bear_105 : decode cL_bear 105 = .ok (.if_icmp .ge 82, 3) := by decide +kernel
theorem dL_bear_108 : decode cL_bear 108 = .ok (.iload_n 2, 1) := by decide +kernel
theorem dL_bear_109 : decode cL_bear 109 = .ok (.ifCond .eq 78, 3) := by decide +kernel
theorem dL_bear_112 : decode cL_bear 112 = .ok (.aload_n 0, 1) := by decide +kernel
theorem dL_bear_113 : decode cL_bear 113 = .ok (.iload_n 3, 1) := by decide +kernel
theorem dL_bear_114 : decode cL_bear 114 = .ok (.iload_n 1, 1) := by decide +kernel
theorem dL_bear_115 : decode cL_bear 115 = .ok (.invokestatic 164, 3) := by decide +kernel
theorem dL_bear_118 : decode cL_bear 118 = .ok (.istore 4, 2) := by decide +kernel
theorem dL_bear_120 : decode cL_bear 120 = .ok (.aload_n 0, 1) := by decide +kernel
theorem dL_bear_121 : decode cL_bear 121 = .ok (.iload_n 3, 1) := by decide +kernel
theorem dL_bear_122 : decode cL_bear 122 = .ok (.iconst 3, 1) := by decide +kernel
theorem dL_bear_123 : decode cL_bear 123 = .ok (.invokevirtual 148, 3) := by decide +kernel
theorem dL_bear_126 : decode cL_bear 126 = .ok (.istore 5, 2) := by decide +kernel
theorem dL_bear_128 : decode cL_bear 128 = .ok (.iload 4, 2) := by decide +kernel
theorem dL_bear_130 : decode cL_bear 130 = .ok (.ifCond .lt 49, 3) := by decide +kernel
theorem dL_bear_133 : decode cL_bear 133 = .ok (.iload 4, 2) := by decide +kernel
theorem dL_bear_135 : decode cL_bear 135 = .ok (.aload_n 0, 1) := by decide +kernel
theorem dL_bear_136 : decode cL_bear 136 = .ok (.iconst 0, 1) := by decide +kernel
theorem dL_bear_137 : decode cL_bear 137 = .ok (.invokevirtual 103, 3) := by decide +kernel
theorem dL_bear_140 : decode cL_bear 140 = .ok (.if_icmp .gt 39, 3) := by decide +kernel
theorem dL_bear_143 : decode cL_bear 143 = .ok (.iload 5, 2) := by decide +kernel
theorem dL_bear_145 : decode cL_bear 145 = .ok (.ifCond .lt 10, 3) := by decide +kernel
theorem dL_bear_148 : decode cL_bear 148 = .ok (.iload 4, 2) := by decide +kernel
theorem dL_bear_150 : decode cL_bear 150 = .ok (.iload 5, 2) := by decide +kernel
theorem dL_bear_152 : decode cL_bear 152 = .ok (.if_icmp .ne 27, 3) := by decide +kernel
theorem dL_bear_155 : decode cL_bear 155 = .ok (.aload_n 0, 1) := by decide +kernel
theorem dL_bear_156 : decode cL_bear 156 = .ok (.iload_n 3, 1) := by decide +kernel
theorem dL_bear_157 : decode cL_bear 157 = .ok (.iload 4, 2) := by decide +kernel
theorem dL_bear_159 : decode cL_bear 159 = .ok (.invokevirtual 168, 3) := by decide +kernel
theorem dL_bear_162 : decode cL_bear 162 = .ok (.iconst 1, 1) := by decide +kernel
theorem dL_bear_163 : decode cL_bear 163 = .ok (.if_icmp .ne 16, 3) := by decide +kernel
theorem dL_bear_166 : decode cL_bear 166 = .ok (.iload_n 3, 1) := by decide +kernel
theorem dL_bear_167 : decode cL_bear 167 = .ok (.ifCond .gt 8, 3) := by decide +kernel
theorem dL_bear_170 : decode cL_bear 170 = .ok (.iload 4, 2) := by decide +kernel
theorem dL_bear_172 : decode cL_bear 172 = .ok (.ifCond .ne 7, 3) := by decide +kernel
theorem dL_bear_175 : decode cL_bear 175 = .ok (.iconst 1, 1) := by decide +kernel
theorem dL_bear_176 : decode cL_bear 176 = .ok (.goto 4, 3) := by decide +kernel
theorem dL_bear_179 : decode cL_bear 179 = .ok (.iconst 0, 1) := by decide +kernel
theorem dL_bear_180 : decode cL_bear 180 = .ok (.istore_n 2, 1) := by decide +kernel
theorem dL_bear_181 : decode cL_bear 181 = .ok (.iinc 3 1, 3) := by decide +kernel
theorem dL_bear_184 : decode cL_bear 184 = .ok (.goto (-85), 3) := by decide +kernel
theorem dL_bear_187 : decode cL_bear 187 = .ok (.iload_n 2, 1) := by decide +kernel
theorem dL_bear_188 : decode cL_bear 188 = .ok (.ireturn, 1) := by decide +kernel
theorem dL_time_0 : decode cL_time 0 = .ok (.iload_n 2, 1) := by decide +kernel
theorem dL_time_1 : decode cL_time 1 = .ok (.iconst 2, 1) := by decide +kernel
theorem dL_time_2 : decode cL_time 2 = .ok (.if_icmp .ge 12, 3) := by decide +kernel
theorem dL_time_5 : decode cL_time 5 = .ok (.aload_n 0, 1) := by decide +kernel
theorem dL_time_6 : decode cL_time 6 = .ok (.iload_n 1, 1) := by decide +kernel
theorem dL_time_7 : decode cL_time 7 = .ok (.iload_n 2, 1) := by decide +kernel
theorem dL_time_8 : decode cL_time 8 = .ok (.invokevirtual 148, 3) := by decide +kernel
theorem dL_time_11 : decode cL_time 11 = .ok (.goto 8, 3) := by decide +kernel
theorem dL_time_14 : decode cL_time 14 = .ok (.aload_n 0, 1) := by decide +kernel
theorem dL_time_15 : decode cL_time 15 = .ok (.iload_n 1, 1) := by decide +kernel
theorem dL_time_16 : decode cL_time 16 = .ok (.invokevirtual 171, 3) := by decide +kernel
theorem dL_time_19 : decode cL_time 19 = .ok (.ireturn, 1) := by decide +kernel
theorem dL_lengthOf_0 : decode cL_lengthOf 0 = .ok (.iload_n 1, 1) := by decide +kernel
theorem dL_lengthOf_1 : decode cL_lengthOf 1 = .ok (.bipush 100, 2) := by decide +kernel
theorem dL_lengthOf_3 : decode cL_lengthOf 3 = .ok (.if_icmp .ge 29, 3) := by decide +kernel
theorem dL_lengthOf_6 : decode cL_lengthOf 6 = .ok (.aload_n 0, 1) := by decide +kernel
theorem dL_lengthOf_7 : decode cL_lengthOf 7 = .ok (.iload_n 1, 1) := by decide +kernel
theorem dL_lengthOf_8 : decode cL_lengthOf 8 = .ok (.iconst 2, 1) := by decide +kernel
theorem dL_lengthOf_9 : decode cL_lengthOf 9 = .ok (.invokevirtual 154, 3) := by decide +kernel
theorem dL_lengthOf_12 : decode cL_lengthOf 12 = .ok (.ifCond .ne 12, 3) := by decide +kernel
theorem dL_lengthOf_15 : decode cL_lengthOf 15 = .ok (.aload_n 0, 1) := by decide +kernel
theorem dL_lengthOf_16 : decode cL_lengthOf 16 = .ok (.iload_n 1, 1) := by decide +kernel
theorem dL_lengthOf_17 : decode cL_lengthOf 17 = .ok (.iconst 3, 1) := by decide +kernel
theorem dL_lengthOf_18 : decode cL_lengthOf 18 = .ok (.invokevirtual 154, 3) := by decide +kernel
theorem dL_lengthOf_21 : decode cL_lengthOf 21 = .ok (.goto 10, 3) := by decide +kernel
theorem dL_lengthOf_24 : decode cL_lengthOf 24 = .ok (.aload_n 0, 1) := by decide +kernel
theorem dL_lengthOf_25 : decode cL_lengthOf 25 = .ok (.iload_n 1, 1) := by decide +kernel
theorem dL_lengthOf_26 : decode cL_lengthOf 26 = .ok (.iconst 3, 1) := by decide +kernel
theorem dL_lengthOf_27 : decode cL_lengthOf 27 = .ok (.invokevirtual 154, 3) := by decide +kernel
theorem dL_lengthOf_30 : decode cL_lengthOf 30 = .ok (.ineg, 1) := by decide +kernel
theorem dL_lengthOf_31 : decode cL_lengthOf 31 = .ok (.ireturn, 1) := by decide +kernel
theorem dL_lengthOf_32 : decode cL_lengthOf 32 = .ok (.iload_n 1, 1) := by decide +kernel
theorem dL_lengthOf_33 : decode cL_lengthOf 33 = .ok (.sipush 200, 3) := by decide +kernel
theorem dL_lengthOf_36 : decode cL_lengthOf 36 = .ok (.if_icmp .ge 11, 3) := by decide +kernel
theorem dL_lengthOf_39 : decode cL_lengthOf 39 = .ok (.aload_n 0, 1) := by decide +kernel
theorem dL_lengthOf_40 : decode cL_lengthOf 40 = .ok (.iconst 0, 1) := by decide +kernel
theorem dL_lengthOf_41 : decode cL_lengthOf 41 = .ok (.invokevirtual 103, 3) := by decide +kernel
theorem dL_lengthOf_44 : decode cL_lengthOf 44 = .ok (.goto 45, 3) := by decide +kernel
theorem dL_lengthOf_47 : decode cL_lengthOf 47 = .ok (.iload_n 1, 1) := by decide +kernel
theorem dL_lengthOf_48 : decode cL_lengthOf 48 = .ok (.sipush 300, 3) := by decide +kernel
theorem dL_lengthOf_51 : decode cL_lengthOf 51 = .ok (.if_icmp .ge 7, 3) := by decide +kernel
theorem dL_lengthOf_54 : decode cL_lengthOf 54 = .ok (.iconst 0, 1) := by decide +kernel
theorem dL_lengthOf_55 : decode cL_lengthOf 55 = .ok (.goto 34, 3) := by decide +kernel
theorem dL_lengthOf_58 : decode cL_lengthOf 58 = .ok (.iload_n 1, 1) := by decide +kernel
theorem dL_lengthOf_59 : decode cL_lengthOf 59 = .ok (.sipush 400, 3) := by decide +kernel
theorem dL_lengthOf_62 : decode cL_lengthOf 62 = .ok (.if_icmp .ge 16, 3) := by decide +kernel
theorem dL_lengthOf_65 : decode cL_lengthOf 65 = .ok (.aload_n 0, 1) := by decide +kernel
theorem dL_lengthOf_66 : decode cL_lengthOf 66 = .ok (.iload_n 1, 1) := by decide +kernel
theorem dL_lengthOf_67 : decode cL_lengthOf 67 = .ok (.sipush 300, 3) := by decide +kernel
theorem dL_lengthOf_70 : decode cL_lengthOf 70 = .ok (.isub, 1) := by decide +kernel
theorem dL_lengthOf_71 : decode cL_lengthOf 71 = .ok (.iconst 3, 1) := by decide +kernel
theorem dL_lengthOf_72 : decode cL_lengthOf 72 = .ok (.invokevirtual 148, 3) := by decide +kernel
theorem dL_lengthOf_75 : decode cL_lengthOf 75 = .ok (.goto 14, 3) := by decide +kernel
theorem dL_lengthOf_78 : decode cL_lengthOf 78 = .ok (.aload_n 0, 1) := by decide +kernel
theorem dL_lengthOf_79 : decode cL_lengthOf 79 = .ok (.iload_n 1, 1) := by decide +kernel
theorem dL_lengthOf_80 : decode cL_lengthOf 80 = .ok (.sipush 400, 3) := by decide +kernel
theorem dL_lengthOf_83 : decode cL_lengthOf 83 = .ok (.isub, 1) := by decide +kernel
theorem dL_lengthOf_84 : decode cL_lengthOf 84 = .ok (.iconst 3, 1) := by decide +kernel
theorem dL_lengthOf_85 : decode cL_lengthOf 85 = .ok (.invokevirtual 148, 3) := by decide +kernel
theorem dL_lengthOf_88 : decode cL_lengthOf 88 = .ok (.ineg, 1) := by decide +kernel
theorem dL_lengthOf_89 : decode cL_lengthOf 89 = .ok (.ireturn, 1) := by decide +kernel
theorem dL_bounds_0 : decode cL_bounds 0 = .ok (.aload_n 0, 1) := by decide +kernel
theorem dL_bounds_1 : decode cL_bounds 1 = .ok (.iconst 1, 1) := by decide +kernel
theorem dL_bounds_2 : decode cL_bounds 2 = .ok (.invokevirtual 103, 3) := by decide +kernel
theorem dL_bounds_5 : decode cL_bounds 5 = .ok (.istore_n 1, 1) := by decide +kernel
theorem dL_bounds_6 : decode cL_bounds 6 = .ok (.iconst 0, 1) := by decide +kernel
theorem dL_bounds_7 : decode cL_bounds 7 = .ok (.istore_n 2, 1) := by decide +kernel
theorem dL_bounds_8 : decode cL_bounds 8 = .ok (.aload_n 0, 1) := by decide +kernel
theorem dL_bounds_9 : decode cL_bounds 9 = .ok (.iconst 0, 1) := by decide +kernel
theorem dL_bounds_10 : decode cL_bounds 10 = .ok (.invokestatic 174, 3) := by decide +kernel
theorem dL_bounds_13 : decode cL_bounds 13 = .ok (.ifCond .eq 15, 3) := by decide +kernel
theorem dL_bounds_16 : decode cL_bounds 16 = .ok (.aload_n 0, 1) := by decide +kernel
theorem dL_bounds_17 : decode cL_bounds 17 = .ok (.iconst 1, 1) := by decide +kernel
theorem dL_bounds_18 : decode cL_bounds 18 = .ok (.invokestatic 174, 3) := by decide +kernel
theorem dL_bounds_21 : decode cL_bounds 21 = .ok (.ifCond .eq 7, 3) := by decide +kernel
theorem dL_bounds_24 : decode cL_bounds 24 = .ok (.iconst 1, 1) := by decide +kernel
theorem dL_bounds_25 : decode cL_bounds 25 = .ok (.goto 4, 3) := by decide +kernel
theorem dL_bounds_28 : decode cL_bounds 28 = .ok (.iconst 0, 1) := by decide +kernel
theorem dL_bounds_29 : decode cL_bounds 29 = .ok (.istore_n 3, 1) := by decide +kernel
theorem dL_bounds_30 : decode cL_bounds 30 = .ok (.iconst 0, 1) := by decide +kernel
theorem dL_bounds_31 : decode cL_bounds 31 = .ok (.istore 4, 2) := by decide +kernel
theorem dL_bounds_33 : decode cL_bounds 33 = .ok (.iload 4, 2) := by decide +kernel
theorem dL_bounds_35 : decode cL_bounds 35 = .ok (.iload_n 1, 1) := by decide +kernel
theorem dL_bounds_36 : decode cL_bounds 36 = .ok (.if_icmp .ge 392, 3) := by decide +kernel
theorem dL_bounds_39 : decode cL_bounds 39 = .ok (.iload_n 3, 1) := by decide +kernel
theorem dL_bounds_40 : decode cL_bounds 40 = .ok (.ifCond .eq 388, 3) := by decide +kernel
theorem dL_bounds_43 : decode cL_bounds 43 = .ok (.iload_n 2, 1) := by decide +kernel
theorem dL_bounds_44 : decode cL_bounds 44 = .ok (.aload_n 0, 1) := by decide +kernel
theorem dL_bounds_45 : decode cL_bounds 45 = .ok (.iload 4, 2) := by decide +kernel
theorem dL_bounds_47 : decode cL_bounds 47 = .ok (.iconst 1, 1) := by decide +kernel
theorem dL_bounds_48 : decode cL_bounds 48 = .ok (.invokevirtual 148, 3) := by decide +kernel
theorem dL_bounds_51 : decode cL_bounds 51 = .ok (.aload_n 0, 1) := by decide +kernel
theorem dL_bounds_52 : decode cL_bounds 52 = .ok (.iload 4, 2) := by decide +kernel
theorem dL_bounds_54 : decode cL_bounds 54 = .ok (.iconst 0, 1) := by decide +kernel
theorem dL_bounds_55 : decode cL_bounds 55 = .ok (.invokevirtual 148, 3) := by decide +kernel
theorem dL_bounds_58 : decode cL_bounds 58 = .ok (.isub, 1) := by decide +kernel
theorem dL_bounds_59 : decode cL_bounds 59 = .ok (.iadd, 1) := by decide +kernel
theorem dL_bounds_60 : decode cL_bounds 60 = .ok (.istore_n 2, 1) := by decide +kernel
theorem dL_bounds_61 : decode cL_bounds 61 = .ok (.aload_n 0, 1) := by decide +kernel
theorem dL_bounds_62 : decode cL_bounds 62 = .ok (.iload 4, 2) := by decide +kernel
theorem dL_bounds_64 : decode cL_bounds 64 = .ok (.iconst 0, 1) := by decide +kernel
theorem dL_bounds_65 : decode cL_bounds 65 = .ok (.invokevirtual 148, 3) := by decide +kernel
theorem dL_bounds_68 : decode cL_bounds 68 = .ok (.aload_n 0, 1) := by decide +kernel
theorem dL_bounds_69 : decode cL_bounds 69 = .ok (.iload 4, 2) := by decide +kernel
theorem dL_bounds_71 : decode cL_bounds 71 = .ok (.iconst 1, 1) := by decide +kernel
theorem dL_bounds_72 : decode cL_bounds 72 = .ok (.invokevirtual 148, 3) := by decide +kernel
theorem dL_bounds_75 : decode cL_bounds 75 = .ok (.if_icmp .gt 81, 3) := by decide +kernel
theorem dL_bounds_78 : decode cL_bounds 78 = .ok (.aload_n 0, 1) := by decide +kernel
theorem dL_bounds_79 : decode cL_bounds 79 = .ok (.iload 4, 2) := by decide +kernel
theorem dL_bounds_81 : decode cL_bounds 81 = .ok (.iconst 2, 1) := by decide +kernel
theorem dL_bounds_82 : decode cL_bounds 82 = .ok (.invokevirtual 148, 3) := by decide +kernel
theorem dL_bounds_85 : decode cL_bounds 85 = .ok (.aload_n 0, 1) := by decide +kernel
theorem dL_bounds_86 : decode cL_bounds 86 = .ok (.iload 4, 2) := by decide +kernel
theorem dL_bounds_88 : decode cL_bounds 88 = .ok (.iconst 1, 1) := by decide +kernel
theorem dL_bounds_89 : decode cL_bounds 89 = .ok (.invokevirtual 148, 3) := by decide +kernel
theorem dL_bounds_92 : decode cL_bounds 92 = .ok (.aload_n 0, 1) := by decide +kernel
theorem dL_bounds_93 : decode cL_bounds 93 = .ok (.iload 4, 2) := by decide +kernel
theorem dL_bounds_95 : decode cL_bounds 95 = .ok (.iconst 0, 1) := by decide +kernel
theorem dL_bounds_96 : decode cL_bounds 96 = .ok (.invokevirtual 148, 3) := by decide +kernel
theorem dL_bounds_99 : decode cL_bounds 99 = .ok (.isub, 1) := by decide +kernel
theorem dL_bounds_100 : decode cL_bounds 100 = .ok (.iconst 1, 1) := by decide +kernel
theorem dL_bounds_101 : decode cL_bounds 101 = .ok (.iadd, 1) := by decide +kernel
theorem dL_bounds_102 : decode cL_bounds 102 = .ok (.if_icmp .ne 54, 3) := by decide +kernel
theorem dL_bounds_105 : decode cL_bounds 105 = .ok (.aload_n 0, 1) := by decide +kernel
theorem dL_bounds_106 : decode cL_bounds 106 = .ok (.iload 4, 2) := by decide +kernel
theorem dL_bounds_108 : decode cL_bounds 108 = .ok (.iload 4, 2) := by decide +kernel
theorem dL_bounds_110 : decode cL_bounds 110 = .ok (.invokevirtual 178, 3) := by decide +kernel
theorem dL_bounds_113 : decode cL_bounds 113 = .ok (.ifCond .ne 43, 3) := by decide +kernel
theorem dL_bounds_116 : decode cL_bounds 116 = .ok (.aload_n 0, 1) := by decide +kernel
theorem dL_bounds_117 : decode cL_bounds 117 = .ok (.iload 4, 2) := by decide +kernel
theorem dL_bounds_119 : decode cL_bounds 119 = .ok (.aload_n 0, 1) := by decide +kernel
theorem dL_bounds_120 : decode cL_bounds 120 = .ok (.iload 4, 2) := by decide +kernel
theorem dL_bounds_122 : decode cL_bounds 122 = .ok (.iconst 1, 1) := by decide +kernel
theorem dL_bounds_123 : decode cL_bounds 123 = .ok (.invokevirtual 148, 3) := by decide +kernel
theorem dL_bounds_126 : decode cL_bounds 126 = .ok (.iconst 1, 1) := by decide +kernel
theorem dL_bounds_127 : decode cL_bounds 127 = .ok (.iadd, 1) := by decide +kernel
theorem dL_bounds_128 : decode cL_bounds 128 = .ok (.invokevirtual 168, 3) := by decide +kernel
theorem dL_bounds_131 : decode cL_bounds 131 = .ok (.ifCond .ne 25, 3) := by decide +kernel
theorem dL_bounds_134 : decode cL_bounds 134 = .ok (.aload_n 0, 1) := by decide +kernel
theorem dL_bounds_135 : decode cL_bounds 135 = .ok (.iload 4, 2) := by decide +kernel
theorem dL_bounds_137 : decode cL_bounds 137 = .ok (.aload_n 0, 1) := by decide +kernel
theorem dL_bounds_138 : decode cL_bounds 138 = .ok (.iload 4, 2) := by decide +kernel
theorem dL_bounds_140 : decode cL_bounds 140 = .ok (.iconst 0, 1) := by decide +kernel
theorem dL_bounds_141 : decode cL_bounds 141 = .ok (.invokevirtual 148, 3) := by decide +kernel
theorem dL_bounds_144 : decode cL_bounds 144 = .ok (.iconst 1, 1) := by decide +kernel
theorem dL_bounds_145 : decode cL_bounds 145 = .ok (.isub, 1) := by decide +kernel
theorem dL_bounds_146 : decode cL_bounds 146 = .ok (.invokevirtual 168, 3) := by decide +kernel
theorem dL_bounds_149 : decode cL_bounds 149 = .ok (.ifCond .ne 7, 3) := by decide +kernel
theorem dL_bounds_152 : decode cL_bounds 152 = .ok (.iconst 1, 1) := by decide +kernel
theorem dL_bounds_153 : decode cL_bounds 153 = .ok (.goto 4, 3) := by decide +kernel
theorem dL_bounds_156 : decode cL_bounds 156 = .ok (.iconst 0, 1) := by decide +kernel
theorem dL_bounds_157 : decode cL_bounds 157 = .ok (.istore_n 3, 1) := by decide +kernel
theorem dL_bounds_158 : decode cL_bounds 158 = .ok (.iconst 0, 1) := by decide +kernel
theorem dL_bounds_159 : decode cL_bounds 159 = .ok (.istore 5, 2) := by decide +kernel
theorem dL_bounds_161 : decode cL_bounds 161 = .ok (.iload 5, 2) := by decide +kernel
theorem dL_bounds_163 : decode cL_bounds 163 = .ok (.iload_n 1, 1) := by decide +kernel
theorem dL_bounds_164 : decode cL_bounds 164 = .ok (.if_icmp .ge 258, 3) := by decide +kernel
theorem dL_bounds_167 : decode cL_bounds 167 = .ok (.iload_n 3, 1) := by decide +kernel
theorem dL_bounds_168 : decode cL_bounds 168 = .ok (.ifCond .eq 254, 3) := by decide +kernel
theorem dL_bounds_171 : decode cL_bounds 171 = .ok (.aload_n 0, 1) := by decide +kernel
theorem dL_bounds_172 : decode cL_bounds 172 = .ok (.iload 4, 2) := by decide +kernel
theorem dL_bounds_174 : decode cL_bounds 174 = .ok (.iload 5, 2) := by decide +kernel
theorem dL_bounds_176 : decode cL_bounds 176 = .ok (.invokevirtual 178, 3) := by decide +kernel
theorem dL_bounds_179 : decode cL_bounds 179 = .ok (.istore 6, 2) := by decide +kernel
theorem dL_bounds_181 : decode cL_bounds 181 = .ok (.iload 6, 2) := by decide +kernel
theorem dL_bounds_183 : decode cL_bounds 183 = .ok (.aload_n 0, 1) := by decide +kernel
theorem dL_bounds_184 : decode cL_bounds 184 = .ok (.iload 5, 2) := by decide +kernel
theorem dL_bounds_186 : decode cL_bounds 186 = .ok (.iload 4, 2) := by decide +kernel
theorem dL_bounds_188 : decode cL_bounds 188 = .ok (.invokevirtual 178, 3) := by decide +kernel
theorem dL_bounds_191 : decode cL_bounds 191 = .ok (.iadd, 1) := by decide +kernel
theorem dL_bounds_192 : decode cL_bounds 192 = .ok (.ifCond .lt 7, 3) := by decide +kernel
theorem dL_bounds_195 : decode cL_bounds 195 = .ok (.iconst 1, 1) := by decide +kernel
theorem dL_bounds_196 : decode cL_bounds 196 = .ok (.goto 4, 3) := by decide +kernel
theorem dL_bounds_199 : decode cL_bounds 199 = .ok (.iconst 0, 1) := by decide +kernel
theorem dL_bounds_200 : decode cL_bounds 200 = .ok (.istore_n 3, 1) := by decide +kernel
theorem dL_bounds_201 : decode cL_bounds 201 = .ok (.iload 4, 2) := by decide +kernel
theorem dL_bounds_203 : decode cL_bounds 203 = .ok (.iload 5, 2) := by decide +kernel
theorem dL_bounds_205 : decode cL_bounds 205 = .ok (.if_icmp .eq 164, 3) := by decide +kernel
theorem dL_bounds_208 : decode cL_bounds 208 = .ok (.iload_n 3, 1) := by decide +kernel
theorem dL_bounds_209 : decode cL_bounds 209 = .ok (.ifCond .eq 160, 3) := by decide +kernel
theorem dL_bounds_212 : decode cL_bounds 212 = .ok (.iconst 0, 1) := by decide +kernel
theorem dL_bounds_213 : decode cL_bounds 213 = .ok (.istore 7, 2) := by decide +kernel
theorem dL_bounds_215 : decode cL_bounds 215 = .ok (.aload_n 0, 1) := by decide +kernel
theorem dL_bounds_216 : decode cL_bounds 216 = .ok (.iload 4, 2) := by decide +kernel
theorem dL_bounds_218 : decode cL_bounds 218 = .ok (.iload 5, 2) := by decide +kernel
theorem dL_bounds_220 : decode cL_bounds 220 = .ok (.invokevirtual 181, 3) := by decide +kernel
theorem dL_bounds_223 : decode cL_bounds 223 = .ok (.istore 8, 2) := by decide +kernel
theorem dL_bounds_225 : decode cL_bounds 225 = .ok (.iconst 0, 1) := by decide +kernel
theorem dL_bounds_226 : decode cL_bounds 226 = .ok (.istore 9, 2) := by decide +kernel
theorem dL_bounds_228 : decode cL_bounds 228 = .ok (.iload 9, 2) := by decide +kernel
theorem dL_bounds_230 : decode cL_bounds 230 = .ok (.iload 8, 2) := by decide +kernel
theorem dL_bounds_232 : decode cL_bounds 232 = .ok (.if_icmp .ge 28, 3) := by decide +kernel
theorem dL_bounds_235 : decode cL_bounds 235 = .ok (.iload 7, 2) := by decide +kernel
theorem dL_bounds_237 : decode cL_bounds 237 = .ok (.aload_n 0, 1) := by decide +kernel
theorem dL_bounds_238 : decode cL_bounds 238 = .ok (.aload_n 0, 1) := by decide +kernel
theorem dL_bounds_239 : decode cL_bounds 239 = .ok (.iload 4, 2) := by decide +kernel
theorem dL_bounds_241 : decode cL_bounds 241 = .ok (.iload 5, 2) := by decide +kernel
theorem dL_bounds_243 : decode cL_bounds 243 = .ok (.iload 9, 2) := by decide +kernel
theorem dL_bounds_245 : decode cL_bounds 245 = .ok (.invokevirtual 184, 3) := by decide +kernel
theorem dL_bounds_248 : decode cL_bounds 248 = .ok (.invokestatic 188, 3) := by decide +kernel
theorem dL_bounds_251 : decode cL_bounds 251 = .ok (.iadd, 1) := by decide +kernel
theorem dL_bounds_252 : decode cL_bounds 252 = .ok (.istore 7, 2) := by decide +kernel
theorem dL_bounds_254 : decode cL_bounds 254 = .ok (.iinc 9 1, 3) := by decide +kernel
theorem dL_bounds_257 : decode cL_bounds 257 = .ok (.goto (-29), 3) := by decide +kernel
theorem dL_bounds_260 : decode cL_bounds 260 = .ok (.aload_n 0, 1) := by decide +kernel
theorem dL_bounds_261 : decode cL_bounds 261 = .ok (.iload 4, 2) := by decide +kernel
theorem dL_bounds_263 : decode cL_bounds 263 = .ok (.iload 5, 2) := by decide +kernel
theorem dL_bounds_265 : decode cL_bounds 265 = .ok (.invokevirtual 192, 3) := by decide +kernel
theorem dL_bounds_268 : decode cL_bounds 268 = .ok (.istore 9, 2) := by decide +kernel
theorem dL_bounds_270 : decode cL_bounds 270 = .ok (.aload_n 0, 1) := by decide +kernel
theorem dL_bounds_271 : decode cL_bounds 271 = .ok (.iload 5, 2) := by decide +kernel
theorem dL_bounds_273 : decode cL_bounds 273 = .ok (.iload 4, 2) := by decide +kernel
theorem dL_bounds_275 : decode cL_bounds 275 = .ok (.invokevirtual 192, 3) := by decide +kernel
theorem dL_bounds_278 : decode cL_bounds 278 = .ok (.istore 10, 2) := by decide +kernel
theorem dL_bounds_280 : decode cL_bounds 280 = .ok (.iload 7, 2) := by decide +kernel
theorem dL_bounds_282 : decode cL_bounds 282 = .ok (.iload 6, 2) := by decide +kernel
theorem dL_bounds_284 : decode cL_bounds 284 = .ok (.if_icmp .ne 83, 3) := by decide +kernel
theorem dL_bounds_287 : decode cL_bounds 287 = .ok (.aload_n 0, 1) := by decide +kernel
theorem dL_bounds_288 : decode cL_bounds 288 = .ok (.iload 4, 2) := by decide +kernel
theorem dL_bounds_290 : decode cL_bounds 290 = .ok (.iload 5, 2) := by decide +kernel
theorem dL_bounds_292 : decode cL_bounds 292 = .ok (.iload 8, 2) := by decide +kernel
theorem dL_bounds_294 : decode cL_bounds 294 = .ok (.invokevirtual 184, 3) := by decide +kernel
theorem dL_bounds_297 : decode cL_bounds 297 = .ok (.bipush (-2), 2) := by decide +kernel
theorem dL_bounds_299 : decode cL_bounds 299 = .ok (.if_icmp .ne 68, 3) := by decide +kernel
theorem dL_bounds_302 : decode cL_bounds 302 = .ok (.aload_n 0, 1) := by decide +kernel
theorem dL_bounds_303 : decode cL_bounds 303 = .ok (.iload 4, 2) := by decide +kernel
theorem dL_bounds_305 : decode cL_bounds 305 = .ok (.iload 5, 2) := by decide +kernel
theorem dL_bounds_307 : decode cL_bounds 307 = .ok (.invokevirtual 195, 3) := by decide +kernel
theorem dL_bounds_310 : decode cL_bounds 310 = .ok (.iload 6, 2) := by decide +kernel
theorem dL_bounds_312 : decode cL_bounds 312 = .ok (.aload_n 0, 1) := by decide +kernel
theorem dL_bounds_313 : decode cL_bounds 313 = .ok (.iload 5, 2) := by decide +kernel
theorem dL_bounds_315 : decode cL_bounds 315 = .ok (.iload 4, 2) := by decide +kernel
theorem dL_bounds_317 : decode cL_bounds 317 = .ok (.invokevirtual 178, 3) := by decide +kernel
theorem dL_bounds_320 : decode cL_bounds 320 = .ok (.iadd, 1) := by decide +kernel
theorem dL_bounds_321 : decode cL_bounds 321 = .ok (.if_icmp .ne 46, 3) := by decide +kernel
theorem dL_bounds_324 : decode cL_bounds 324 = .ok (.iload 10, 2) := by decide +kernel
theorem dL_bounds_326 : decode cL_bounds 326 = .ok (.iload 9, 2) := by decide +kernel
theorem dL_bounds_328 : decode cL_bounds 328 = .ok (.ifCond .eq 9, 3) := by decide +kernel
theorem dL_bounds_331 : decode cL_bounds 331 = .ok (.iload 9, 2) := by decide +kernel
theorem dL_bounds_333 : decode cL_bounds 333 = .ok (.iconst 5, 1) := by decide +kernel
theorem dL_bounds_334 : decode cL_bounds 334 = .ok (.if_icmp .ne 8, 3) := by decide +kernel
theorem dL_bounds_337 : decode cL_bounds 337 = .ok (.iload 9, 2) := by decide +kernel
theorem dL_bounds_339 : decode cL_bounds 339 = .ok (.goto 21, 3) := by decide +kernel
theorem dL_bounds_342 : decode cL_bounds 342 = .ok (.iload 9, 2) := by decide +kernel
theorem dL_bounds_344 : decode cL_bounds 344 = .ok (.iconst 3, 1) := by decide +kernel
theorem dL_bounds_345 : decode cL_bounds 345 = .ok (.if_icmp .ge 10, 3) := by decide +kernel
theorem dL_bounds_348 : decode cL_bounds 348 = .ok (.iconst 3, 1) := by decide +kernel
theorem dL_bounds_349 : decode cL_bounds 349 = .ok (.iload 9, 2) := by decide +kernel
theorem dL_bounds_351 : decode cL_bounds 351 = .ok (.isub, 1) := by decide +kernel
theorem dL_bounds_352 : decode cL_bounds 352 = .ok (.goto 8, 3) := by decide +kernel
theorem dL_bounds_355 : decode cL_bounds 355 = .ok (.bipush 7, 2) := by decide +kernel
theorem dL_bounds_357 : decode cL_bounds 357 = .ok (.iload 9, 2) := by decide +kernel
theorem dL_bounds_359 : decode cL_bounds 359 = .ok (.isub, 1) := by decide +kernel
theorem dL_bounds_360 : decode cL_bounds 360 = .ok (.if_icmp .ne 7, 3) := by decide +kernel
theorem dL_bounds_363 : decode cL_bounds 363 = .ok (.iconst 1, 1) := by decide +kernel
theorem dL_bounds_364 : decode cL_bounds 364 = .ok (.goto 4, 3) := by decide +kernel
theorem dL_bounds_367 : decode cL_bounds 367 = .ok (.iconst 0, 1) := by decide +kernel
theorem dL_bounds_368 : decode cL_bounds 368 = .ok (.istore_n 3, 1) := by decide +kernel
theorem dL_bounds_369 : decode cL_bounds 369 = .ok (.iconst 0, 1) := by decide +kernel
theorem dL_bounds_370 : decode cL_bounds 370 = .ok (.istore 7, 2) := by decide +kernel
theorem dL_bounds_372 : decode cL_bounds 372 = .ok (.iload 7, 2) := by decide +kernel
theorem dL_bounds_374 : decode cL_bounds 374 = .ok (.iload_n 1, 1) := by decide +kernel
theorem dL_bounds_375 : decode cL_bounds 375 = .ok (.if_icmp .ge 41, 3) := by decide +kernel
theorem dL_bounds_378 : decode cL_bounds 378 = .ok (.iload_n 3, 1) := by decide +kernel
theorem dL_bounds_379 : decode cL_bounds 379 = .ok (.ifCond .eq 37, 3) := by decide +kernel
theorem dL_bounds_382 : decode cL_bounds 382 = .ok (.iload 6, 2) := by decide +kernel
theorem dL_bounds_384 : decode cL_bounds 384 = .ok (.aload_n 0, 1) := by decide +kernel
theorem dL_bounds_385 : decode cL_bounds 385 = .ok (.iload 4, 2) := by decide +kernel
theorem dL_bounds_387 : decode cL_bounds 387 = .ok (.iload 7, 2) := by decide +kernel
theorem dL_bounds_389 : decode cL_bounds 389 = .ok (.invokevirtual 178, 3) := by decide +kernel
theorem dL_bounds_392 : decode cL_bounds 392 = .ok (.aload_n 0, 1) := by decide +kernel
theorem dL_bounds_393 : decode cL_bounds 393 = .ok (.iload 7, 2) := by decide +kernel
theorem dL_bounds_395 : decode cL_bounds 395 = .ok (.iload 5, 2) := by decide +kernel
theorem dL_bounds_397 : decode cL_bounds 397 = .ok (.invokevirtual 178, 3) := by decide +kernel
theorem dL_bounds_400 : decode cL_bounds 400 = .ok (.iadd, 1) := by decide +kernel
theorem dL_bounds_401 : decode cL_bounds 401 = .ok (.if_icmp .gt 7, 3) := by decide +kernel
theorem dL_bounds_404 : decode cL_bounds 404 = .ok (.iconst 1, 1) := by decide +kernel
theorem dL_bounds_405 : decode cL_bounds 405 = .ok (.goto 4, 3) := by decide +kernel
theorem dL_bounds_408 : decode cL_bounds 408 = .ok (.iconst 0, 1) := by decide +kernel
theorem dL_bounds_409 : decode cL_bounds 409 = .ok (.istore_n 3, 1) := by decide +kernel
theorem dL_bounds_410 : decode cL_bounds 410 = .ok (.iinc 7 1, 3) := by decide +kernel
theorem dL_bounds_413 : decode cL_bounds 413 = .ok (.goto (-41), 3) := by decide +kernel
theorem dL_bounds_416 : decode cL_bounds 416 = .ok (.iinc 5 1, 3) := by decide +kernel
theorem dL_bounds_419 : decode cL_bounds 419 = .ok (.goto (-258), 3) := by decide +kernel
theorem dL_bounds_422 : decode cL_bounds 422 = .ok (.iinc 4 1, 3) := by decide +kernel
theorem dL_bounds_425 : decode cL_bounds 425 = .ok (.goto (-392), 3) := by decide +kernel
theorem dL_bounds_428 : decode cL_bounds 428 = .ok (.iconst 0, 1) := by decide +kernel
theorem dL_bounds_429 : decode cL_bounds 429 = .ok (.istore 4, 2) := by decide +kernel
theorem dL_bounds_431 : decode cL_bounds 431 = .ok (.iload 4, 2) := by decide +kernel
theorem dL_bounds_433 : decode cL_bounds 433 = .ok (.aload_n 0, 1) := by decide +kernel
theorem dL_bounds_434 : decode cL_bounds 434 = .ok (.iconst 2, 1) := by decide +kernel
theorem dL_bounds_435 : decode cL_bounds 435 = .ok (.invokevirtual 103, 3) := by decide +kernel
theorem dL_bounds_438 : decode cL_bounds 438 = .ok (.if_icmp .ge 104, 3) := by decide +kernel
theorem dL_bounds_441 : decode cL_bounds 441 = .ok (.iload_n 3, 1) := by decide +kernel
theorem dL_bounds_442 : decode cL_bounds 442 = .ok (.ifCond .eq 100, 3) := by decide +kernel
theorem dL_bounds_445 : decode cL_bounds 445 = .ok (.aload_n 0, 1) := by decide +kernel
theorem dL_bounds_446 : decode cL_bounds 446 = .ok (.iload 4, 2) := by decide +kernel
theorem dL_bounds_448 : decode cL_bounds 448 = .ok (.bipush 7, 2) := by decide +kernel
theorem dL_bounds_450 : decode cL_bounds 450 = .ok (.invokevirtual 154, 3) := by decide +kernel
theorem dL_bounds_453 : decode cL_bounds 453 = .ok (.istore 5, 2) := by decide +kernel
theorem dL_bounds_455 : decode cL_bounds 455 = .ok (.aload_n 0, 1) := by decide +kernel
theorem dL_bounds_456 : decode cL_bounds 456 = .ok (.iload 4, 2) := by decide +kernel
theorem dL_bounds_458 : decode cL_bounds 458 = .ok (.iconst 4, 1) := by decide +kernel
theorem dL_bounds_459 : decode cL_bounds 459 = .ok (.invokevirtual 154, 3) := by decide +kernel
theorem dL_bounds_462 : decode cL_bounds 462 = .ok (.iconst 1, 1) := by decide +kernel
theorem dL_bounds_463 : decode cL_bounds 463 = .ok (.if_icmp .ne 7, 3) := by decide +kernel
theorem dL_bounds_466 : decode cL_bounds 466 = .ok (.iconst 1, 1) := by decide +kernel
theorem dL_bounds_467 : decode cL_bounds 467 = .ok (.goto 4, 3) := by decide +kernel
theorem dL_bounds_470 : decode cL_bounds 470 = .ok (.iconst 0, 1) := by decide +kernel
theorem dL_bounds_471 : decode cL_bounds 471 = .ok (.istore 6, 2) := by decide +kernel
theorem dL_bounds_473 : decode cL_bounds 473 = .ok (.iload 5, 2) := by decide +kernel
theorem dL_bounds_475 : decode cL_bounds 475 = .ok (.ifCond .lt 59, 3) := by decide +kernel
theorem dL_bounds_478 : decode cL_bounds 478 = .ok (.aload_n 0, 1) := by decide +kernel
theorem dL_bounds_479 : decode cL_bounds 479 = .ok (.iload 4, 2) := by decide +kernel
theorem dL_bounds_481 : decode cL_bounds 481 = .ok (.iconst 5, 1) := by decide +kernel
theorem dL_bounds_482 : decode cL_bounds 482 = .ok (.invokevirtual 154, 3) := by decide +kernel
theorem dL_bounds_485 : decode cL_bounds 485 = .ok (.iconst 1, 1) := by decide +kernel
theorem dL_bounds_486 : decode cL_bounds 486 = .ok (.if_icmp .ne 7, 3) := by decide +kernel
theorem dL_bounds_489 : decode cL_bounds 489 = .ok (.iconst 1, 1) := by decide +kernel
theorem dL_bounds_490 : decode cL_bounds 490 = .ok (.goto 4, 3) := by decide +kernel
theorem dL_bounds_493 : decode cL_bounds 493 = .ok (.iconst 0, 1) := by decide +kernel
theorem dL_bounds_494 : decode cL_bounds 494 = .ok (.iload 6, 2) := by decide +kernel
theorem dL_bounds_496 : decode cL_bounds 496 = .ok (.ifCond .eq 12, 3) := by decide +kernel
theorem dL_bounds_499 : decode cL_bounds 499 = .ok (.iload 5, 2) := by decide +kernel
theorem dL_bounds_501 : decode cL_bounds 501 = .ok (.ifCond .ne 7, 3) := by decide +kernel
theorem dL_bounds_504 : decode cL_bounds 504 = .ok (.iconst 1, 1) := by decide +kernel
theorem dL_bounds_505 : decode cL_bounds 505 = .ok (.goto 4, 3) := by decide +kernel
theorem dL_bounds_508 : decode cL_bounds 508 = .ok (.iconst 0, 1) := by decide +kernel
theorem dL_bounds_509 : decode cL_bounds 509 = .ok (.if_icmp .ne 25, 3) := by decide +kernel
theorem dL_bounds_512 : decode cL_bounds 512 = .ok (.aload_n 0, 1) := by decide +kernel
theorem dL_bounds_513 : decode cL_bounds 513 = .ok (.iload 4, 2) := by decide +kernel
theorem dL_bounds_515 : decode cL_bounds 515 = .ok (.bipush 6, 2) := by decide +kernel
theorem dL_bounds_517 : decode cL_bounds 517 = .ok (.invokevirtual 154, 3) := by decide +kernel
theorem dL_bounds_520 : decode cL_bounds 520 = .ok (.aload_n 0, 1) := by decide +kernel
theorem dL_bounds_521 : decode cL_bounds 521 = .ok (.iload 4, 2) := by decide +kernel
theorem dL_bounds_523 : decode cL_bounds 523 = .ok (.iconst 5, 1) := by decide +kernel
theorem dL_bounds_524 : decode cL_bounds 524 = .ok (.invokevirtual 154, 3) := by decide +kernel
theorem dL_bounds_527 : decode cL_bounds 527 = .ok (.if_icmp .gt 7, 3) := by decide +kernel
theorem dL_bounds_530 : decode cL_bounds 530 = .ok (.iconst 1, 1) := by decide +kernel
theorem dL_bounds_531 : decode cL_bounds 531 = .ok (.goto 4, 3) := by decide +kernel
theorem dL_bounds_534 : decode cL_bounds 534 = .ok (.iconst 0, 1) := by decide +kernel
theorem dL_bounds_535 : decode cL_bounds 535 = .ok (.istore_n 3, 1) := by decide +kernel
theorem dL_bounds_536 : decode cL_bounds 536 = .ok (.iinc 4 1, 3) := by decide +kernel
theorem dL_bounds_539 : decode cL_bounds 539 = .ok (.goto (-108), 3) := by decide +kernel
theorem dL_bounds_542 : decode cL_bounds 542 = .ok (.iload_n 3, 1) := by decide +kernel
theorem dL_bounds_543 : decode cL_bounds 543 = .ok (.ifCond .eq 64, 3) := by decide +kernel
theorem dL_bounds_546 : decode cL_bounds 546 = .ok (.aload_n 0, 1) := by decide +kernel
theorem dL_bounds_547 : decode cL_bounds 547 = .ok (.bipush 10, 2) := by decide +kernel
theorem dL_bounds_549 : decode cL_bounds 549 = .ok (.invokevirtual 103, 3) := by decide +kernel
theorem dL_bounds_552 : decode cL_bounds 552 = .ok (.iload_n 2, 1) := by decide +kernel
theorem dL_bounds_553 : decode cL_bounds 553 = .ok (.if_icmp .ne 54, 3) := by decide +kernel
theorem dL_bounds_556 : decode cL_bounds 556 = .ok (.aload_n 0, 1) := by decide +kernel
theorem dL_bounds_557 : decode cL_bounds 557 = .ok (.invokevirtual 198, 3) := by decide +kernel
theorem dL_bounds_560 : decode cL_bounds 560 = .ok (.iload_n 2, 1) := by decide +kernel
theorem dL_bounds_561 : decode cL_bounds 561 = .ok (.i2d, 1) := by decide +kernel
theorem dL_bounds_562 : decode cL_bounds 562 = .ok (.iload_n 1, 1) := by decide +kernel
theorem dL_bounds_563 : decode cL_bounds 563 = .ok (.i2d, 1) := by decide +kernel
theorem dL_bounds_564 : decode cL_bounds 564 = .ok (.ddiv, 1) := by decide +kernel
theorem dL_bounds_565 : decode cL_bounds 565 = .ok (.dcmp .l, 1) := by decide +kernel
theorem dL_bounds_566 : decode cL_bounds 566 = .ok (.ifCond .ne 41, 3) := by decide +kernel
theorem dL_bounds_569 : decode cL_bounds 569 = .ok (.aload_n 0, 1) := by decide +kernel
theorem dL_bounds_570 : decode cL_bounds 570 = .ok (.invokevirtual 202, 3) := by decide +kernel
theorem dL_bounds_573 : decode cL_bounds 573 = .ok (.aload_n 0, 1) := by decide +kernel
theorem dL_bounds_574 : decode cL_bounds 574 = .ok (.iconst 3, 1) := by decide +kernel
theorem dL_bounds_575 : decode cL_bounds 575 = .ok (.invokevirtual 103, 3) := by decide +kernel
theorem dL_bounds_578 : decode cL_bounds 578 = .ok (.ifCond .ne 7, 3) := by decide +kernel
theorem dL_bounds_581 : decode cL_bounds 581 = .ok (.fconst 0, 1) := by decide +kernel
theorem dL_bounds_582 : decode cL_bounds 582 = .ok (.goto 17, 3) := by decide +kernel
theorem dL_bounds_585 : decode cL_bounds 585 = .ok (.aload_n 0, 1) := by decide +kernel
theorem dL_bounds_586 : decode cL_bounds 586 = .ok (.bipush 6, 2) := by decide +kernel
theorem dL_bounds_588 : decode cL_bounds 588 = .ok (.invokevirtual 103, 3) := by decide +kernel
theorem dL_bounds_591 : decode cL_bounds 591 = .ok (.i2f, 1) := by decide +kernel
theorem dL_bounds_592 : decode cL_bounds 592 = .ok (.aload_n 0, 1) := by decide +kernel
theorem dL_bounds_593 : decode cL_bounds 593 = .ok (.iconst 3, 1) := by decide +kernel
theorem dL_bounds_594 : decode cL_bounds 594 = .ok (.invokevirtual 103, 3) := by decide +kernel
theorem dL_bounds_597 : decode cL_bounds 597 = .ok (.i2f, 1) := by decide +kernel
theorem dL_bounds_598 : decode cL_bounds 598 = .ok (.fdiv, 1) := by decide +kernel
theorem dL_bounds_599 : decode cL_bounds 599 = .ok (.fcmp .l, 1) := by decide +kernel
theorem dL_bounds_600 : decode cL_bounds 600 = .ok (.ifCond .ne 7, 3) := by decide +kernel
theorem dL_bounds_603 : decode cL_bounds 603 = .ok (.iconst 1, 1) := by decide +kernel
theorem dL_bounds_604 : decode cL_bounds 604 = .ok (.goto 4, 3) := by decide +kernel
theorem dL_bounds_607 : decode cL_bounds 607 = .ok (.iconst 0, 1) := by decide +kernel
theorem dL_bounds_608 : decode cL_bounds 608 = .ok (.ireturn, 1) := by decide +kernel
theorem dL_gaps_0 : decode cL_gaps 0 = .ok (.aload_n 1, 1) := by decide +kernel
theorem dL_gaps_1 : decode cL_gaps 1 = .ok (.invokestatic 62, 3) := by decide +kernel
theorem dL_gaps_4 : decode cL_gaps 4 = .ok (.aload_n 0, 1) := by decide +kernel
theorem dL_gaps_5 : decode cL_gaps 5 = .ok (.iconst 1, 1) := by decide +kernel
theorem dL_gaps_6 : decode cL_gaps 6 = .ok (.invokevirtual 103, 3) := by decide +kernel
theorem dL_gaps_9 : decode cL_gaps 9 = .ok (.irem, 1) := by decide +kernel
theorem dL_gaps_10 : decode cL_gaps 10 = .ok (.istore 4, 2) := by decide +kernel
theorem dL_gaps_12 : decode cL_gaps 12 = .ok (.iload 4, 2) := by decide +kernel
theorem dL_gaps_14 : decode cL_gaps 14 = .ok (.iconst 1, 1) := by decide +kernel
theorem dL_gaps_15 : decode cL_gaps 15 = .ok (.iadd, 1) := by decide +kernel
theorem dL_gaps_16 : decode cL_gaps 16 = .ok (.aload_n 1, 1) := by decide +kernel
theorem dL_gaps_17 : decode cL_gaps 17 = .ok (.invokestatic 62, 3) := by decide +kernel
theorem dL_gaps_20 : decode cL_gaps 20 = .ok (.iconst 1, 1) := by decide +kernel
theorem dL_gaps_21 : decode cL_gaps 21 = .ok (.aload_n 0, 1) := by decide +kernel
theorem dL_gaps_22 : decode cL_gaps 22 = .ok (.iconst 1, 1) := by decide +kernel
theorem dL_gaps_23 : decode cL_gaps 23 = .ok (.invokevirtual 103, 3) := by decide +kernel
theorem dL_gaps_26 : decode cL_gaps 26 = .ok (.iconst 1, 1) := by decide +kernel
theorem dL_gaps_27 : decode cL_gaps 27 = .ok (.isub, 1) := by decide +kernel
theorem dL_gaps_28 : decode cL_gaps 28 = .ok (.invokestatic 81, 3) := by decide +kernel
theorem dL_gaps_31 : decode cL_gaps 31 = .ok (.irem, 1) := by decide +kernel
theorem dL_gaps_32 : decode cL_gaps 32 = .ok (.iadd, 1) := by decide +kernel
theorem dL_gaps_33 : decode cL_gaps 33 = .ok (.aload_n 0, 1) := by decide +kernel
theorem dL_gaps_34 : decode cL_gaps 34 = .ok (.iconst 1, 1) := by decide +kernel
theorem dL_gaps_35 : decode cL_gaps 35 = .ok (.invokevirtual 103, 3) := by decide +kernel
theorem dL_gaps_38 : decode cL_gaps 38 = .ok (.irem, 1) := by decide +kernel
theorem dL_gaps_39 : decode cL_gaps 39 = .ok (.istore 5, 2) := by decide +kernel
theorem dL_gaps_41 : decode cL_gaps 41 = .ok (.aload_n 1, 1) := by decide +kernel
theorem dL_gaps_42 : decode cL_gaps 42 = .ok (.invokestatic 62, 3) := by decide +kernel
theorem dL_gaps_45 : decode cL_gaps 45 = .ok (.iconst 2, 1) := by decide +kernel
theorem dL_gaps_46 : decode cL_gaps 46 = .ok (.irem, 1) := by decide +kernel
theorem dL_gaps_47 : decode cL_gaps 47 = .ok (.istore 6, 2) := by decide +kernel
theorem dL_gaps_49 : decode cL_gaps 49 = .ok (.aload_n 1, 1) := by decide +kernel
theorem dL_gaps_50 : decode cL_gaps 50 = .ok (.invokestatic 62, 3) := by decide +kernel
theorem dL_gaps_53 : decode cL_gaps 53 = .ok (.bipush 60, 2) := by decide +kernel
theorem dL_gaps_55 : decode cL_gaps 55 = .ok (.irem, 1) := by decide +kernel
theorem dL_gaps_56 : decode cL_gaps 56 = .ok (.istore 7, 2) := by decide +kernel
theorem dL_gaps_58 : decode cL_gaps 58 = .ok (.iload 4, 2) := by decide +kernel
theorem dL_gaps_60 : decode cL_gaps 60 = .ok (.iload 5, 2) := by decide +kernel
theorem dL_gaps_62 : decode cL_gaps 62 = .ok (.if_icmp .eq 13, 3) := by decide +kernel
theorem dL_gaps_65 : decode cL_gaps 65 = .ok (.aload_n 0, 1) := by decide +kernel
theorem dL_gaps_66 : decode cL_gaps 66 = .ok (.iconst 2, 1) := by decide +kernel
theorem dL_gaps_67 : decode cL_gaps 67 = .ok (.invokevirtual 103, 3) := by decide +kernel
theorem dL_gaps_70 : decode cL_gaps 70 = .ok (.bipush 24, 2) := by decide +kernel
theorem dL_gaps_72 : decode cL_gaps 72 = .ok (.if_icmp .ne 5, 3) := by decide +kernel
theorem dL_gaps_75 : decode cL_gaps 75 = .ok (.iconst 1, 1) := by decide +kernel
theorem dL_gaps_76 : decode cL_gaps 76 = .ok (.ireturn, 1) := by decide +kernel
theorem dL_gaps_77 : decode cL_gaps 77 = .ok (.aload_n 0, 1) := by decide +kernel
theorem dL_gaps_78 : decode cL_gaps 78 = .ok (.aload_n 2, 1) := by decide +kernel
theorem dL_gaps_79 : decode cL_gaps 79 = .ok (.invokestatic 160, 3) := by decide +kernel
theorem dL_gaps_82 : decode cL_gaps 82 = .ok (.istore 8, 2) := by decide +kernel
theorem dL_gaps_84 : decode cL_gaps 84 = .ok (.aload_n 0, 1) := by decide +kernel
theorem dL_gaps_85 : decode cL_gaps 85 = .ok (.iload 4, 2) := by decide +kernel
theorem dL_gaps_87 : decode cL_gaps 87 = .ok (.iload 5, 2) := by decide +kernel
theorem dL_gaps_89 : decode cL_gaps 89 = .ok (.iload 6, 2) := by decide +kernel
theorem dL_gaps_91 : decode cL_gaps 91 = .ok (.iload 7, 2) := by decide +kernel
theorem dL_gaps_93 : decode cL_gaps 93 = .ok (.iconst 0, 1) := by decide +kernel
theorem dL_gaps_94 : decode cL_gaps 94 = .ok (.invokevirtual 206, 3) := by decide +kernel
theorem dL_gaps_97 : decode cL_gaps 97 = .ok (.istore 9, 2) := by decide +kernel
theorem dL_gaps_99 : decode cL_gaps 99 = .ok (.aload_n 0, 1) := by decide +kernel
theorem dL_gaps_100 : decode cL_gaps 100 = .ok (.iload 4, 2) := by decide +kernel
theorem dL_gaps_102 : decode cL_gaps 102 = .ok (.iload 5, 2) := by decide +kernel
theorem dL_gaps_104 : decode cL_gaps 104 = .ok (.iload 6, 2) := by decide +kernel
theorem dL_gaps_106 : decode cL_gaps 106 = .ok (.iload 7, 2) := by decide +kernel
theorem dL_gaps_108 : decode cL_gaps 108 = .ok (.iconst 1, 1) := by decide +kernel
theorem dL_gaps_109 : decode cL_gaps 109 = .ok (.invokevirtual 206, 3) := by decide +kernel
theorem dL_gaps_112 : decode cL_gaps 112 = .ok (.istore 10, 2) := by decide +kernel
theorem dL_gaps_114 : decode cL_gaps 114 = .ok (.aload_n 0, 1) := by decide +kernel
theorem dL_gaps_115 : decode cL_gaps 115 = .ok (.iload 4, 2) := by decide +kernel
theorem dL_gaps_117 : decode cL_gaps 117 = .ok (.iload 5, 2) := by decide +kernel
theorem dL_gaps_119 : decode cL_gaps 119 = .ok (.iload 6, 2) := by decide +kernel
theorem dL_gaps_121 : decode cL_gaps 121 = .ok (.iload 7, 2) := by decide +kernel
theorem dL_gaps_123 : decode cL_gaps 123 = .ok (.iconst 0, 1) := by decide +kernel
theorem dL_gaps_124 : decode cL_gaps 124 = .ok (.invokevirtual 209, 3) := by decide +kernel
theorem dL_gaps_127 : decode cL_gaps 127 = .ok (.istore 11, 2) := by decide +kernel
theorem dL_gaps_129 : decode cL_gaps 129 = .ok (.aload_n 0, 1) := by decide +kernel
theorem dL_gaps_130 : decode cL_gaps 130 = .ok (.iload 4, 2) := by decide +kernel
theorem dL_gaps_132 : decode cL_gaps 132 = .ok (.iload 5, 2) := by decide +kernel
theorem dL_gaps_134 : decode cL_gaps 134 = .ok (.iload 6, 2) := by decide +kernel
theorem dL_gaps_136 : decode cL_gaps 136 = .ok (.iload 7, 2) := by decide +kernel
theorem dL_gaps_138 : decode cL_gaps 138 = .ok (.iconst 1, 1) := by decide +kernel
theorem dL_gaps_139 : decode cL_gaps 139 = .ok (.invokevirtual 209, 3) := by decide +kernel
theorem dL_gaps_142 : decode cL_gaps 142 = .ok (.istore 12, 2) := by decide +kernel
theorem dL_gaps_144 : decode cL_gaps 144 = .ok (.aload_n 0, 1) := by decide +kernel
theorem dL_gaps_145 : decode cL_gaps 145 = .ok (.iload 4, 2) := by decide +kernel
theorem dL_gaps_147 : decode cL_gaps 147 = .ok (.iload 5, 2) := by decide +kernel
theorem dL_gaps_149 : decode cL_gaps 149 = .ok (.iload 6, 2) := by decide +kernel
theorem dL_gaps_151 : decode cL_gaps 151 = .ok (.iload 7, 2) := by decide +kernel
theorem dL_gaps_153 : decode cL_gaps 153 = .ok (.iconst 2, 1) := by decide +kernel
theorem dL_gaps_154 : decode cL_gaps 154 = .ok (.invokevirtual 209, 3) := by decide +kernel
theorem dL_gaps_157 : decode cL_gaps 157 = .ok (.istore 13, 2) := by decide +kernel
theorem dL_gaps_159 : decode cL_gaps 159 = .ok (.aload_n 0, 1) := by decide +kernel
theorem dL_gaps_160 : decode cL_gaps 160 = .ok (.iload 4, 2) := by decide +kernel
theorem dL_gaps_162 : decode cL_gaps 162 = .ok (.iload 5, 2) := by decide +kernel
theorem dL_gaps_164 : decode cL_gaps 164 = .ok (.iload 6, 2) := by decide +kernel
theorem dL_gaps_166 : decode cL_gaps 166 = .ok (.iload 7, 2) := by decide +kernel
theorem dL_gaps_168 : decode cL_gaps 168 = .ok (.invokevirtual 212, 3) := by decide +kernel
theorem dL_gaps_171 : decode cL_gaps 171 = .ok (.istore 14, 2) := by decide +kernel
theorem dL_gaps_173 : decode cL_gaps 173 = .ok (.aload_n 0, 1) := by decide +kernel
theorem dL_gaps_174 : decode cL_gaps 174 = .ok (.iload 4, 2) := by decide +kernel
theorem dL_gaps_176 : decode cL_gaps 176 = .ok (.iload 5, 2) := by decide +kernel
theorem dL_gaps_178 : decode cL_gaps 178 = .ok (.iload 6, 2) := by decide +kernel
theorem dL_gaps_180 : decode cL_gaps 180 = .ok (.invokevirtual 215, 3) := by decide +kernel
theorem dL_gaps_183 : decode cL_gaps 183 = .ok (.istore 15, 2) := by decide +kernel
theorem dL_gaps_185 : decode cL_gaps 185 = .ok (.aload_n 0, 1) := by decide +kernel
theorem dL_gaps_186 : decode cL_gaps 186 = .ok (.aload_n 2, 1) := by decide +kernel
theorem dL_gaps_187 : decode cL_gaps 187 = .ok (.iload 8, 2) := by decide +kernel
theorem dL_gaps_189 : decode cL_gaps 189 = .ok (.aload_n 3, 1) := by decide +kernel
theorem dL_gaps_190 : decode cL_gaps 190 = .ok (.invokestatic 218, 3) := by decide +kernel
theorem dL_gaps_193 : decode cL_gaps 193 = .ok (.ifCond .eq 78, 3) := by decide +kernel
theorem dL_gaps_196 : decode cL_gaps 196 = .ok (.iload 9, 2) := by decide +kernel
theorem dL_gaps_198 : decode cL_gaps 198 = .ok (.ifCond .ne 7, 3) := by decide +kernel
theorem dL_gaps_201 : decode cL_gaps 201 = .ok (.iconst 1, 1) := by decide +kernel
theorem dL_gaps_202 : decode cL_gaps 202 = .ok (.goto 4, 3) := by decide +kernel
theorem dL_gaps_205 : decode cL_gaps 205 = .ok (.iconst 0, 1) := by decide +kernel
theorem dL_gaps_206 : decode cL_gaps 206 = .ok (.iload 10, 2) := by decide +kernel
theorem dL_gaps_208 : decode cL_gaps 208 = .ok (.bipush (-2), 2) := by decide +kernel
theorem dL_gaps_210 : decode cL_gaps 210 = .ok (.if_icmp .ne 7, 3) := by decide +kernel
theorem dL_gaps_213 : decode cL_gaps 213 = .ok (.iconst 1, 1) := by decide +kernel
theorem dL_gaps_214 : decode cL_gaps 214 = .ok (.goto 4, 3) := by decide +kernel
theorem dL_gaps_217 : decode cL_gaps 217 = .ok (.iconst 0, 1) := by decide +kernel
theorem dL_gaps_218 : decode cL_gaps 218 = .ok (.if_icmp .ne 53, 3) := by decide +kernel
theorem dL_gaps_221 : decode cL_gaps 221 = .ok (.iload 9, 2) := by decide +kernel
theorem dL_gaps_223 : decode cL_gaps 223 = .ok (.ifCond .ne 18, 3) := by decide +kernel
theorem dL_gaps_226 : decode cL_gaps 226 = .ok (.iload 11, 2) := by decide +kernel
theorem dL_gaps_228 : decode cL_gaps 228 = .ok (.ifCond .lt 43, 3) := by decide +kernel
theorem dL_gaps_231 : decode cL_gaps 231 = .ok (.iload 11, 2) := by decide +kernel
theorem dL_gaps_233 : decode cL_gaps 233 = .ok (.iload 12, 2) := by decide +kernel
theorem dL_gaps_235 : decode cL_gaps 235 = .ok (.if_icmp .lt 36, 3) := by decide +kernel
theorem dL_gaps_238 : decode cL_gaps 238 = .ok (.goto 29, 3) := by decide +kernel
theorem dL_gaps_241 : decode cL_gaps 241 = .ok (.iload 11, 2) := by decide +kernel
theorem dL_gaps_243 : decode cL_gaps 243 = .ok (.bipush (-5), 2) := by decide +kernel
theorem dL_gaps_245 : decode cL_gaps 245 = .ok (.if_icmp .ne 26, 3) := by decide +kernel
theorem dL_gaps_248 : decode cL_gaps 248 = .ok (.iload 13, 2) := by decide +kernel
theorem dL_gaps_250 : decode cL_gaps 250 = .ok (.bipush (-5), 2) := by decide +kernel
theorem dL_gaps_252 : decode cL_gaps 252 = .ok (.if_icmp .ne 19, 3) := by decide +kernel
theorem dL_gaps_255 : decode cL_gaps 255 = .ok (.iload 12, 2) := by decide +kernel
theorem dL_gaps_257 : decode cL_gaps 257 = .ok (.bipush (-5), 2) := by decide +kernel
theorem dL_gaps_259 : decode cL_gaps 259 = .ok (.if_icmp .ne 12, 3) := by decide +kernel
theorem dL_gaps_262 : decode cL_gaps 262 = .ok (.iload 10, 2) := by decide +kernel
theorem dL_gaps_264 : decode cL_gaps 264 = .ok (.ifCond .le 7, 3) := by decide +kernel
theorem dL_gaps_267 : decode cL_gaps 267 = .ok (.iconst 1, 1) := by decide +kernel
theorem dL_gaps_268 : decode cL_gaps 268 = .ok (.goto 4, 3) := by decide +kernel
theorem dL_gaps_271 : decode cL_gaps 271 = .ok (.iconst 0, 1) := by decide +kernel
theorem dL_gaps_272 : decode cL_gaps 272 = .ok (.istore 16, 2) := by decide +kernel
theorem dL_gaps_274 : decode cL_gaps 274 = .ok (.iload 9, 2) := by decide +kernel
theorem dL_gaps_276 : decode cL_gaps 276 = .ok (.ifCond .le 240, 3) := by decide +kernel
theorem dL_gaps_279 : decode cL_gaps 279 = .ok (.iload 16, 2) := by decide +kernel
theorem dL_gaps_281 : decode cL_gaps 281 = .ok (.ifCond .eq 235, 3) := by decide +kernel
theorem dL_gaps_284 : decode cL_gaps 284 = .ok (.iload 6, 2) := by decide +kernel
theorem dL_gaps_286 : decode cL_gaps 286 = .ok (.ifCond .ne 8, 3) := by decide +kernel
theorem dL_gaps_289 : decode cL_gaps 289 = .ok (.iload 5, 2) := by decide +kernel
theorem dL_gaps_291 : decode cL_gaps 291 = .ok (.goto 5, 3) := by decide +kernel
theorem dL_gaps_294 : decode cL_gaps 294 = .ok (.iload 4, 2) := by decide +kernel
theorem dL_gaps_296 : decode cL_gaps 296 = .ok (.istore 17, 2) := by decide +kernel
theorem dL_gaps_298 : decode cL_gaps 298 = .ok (.iload 6, 2) := by decide +kernel
theorem dL_gaps_300 : decode cL_gaps 300 = .ok (.ifCond .ne 8, 3) := by decide +kernel
theorem dL_gaps_303 : decode cL_gaps 303 = .ok (.iload 4, 2) := by decide +kernel
theorem dL_gaps_305 : decode cL_gaps 305 = .ok (.goto 5, 3) := by decide +kernel
theorem dL_gaps_308 : decode cL_gaps 308 = .ok (.iload 5, 2) := by decide +kernel
theorem dL_gaps_310 : decode cL_gaps 310 = .ok (.istore 18, 2) := by decide +kernel
theorem dL_gaps_312 : decode cL_gaps 312 = .ok (.iload 6, 2) := by decide +kernel
theorem dL_gaps_314 : decode cL_gaps 314 = .ok (.ifCond .ne 8, 3) := by decide +kernel
theorem dL_gaps_317 : decode cL_gaps 317 = .ok (.iload 7, 2) := by decide +kernel
theorem dL_gaps_319 : decode cL_gaps 319 = .ok (.goto 6, 3) := by decide +kernel
theorem dL_gaps_322 : decode cL_gaps 322 = .ok (.iload 7, 2) := by decide +kernel
theorem dL_gaps_324 : decode cL_gaps 324 = .ok (.ineg, 1) := by decide +kernel
theorem dL_gaps_325 : decode cL_gaps 325 = .ok (.istore 19, 2) := by decide +kernel
theorem dL_gaps_327 : decode cL_gaps 327 = .ok (.iconst 0, 1) := by decide +kernel
theorem dL_gaps_328 : decode cL_gaps 328 = .ok (.istore 20, 2) := by decide +kernel
theorem dL_gaps_330 : decode cL_gaps 330 = .ok (.aload_n 0, 1) := by decide +kernel
theorem dL_gaps_331 : decode cL_gaps 331 = .ok (.iload 4, 2) := by decide +kernel
theorem dL_gaps_333 : decode cL_gaps 333 = .ok (.iload 5, 2) := by decide +kernel
theorem dL_gaps_335 : decode cL_gaps 335 = .ok (.iload 6, 2) := by decide +kernel
theorem dL_gaps_337 : decode cL_gaps 337 = .ok (.iload 7, 2) := by decide +kernel
theorem dL_gaps_339 : decode cL_gaps 339 = .ok (.iload 20, 2) := by decide +kernel
theorem dL_gaps_341 : decode cL_gaps 341 = .ok (.invokevirtual 222, 3) := by decide +kernel
theorem dL_gaps_344 : decode cL_gaps 344 = .ok (.ifCond .lt 32, 3) := by decide +kernel
theorem dL_gaps_347 : decode cL_gaps 347 = .ok (.iload 19, 2) := by decide +kernel
theorem dL_gaps_349 : decode cL_gaps 349 = .ok (.aload_n 0, 1) := by decide +kernel
theorem dL_gaps_350 : decode cL_gaps 350 = .ok (.aload_n 0, 1) := by decide +kernel
theorem dL_gaps_351 : decode cL_gaps 351 = .ok (.iload 4, 2) := by decide +kernel
theorem dL_gaps_353 : decode cL_gaps 353 = .ok (.iload 5, 2) := by decide +kernel
theorem dL_gaps_355 : decode cL_gaps 355 = .ok (.iload 6, 2) := by decide +kernel
theorem dL_gaps_357 : decode cL_gaps 357 = .ok (.iload 7, 2) := by decide +kernel
theorem dL_gaps_359 : decode cL_gaps 359 = .ok (.iload 20, 2) := by decide +kernel
theorem dL_gaps_361 : decode cL_gaps 361 = .ok (.invokevirtual 222, 3) := by decide +kernel
theorem dL_gaps_364 : decode cL_gaps 364 = .ok (.invokestatic 188, 3) := by decide +kernel
theorem dL_gaps_367 : decode cL_gaps 367 = .ok (.iadd, 1) := by decide +kernel
theorem dL_gaps_368 : decode cL_gaps 368 = .ok (.istore 19, 2) := by decide +kernel
theorem dL_gaps_370 : decode cL_gaps 370 = .ok (.iinc 20 1, 3) := by decide +kernel
theorem dL_gaps_373 : decode cL_gaps 373 = .ok (.goto (-43), 3) := by decide +kernel
theorem dL_gaps_376 : decode cL_gaps 376 = .ok (.iload 19, 2) := by decide +kernel
theorem dL_gaps_378 : decode cL_gaps 378 = .ok (.iload 10, 2) := by decide +kernel
theorem dL_gaps_380 : decode cL_gaps 380 = .ok (.ineg, 1) := by decide +kernel
theorem dL_gaps_381 : decode cL_gaps 381 = .ok (.if_icmp .ne 83, 3) := by decide +kernel
theorem dL_gaps_384 : decode cL_gaps 384 = .ok (.iload 20, 2) := by decide +kernel
theorem dL_gaps_386 : decode cL_gaps 386 = .ok (.aload_n 0, 1) := by decide +kernel
theorem dL_gaps_387 : decode cL_gaps 387 = .ok (.iload 17, 2) := by decide +kernel
theorem dL_gaps_389 : decode cL_gaps 389 = .ok (.iload 18, 2) := by decide +kernel
theorem dL_gaps_391 : decode cL_gaps 391 = .ok (.invokevirtual 181, 3) := by decide +kernel
theorem dL_gaps_394 : decode cL_gaps 394 = .ok (.if_icmp .ne 70, 3) := by decide +kernel
theorem dL_gaps_397 : decode cL_gaps 397 = .ok (.iload 9, 2) := by decide +kernel
theorem dL_gaps_399 : decode cL_gaps 399 = .ok (.iconst 1, 1) := by decide +kernel
theorem dL_gaps_400 : decode cL_gaps 400 = .ok (.if_icmp .ne 9, 3) := by decide +kernel
theorem dL_gaps_403 : decode cL_gaps 403 = .ok (.iload 20, 2) := by decide +kernel
theorem dL_gaps_405 : decode cL_gaps 405 = .ok (.iconst 1, 1) := by decide +kernel
theorem dL_gaps_406 : decode cL_gaps 406 = .ok (.if_icmp .lt 58, 3) := by decide +kernel
theorem dL_gaps_409 : decode cL_gaps 409 = .ok (.aload_n 0, 1) := by decide +kernel
theorem dL_gaps_410 : decode cL_gaps 410 = .ok (.iload 4, 2) := by decide +kernel
theorem dL_gaps_412 : decode cL_gaps 412 = .ok (.iload 5, 2) := by decide +kernel
theorem dL_gaps_414 : decode cL_gaps 414 = .ok (.iload 6, 2) := by decide +kernel
theorem dL_gaps_416 : decode cL_gaps 416 = .ok (.iload 7, 2) := by decide +kernel
theorem dL_gaps_418 : decode cL_gaps 418 = .ok (.iconst 0, 1) := by decide +kernel
theorem dL_gaps_419 : decode cL_gaps 419 = .ok (.invokevirtual 222, 3) := by decide +kernel
theorem dL_gaps_422 : decode cL_gaps 422 = .ok (.aload_n 0, 1) := by decide +kernel
theorem dL_gaps_423 : decode cL_gaps 423 = .ok (.iload 4, 2) := by decide +kernel
theorem dL_gaps_425 : decode cL_gaps 425 = .ok (.iload 5, 2) := by decide +kernel
theorem dL_gaps_427 : decode cL_gaps 427 = .ok (.iload 6, 2) := by decide +kernel
theorem dL_gaps_429 : decode cL_gaps 429 = .ok (.iload 7, 2) := by decide +kernel
theorem dL_gaps_431 : decode cL_gaps 431 = .ok (.iconst 2, 1) := by decide +kernel
theorem dL_gaps_432 : decode cL_gaps 432 = .ok (.invokevirtual 206, 3) := by decide +kernel
theorem dL_gaps_435 : decode cL_gaps 435 = .ok (.if_icmp .ne 29, 3) := by decide +kernel
theorem dL_gaps_438 : decode cL_gaps 438 = .ok (.iload 6, 2) := by decide +kernel
theorem dL_gaps_440 : decode cL_gaps 440 = .ok (.ifCond .ne 13, 3) := by decide +kernel
theorem dL_gaps_443 : decode cL_gaps 443 = .ok (.iload 15, 2) := by decide +kernel
theorem dL_gaps_445 : decode cL_gaps 445 = .ok (.iload 7, 2) := by decide +kernel
theorem dL_gaps_447 : decode cL_gaps 447 = .ok (.if_icmp .le 17, 3) := by decide +kernel
theorem dL_gaps_450 : decode cL_gaps 450 = .ok (.goto 10, 3) := by decide +kernel
theorem dL_gaps_453 : decode cL_gaps 453 = .ok (.iload 15, 2) := by decide +kernel
theorem dL_gaps_455 : decode cL_gaps 455 = .ok (.iload 7, 2) := by decide +kernel
theorem dL_gaps_457 : decode cL_gaps 457 = .ok (.if_icmp .ge 7, 3) := by decide +kernel
theorem dL_gaps_460 : decode cL_gaps 460 = .ok (.iconst 1, 1) := by decide +kernel
theorem dL_gaps_461 : decode cL_gaps 461 = .ok (.goto 4, 3) := by decide +kernel
theorem dL_gaps_464 : decode cL_gaps 464 = .ok (.iconst 0, 1) := by decide +kernel
theorem dL_gaps_465 : decode cL_gaps 465 = .ok (.istore 16, 2) := by decide +kernel
theorem dL_gaps_467 : decode cL_gaps 467 = .ok (.iload 14, 2) := by decide +kernel
theorem dL_gaps_469 : decode cL_gaps 469 = .ok (.ifCond .lt 47, 3) := by decide +kernel
theorem dL_gaps_472 : decode cL_gaps 472 = .ok (.iload 16, 2) := by decide +kernel
theorem dL_gaps_474 : decode cL_gaps 474 = .ok (.ifCond .eq 42, 3) := by decide +kernel
theorem dL_gaps_477 : decode cL_gaps 477 = .ok (.aload_n 0, 1) := by decide +kernel
theorem dL_gaps_478 : decode cL_gaps 478 = .ok (.iload 14, 2) := by decide +kernel
theorem dL_gaps_480 : decode cL_gaps 480 = .ok (.invokevirtual 116, 3) := by decide +kernel
theorem dL_gaps_483 : decode cL_gaps 483 = .ok (.ifCond .ne 30, 3) := by decide +kernel
theorem dL_gaps_486 : decode cL_gaps 486 = .ok (.aload_n 0, 1) := by decide +kernel
theorem dL_gaps_487 : decode cL_gaps 487 = .ok (.iload 4, 2) := by decide +kernel
theorem dL_gaps_489 : decode cL_gaps 489 = .ok (.iload 5, 2) := by decide +kernel
theorem dL_gaps_491 : decode cL_gaps 491 = .ok (.iload 6, 2) := by decide +kernel
theorem dL_gaps_493 : decode cL_gaps 493 = .ok (.iload 7, 2) := by decide +kernel
theorem dL_gaps_495 : decode cL_gaps 495 = .ok (.iconst 0, 1) := by decide +kernel
theorem dL_gaps_496 : decode cL_gaps 496 = .ok (.invokevirtual 206, 3) := by decide +kernel
theorem dL_gaps_499 : decode cL_gaps 499 = .ok (.ifCond .ne 14, 3) := by decide +kernel
theorem dL_gaps_502 : decode cL_gaps 502 = .ok (.aload_n 0, 1) := by decide +kernel
theorem dL_gaps_503 : decode cL_gaps 503 = .ok (.invokevirtual 225, 3) := by decide +kernel
theorem dL_gaps_506 : decode cL_gaps 506 = .ok (.ifCond .lt 7, 3) := by decide +kernel
theorem dL_gaps_509 : decode cL_gaps 509 = .ok (.iconst 1, 1) := by decide +kernel
theorem dL_gaps_510 : decode cL_gaps 510 = .ok (.goto 4, 3) := by decide +kernel
theorem dL_gaps_513 : decode cL_gaps 513 = .ok (.iconst 0, 1) := by decide +kernel
theorem dL_gaps_514 : decode cL_gaps 514 = .ok (.istore 16, 2) := by decide +kernel
theorem dL_gaps_516 : decode cL_gaps 516 = .ok (.aload_n 0, 1) := by decide +kernel
theorem dL_gaps_517 : decode cL_gaps 517 = .ok (.iload 4, 2) := by decide +kernel
theorem dL_gaps_519 : decode cL_gaps 519 = .ok (.iload 5, 2) := by decide +kernel
theorem dL_gaps_521 : decode cL_gaps 521 = .ok (.iload 6, 2) := by decide +kernel
theorem dL_gaps_523 : decode cL_gaps 523 = .ok (.iload 7, 2) := by decide +kernel
theorem dL_gaps_525 : decode cL_gaps 525 = .ok (.invokevirtual 106, 3) := by decide +kernel
theorem dL_gaps_528 : decode cL_gaps 528 = .ok (.istore 17, 2) := by decide +kernel
theorem dL_gaps_530 : decode cL_gaps 530 = .ok (.iload 16, 2) := by decide +kernel
theorem dL_gaps_532 : decode cL_gaps 532 = .ok (.ifCond .eq 95, 3) := by decide +kernel
theorem dL_gaps_535 : decode cL_gaps 535 = .ok (.iload 17, 2) := by decide +kernel
theorem dL_gaps_537 : decode cL_gaps 537 = .ok (.bipush (-5), 2) := by decide +kernel
theorem dL_gaps_539 : decode cL_gaps 539 = .ok (.if_icmp .ne 7, 3) := by decide +kernel
theorem dL_gaps_542 : decode cL_gaps 542 = .ok (.iconst 1, 1) := by decide +kernel
theorem dL_gaps_543 : decode cL_gaps 543 = .ok (.goto 4, 3) := by decide +kernel
theorem dL_gaps_546 : decode cL_gaps 546 = .ok (.iconst 0, 1) := by decide +kernel
theorem dL_gaps_547 : decode cL_gaps 547 = .ok (.iload 9, 2) := by decide +kernel
theorem dL_gaps_549 : decode cL_gaps 549 = .ok (.ifCond .le 7, 3) := by decide +kernel
theorem dL_gaps_552 : decode cL_gaps 552 = .ok (.iconst 1, 1) := by decide +kernel
theorem dL_gaps_553 : decode cL_gaps 553 = .ok (.goto 4, 3) := by decide +kernel
theorem dL_gaps_556 : decode cL_gaps 556 = .ok (.iconst 0, 1) := by decide +kernel
theorem dL_gaps_557 : decode cL_gaps 557 = .ok (.if_icmp .ne 70, 3) := by decide +kernel
theorem dL_gaps_560 : decode cL_gaps 560 = .ok (.iload 17, 2) := by decide +kernel
theorem dL_gaps_562 : decode cL_gaps 562 = .ok (.bipush (-5), 2) := by decide +kernel
theorem dL_gaps_564 : decode cL_gaps 564 = .ok (.if_icmp .eq 41, 3) := by decide +kernel
theorem dL_gaps_567 : decode cL_gaps 567 = .ok (.aload_n 0, 1) := by decide +kernel
theorem dL_gaps_568 : decode cL_gaps 568 = .ok (.bipush 10, 2) := by decide +kernel
theorem dL_gaps_570 : decode cL_gaps 570 = .ok (.invokevirtual 103, 3) := by decide +kernel
theorem dL_gaps_573 : decode cL_gaps 573 = .ok (.iload 13, 2) := by decide +kernel
theorem dL_gaps_575 : decode cL_gaps 575 = .ok (.if_icmp .ne 52, 3) := by decide +kernel
theorem dL_gaps_578 : decode cL_gaps 578 = .ok (.aload_n 0, 1) := by decide +kernel
theorem dL_gaps_579 : decode cL_gaps 579 = .ok (.iload 17, 2) := by decide +kernel
theorem dL_gaps_581 : decode cL_gaps 581 = .ok (.invokevirtual 228, 3) := by decide +kernel
theorem dL_gaps_584 : decode cL_gaps 584 = .ok (.iload 6, 2) := by decide +kernel
theorem dL_gaps_586 : decode cL_gaps 586 = .ok (.ifCond .ne 11, 3) := by decide +kernel
theorem dL_gaps_589 : decode cL_gaps 589 = .ok (.iload 7, 2) := by decide +kernel
theorem dL_gaps_591 : decode cL_gaps 591 = .ok (.iload 15, 2) := by decide +kernel
theorem dL_gaps_593 : decode cL_gaps 593 = .ok (.isub, 1) := by decide +kernel
theorem dL_gaps_594 : decode cL_gaps 594 = .ok (.goto 8, 3) := by decide +kernel
theorem dL_gaps_597 : decode cL_gaps 597 = .ok (.iload 15, 2) := by decide +kernel
theorem dL_gaps_599 : decode cL_gaps 599 = .ok (.iload 7, 2) := by decide +kernel
theorem dL_gaps_601 : decode cL_gaps 601 = .ok (.isub, 1) := by decide +kernel
theorem dL_gaps_602 : decode cL_gaps 602 = .ok (.if_icmp .ne 25, 3) := by decide +kernel
theorem dL_gaps_605 : decode cL_gaps 605 = .ok (.aload_n 0, 1) := by decide +kernel
theorem dL_gaps_606 : decode cL_gaps 606 = .ok (.invokevirtual 225, 3) := by decide +kernel
theorem dL_gaps_609 : decode cL_gaps 609 = .ok (.ifCond .lt 18, 3) := by decide +kernel
theorem dL_gaps_612 : decode cL_gaps 612 = .ok (.aload_n 0, 1) := by decide +kernel
theorem dL_gaps_613 : decode cL_gaps 613 = .ok (.aload_n 2, 1) := by decide +kernel
theorem dL_gaps_614 : decode cL_gaps 614 = .ok (.iload 8, 2) := by decide +kernel
theorem dL_gaps_616 : decode cL_gaps 616 = .ok (.aload_n 3, 1) := by decide +kernel
theorem dL_gaps_617 : decode cL_gaps 617 = .ok (.invokestatic 218, 3) := by decide +kernel
theorem dL_gaps_620 : decode cL_gaps 620 = .ok (.ifCond .eq 7, 3) := by decide +kernel
theorem dL_gaps_623 : decode cL_gaps 623 = .ok (.iconst 1, 1) := by decide +kernel
theorem dL_gaps_624 : decode cL_gaps 624 = .ok (.goto 4, 3) := by decide +kernel
theorem dL_gaps_627 : decode cL_gaps 627 = .ok (.iconst 0, 1) := by decide +kernel
theorem dL_gaps_628 : decode cL_gaps 628 = .ok (.istore 16, 2) := by decide +kernel
theorem dL_gaps_630 : decode cL_gaps 630 = .ok (.iload 15, 2) := by decide +kernel
theorem dL_gaps_632 : decode cL_gaps 632 = .ok (.ifCond .lt 104, 3) := by decide +kernel
theorem dL_gaps_635 : decode cL_gaps 635 = .ok (.iload 16, 2) := by decide +kernel
theorem dL_gaps_637 : decode cL_gaps 637 = .ok (.ifCond .eq 99, 3) := by decide +kernel
theorem dL_gaps_640 : decode cL_gaps 640 = .ok (.aload_n 0, 1) := by decide +kernel
theorem dL_gaps_641 : decode cL_gaps 641 = .ok (.iload 4, 2) := by decide +kernel
theorem dL_gaps_643 : decode cL_gaps 643 = .ok (.iload 5, 2) := by decide +kernel
theorem dL_gaps_645 : decode cL_gaps 645 = .ok (.iload 6, 2) := by decide +kernel
theorem dL_gaps_647 : decode cL_gaps 647 = .ok (.iload 15, 2) := by decide +kernel
theorem dL_gaps_649 : decode cL_gaps 649 = .ok (.invokevirtual 106, 3) := by decide +kernel
theorem dL_gaps_652 : decode cL_gaps 652 = .ok (.ifCond .lt 14, 3) := by decide +kernel
theorem dL_gaps_655 : decode cL_gaps 655 = .ok (.aload_n 0, 1) := by decide +kernel
theorem dL_gaps_656 : decode cL_gaps 656 = .ok (.invokevirtual 225, 3) := by decide +kernel
theorem dL_gaps_659 : decode cL_gaps 659 = .ok (.ifCond .lt 7, 3) := by decide +kernel
theorem dL_gaps_662 : decode cL_gaps 662 = .ok (.iconst 1, 1) := by decide +kernel
theorem dL_gaps_663 : decode cL_gaps 663 = .ok (.goto 4, 3) := by decide +kernel
theorem dL_gaps_666 : decode cL_gaps 666 = .ok (.iconst 0, 1) := by decide +kernel
theorem dL_gaps_667 : decode cL_gaps 667 = .ok (.istore 16, 2) := by decide +kernel
theorem dL_gaps_669 : decode cL_gaps 669 = .ok (.iload 6, 2) := by decide +kernel
theorem dL_gaps_671 : decode cL_gaps 671 = .ok (.ifCond .ne 10, 3) := by decide +kernel
theorem dL_gaps_674 : decode cL_gaps 674 = .ok (.iload 15, 2) := by decide +kernel
theorem dL_gaps_676 : decode cL_gaps 676 = .ok (.iconst 1, 1) := by decide +kernel
theorem dL_gaps_677 : decode cL_gaps 677 = .ok (.isub, 1) := by decide +kernel
theorem dL_gaps_678 : decode cL_gaps 678 = .ok (.goto 7, 3) := by decide +kernel
theorem dL_gaps_681 : decode cL_gaps 681 = .ok (.iload 15, 2) := by decide +kernel
theorem dL_gaps_683 : decode cL_gaps 683 = .ok (.iconst 1, 1) := by decide +kernel
theorem dL_gaps_684 : decode cL_gaps 684 = .ok (.iadd, 1) := by decide +kernel
theorem dL_gaps_685 : decode cL_gaps 685 = .ok (.istore 18, 2) := by decide +kernel
theorem dL_gaps_687 : decode cL_gaps 687 = .ok (.iload 16, 2) := by decide +kernel
theorem dL_gaps_689 : decode cL_gaps 689 = .ok (.ifCond .eq 44, 3) := by decide +kernel
theorem dL_gaps_692 : decode cL_gaps 692 = .ok (.iload 18, 2) := by decide +kernel
theorem dL_gaps_694 : decode cL_gaps 694 = .ok (.ifCond .lt 35, 3) := by decide +kernel
theorem dL_gaps_697 : decode cL_gaps 697 = .ok (.iload 18, 2) := by decide +kernel
theorem dL_gaps_699 : decode cL_gaps 699 = .ok (.sipush 999, 3) := by decide +kernel
theorem dL_gaps_702 : decode cL_gaps 702 = .ok (.if_icmp .gt 27, 3) := by decide +kernel
theorem dL_gaps_705 : decode cL_gaps 705 = .ok (.aload_n 0, 1) := by decide +kernel
theorem dL_gaps_706 : decode cL_gaps 706 = .ok (.iload 4, 2) := by decide +kernel
theorem dL_gaps_708 : decode cL_gaps 708 = .ok (.iload 5, 2) := by decide +kernel
theorem dL_gaps_710 : decode cL_gaps 710 = .ok (.iload 6, 2) := by decide +kernel
theorem dL_gaps_712 : decode cL_gaps 712 = .ok (.iload 18, 2) := by decide +kernel
theorem dL_gaps_714 : decode cL_gaps 714 = .ok (.invokevirtual 106, 3) := by decide +kernel
theorem dL_gaps_717 : decode cL_gaps 717 = .ok (.bipush (-5), 2) := by decide +kernel
theorem dL_gaps_719 : decode cL_gaps 719 = .ok (.if_icmp .ne 14, 3) := by decide +kernel
theorem dL_gaps_722 : decode cL_gaps 722 = .ok (.aload_n 0, 1) := by decide +kernel
theorem dL_gaps_723 : decode cL_gaps 723 = .ok (.invokevirtual 225, 3) := by decide +kernel
theorem dL_gaps_726 : decode cL_gaps 726 = .ok (.ifCond .lt 7, 3) := by decide +kernel
theorem dL_gaps_729 : decode cL_gaps 729 = .ok (.iconst 1, 1) := by decide +kernel
theorem dL_gaps_730 : decode cL_gaps 730 = .ok (.goto 4, 3) := by decide +kernel
theorem dL_gaps_733 : decode cL_gaps 733 = .ok (.iconst 0, 1) := by decide +kernel
theorem dL_gaps_734 : decode cL_gaps 734 = .ok (.istore 16, 2) := by decide +kernel
theorem dL_gaps_736 : decode cL_gaps 736 = .ok (.iload 16, 2) := by decide +kernel
theorem dL_gaps_738 : decode cL_gaps 738 = .ok (.ifCond .eq 18, 3) := by decide +kernel
theorem dL_gaps_741 : decode cL_gaps 741 = .ok (.aload_n 0, 1) := by decide +kernel
theorem dL_gaps_742 : decode cL_gaps 742 = .ok (.aload_n 2, 1) := by decide +kernel
theorem dL_gaps_743 : decode cL_gaps 743 = .ok (.iload 8, 2) := by decide +kernel
theorem dL_gaps_745 : decode cL_gaps 745 = .ok (.aload_n 3, 1) := by decide +kernel
theorem dL_gaps_746 : decode cL_gaps 746 = .ok (.invokestatic 218, 3) := by decide +kernel
theorem dL_gaps_749 : decode cL_gaps 749 = .ok (.ifCond .eq 7, 3) := by decide +kernel
theorem dL_gaps_752 : decode cL_gaps 752 = .ok (.iconst 1, 1) := by decide +kernel
theorem dL_gaps_753 : decode cL_gaps 753 = .ok (.goto 4, 3) := by decide +kernel
theorem dL_gaps_756 : decode cL_gaps 756 = .ok (.iconst 0, 1) := by decide +kernel
theorem dL_gaps_757 : decode cL_gaps 757 = .ok (.ireturn, 1) := by decide +kernel
theorem dL_foretold_0 : decode cL_foretold 0 = .ok (.aload_n 0, 1) := by decide +kernel
theorem dL_foretold_1 : decode cL_foretold 1 = .ok (.aload_n 2, 1) := by decide +kernel
theorem dL_foretold_2 : decode cL_foretold 2 = .ok (.invokestatic 160, 3) := by decide +kernel
theorem dL_foretold_5 : decode cL_foretold 5 = .ok (.istore 4, 2) := by decide +kernel
theorem dL_foretold_7 : decode cL_foretold 7 = .ok (.aload_n 0, 1) := by decide +kernel
theorem dL_foretold_8 : decode cL_foretold 8 = .ok (.aload_n 1, 1) := by decide +kernel
theorem dL_foretold_9 : decode cL_foretold 9 = .ok (.aload_n 2, 1) := by decide +kernel
theorem dL_foretold_10 : decode cL_foretold 10 = .ok (.aload_n 3, 1) := by decide +kernel
theorem dL_foretold_11 : decode cL_foretold 11 = .ok (.invokestatic 231, 3) := by decide +kernel
theorem dL_foretold_14 : decode cL_foretold 14 = .ok (.ifCond .eq 15, 3) := by decide +kernel
theorem dL_foretold_17 : decode cL_foretold 17 = .ok (.aload_n 0, 1) := by decide +kernel
theorem dL_foretold_18 : decode cL_foretold 18 = .ok (.iconst 2, 1) := by decide +kernel
theorem dL_foretold_19 : decode cL_foretold 19 = .ok (.invokestatic 174, 3) := by decide +kernel
theorem dL_foretold_22 : decode cL_foretold 22 = .ok (.ifCond .eq 7, 3) := by decide +kernel
theorem dL_foretold_25 : decode cL_foretold 25 = .ok (.iconst 1, 1) := by decide +kernel
theorem dL_foretold_26 : decode cL_foretold 26 = .ok (.goto 4, 3) := by decide +kernel
theorem dL_foretold_29 : decode cL_foretold 29 = .ok (.iconst 0, 1) := by decide +kernel
theorem dL_foretold_30 : decode cL_foretold 30 = .ok (.istore 5, 2) := by decide +kernel
theorem dL_foretold_32 : decode cL_foretold 32 = .ok (.aload_n 0, 1) := by decide +kernel
theorem dL_foretold_33 : decode cL_foretold 33 = .ok (.invokevirtual 235, 3) := by decide +kernel
theorem dL_foretold_36 : decode cL_foretold 36 = .ok (.istore 6, 2) := by decide +kernel
theorem dL_foretold_38 : decode cL_foretold 38 = .ok (.aload_n 0, 1) := by decide +kernel
theorem dL_foretold_39 : decode cL_foretold 39 = .ok (.iload 6, 2) := by decide +kernel
theorem dL_foretold_41 : decode cL_foretold 41 = .ok (.invokevirtual 125, 3) := by decide +kernel
theorem dL_foretold_44 : decode cL_foretold 44 = .ok (.istore 7, 2) := by decide +kernel
theorem dL_foretold_46 : decode cL_foretold 46 = .ok (.iload 5, 2) := by decide +kernel
theorem dL_foretold_48 : decode cL_foretold 48 = .ok (.ifCond .eq 61, 3) := by decide +kernel
theorem dL_foretold_51 : decode cL_foretold 51 = .ok (.iload 7, 2) := by decide +kernel
theorem dL_foretold_53 : decode cL_foretold 53 = .ok (.bipush (-2), 2) := by decide +kernel
theorem dL_foretold_55 : decode cL_foretold 55 = .ok (.if_icmp .eq 8, 3) := by decide +kernel
theorem dL_foretold_58 : decode cL_foretold 58 = .ok (.iload 7, 2) := by decide +kernel
theorem dL_foretold_60 : decode cL_foretold 60 = .ok (.ifCond .lt 49, 3) := by decide +kernel
theorem dL_foretold_63 : decode cL_foretold 63 = .ok (.iload 6, 2) := by decide +kernel
theorem dL_foretold_65 : decode cL_foretold 65 = .ok (.iconst 1, 1) := by decide +kernel
theorem dL_foretold_66 : decode cL_foretold 66 = .ok (.if_icmp .eq 16, 3) := by decide +kernel
theorem dL_foretold_69 : decode cL_foretold 69 = .ok (.aload_n 0, 1) := by decide +kernel
theorem dL_foretold_70 : decode cL_foretold 70 = .ok (.iload 6, 2) := by decide +kernel
theorem dL_foretold_72 : decode cL_foretold 72 = .ok (.iconst 1, 1) := by decide +kernel
theorem dL_foretold_73 : decode cL_foretold 73 = .ok (.isub, 1) := by decide +kernel
theorem dL_foretold_74 : decode cL_foretold 74 = .ok (.invokevirtual 125, 3) := by decide +kernel
theorem dL_foretold_77 : decode cL_foretold 77 = .ok (.bipush (-5), 2) := by decide +kernel
theorem dL_foretold_79 : decode cL_foretold 79 = .ok (.if_icmp .ne 30, 3) := by decide +kernel
theorem dL_foretold_82 : decode cL_foretold 82 = .ok (.iload 7, 2) := by decide +kernel
theorem dL_foretold_84 : decode cL_foretold 84 = .ok (.ifCond .lt 10, 3) := by decide +kernel
theorem dL_foretold_87 : decode cL_foretold 87 = .ok (.aload_n 0, 1) := by decide +kernel
theorem dL_foretold_88 : decode cL_foretold 88 = .ok (.invokevirtual 225, 3) := by decide +kernel
theorem dL_foretold_91 : decode cL_foretold 91 = .ok (.ifCond .lt 18, 3) := by decide +kernel
theorem dL_foretold_94 : decode cL_foretold 94 = .ok (.aload_n 0, 1) := by decide +kernel
theorem dL_foretold_95 : decode cL_foretold 95 = .ok (.aload_n 2, 1) := by decide +kernel
theorem dL_foretold_96 : decode cL_foretold 96 = .ok (.iload 4, 2) := by decide +kernel
theorem dL_foretold_98 : decode cL_foretold 98 = .ok (.aload_n 3, 1) := by decide +kernel
theorem dL_foretold_99 : decode cL_foretold 99 = .ok (.invokestatic 218, 3) := by decide +kernel
theorem dL_foretold_102 : decode cL_foretold 102 = .ok (.ifCond .eq 7, 3) := by decide +kernel
theorem dL_foretold_105 : decode cL_foretold 105 = .ok (.iconst 1, 1) := by decide +kernel
theorem dL_foretold_106 : decode cL_foretold 106 = .ok (.goto 4, 3) := by decide +kernel
theorem dL_foretold_109 : decode cL_foretold 109 = .ok (.iconst 0, 1) := by decide +kernel
theorem dL_foretold_110 : decode cL_foretold 110 = .ok (.istore 5, 2) := by decide +kernel
theorem dL_foretold_112 : decode cL_foretold 112 = .ok (.aload_n 1, 1) := by decide +kernel
theorem dL_foretold_113 : decode cL_foretold 113 = .ok (.invokestatic 62, 3) := by decide +kernel
theorem dL_foretold_116 : decode cL_foretold 116 = .ok (.aload_n 0, 1) := by decide +kernel
theorem dL_foretold_117 : decode cL_foretold 117 = .ok (.iconst 1, 1) := by decide +kernel
theorem dL_foretold_118 : decode cL_foretold 118 = .ok (.invokevirtual 103, 3) := by decide +kernel
theorem dL_foretold_121 : decode cL_foretold 121 = .ok (.irem, 1) := by decide +kernel
theorem dL_foretold_122 : decode cL_foretold 122 = .ok (.istore 8, 2) := by decide +kernel
theorem dL_foretold_124 : decode cL_foretold 124 = .ok (.aload_n 1, 1) := by decide +kernel
theorem dL_foretold_125 : decode cL_foretold 125 = .ok (.invokestatic 62, 3) := by decide +kernel
theorem dL_foretold_128 : decode cL_foretold 128 = .ok (.aload_n 0, 1) := by decide +kernel
theorem dL_foretold_129 : decode cL_foretold 129 = .ok (.iconst 0, 1) := by decide +kernel
theorem dL_foretold_130 : decode cL_foretold 130 = .ok (.invokevirtual 103, 3) := by decide +kernel
theorem dL_foretold_133 : decode cL_foretold 133 = .ok (.irem, 1) := by decide +kernel
theorem dL_foretold_134 : decode cL_foretold 134 = .ok (.istore 9, 2) := by decide +kernel
theorem dL_foretold_136 : decode cL_foretold 136 = .ok (.aload_n 0, 1) := by decide +kernel
theorem dL_foretold_137 : decode cL_foretold 137 = .ok (.iload 8, 2) := by decide +kernel
theorem dL_foretold_139 : decode cL_foretold 139 = .ok (.iload 9, 2) := by decide +kernel
theorem dL_foretold_141 : decode cL_foretold 141 = .ok (.iconst 2, 1) := by decide +kernel
theorem dL_foretold_142 : decode cL_foretold 142 = .ok (.invokevirtual 238, 3) := by decide +kernel
theorem dL_foretold_145 : decode cL_foretold 145 = .ok (.istore 10, 2) := by decide +kernel
theorem dL_foretold_147 : decode cL_foretold 147 = .ok (.aload_n 0, 1) := by decide +kernel
theorem dL_foretold_148 : decode cL_foretold 148 = .ok (.iload 8, 2) := by decide +kernel
theorem dL_foretold_150 : decode cL_foretold 150 = .ok (.iload 9, 2) := by decide +kernel
theorem dL_foretold_152 : decode cL_foretold 152 = .ok (.invokevirtual 168, 3) := by decide +kernel
theorem dL_foretold_155 : decode cL_foretold 155 = .ok (.istore 11, 2) := by decide +kernel
theorem dL_foretold_157 : decode cL_foretold 157 = .ok (.aload_n 0, 1) := by decide +kernel
theorem dL_foretold_158 : decode cL_foretold 158 = .ok (.iload 8, 2) := by decide +kernel
theorem dL_foretold_160 : decode cL_foretold 160 = .ok (.iload 9, 2) := by decide +kernel
theorem dL_foretold_162 : decode cL_foretold 162 = .ok (.invokevirtual 119, 3) := by decide +kernel
theorem dL_foretold_165 : decode cL_foretold 165 = .ok (.istore 12, 2) := by decide +kernel
theorem dL_foretold_167 : decode cL_foretold 167 = .ok (.iload 5, 2) := by decide +kernel
theorem dL_foretold_169 : decode cL_foretold 169 = .ok (.ifCond .eq 57, 3) := by decide +kernel
theorem dL_foretold_172 : decode cL_foretold 172 = .ok (.iload 12, 2) := by decide +kernel
theorem dL_foretold_174 : decode cL_foretold 174 = .ok (.ifCond .lt 30, 3) := by decide +kernel
theorem dL_foretold_177 : decode cL_foretold 177 = .ok (.iload 11, 2) := by decide +kernel
theorem dL_foretold_179 : decode cL_foretold 179 = .ok (.iconst 1, 1) := by decide +kernel
theorem dL_foretold_180 : decode cL_foretold 180 = .ok (.if_icmp .ne 46, 3) := by decide +kernel
theorem dL_foretold_183 : decode cL_foretold 183 = .ok (.aload_n 0, 1) := by decide +kernel
theorem dL_foretold_184 : decode cL_foretold 184 = .ok (.bipush 10, 2) := by decide +kernel
theorem dL_foretold_186 : decode cL_foretold 186 = .ok (.invokevirtual 103, 3) := by decide +kernel
theorem dL_foretold_189 : decode cL_foretold 189 = .ok (.iload 10, 2) := by decide +kernel
theorem dL_foretold_191 : decode cL_foretold 191 = .ok (.if_icmp .ne 35, 3) := by decide +kernel
theorem dL_foretold_194 : decode cL_foretold 194 = .ok (.aload_n 0, 1) := by decide +kernel
theorem dL_foretold_195 : decode cL_foretold 195 = .ok (.invokevirtual 225, 3) := by decide +kernel
theorem dL_foretold_198 : decode cL_foretold 198 = .ok (.ifCond .lt 28, 3) := by decide +kernel
theorem dL_foretold_201 : decode cL_foretold 201 = .ok (.goto 10, 3) := by decide +kernel
theorem dL_foretold_204 : decode cL_foretold 204 = .ok (.iload 12, 2) := by decide +kernel
theorem dL_foretold_206 : decode cL_foretold 206 = .ok (.iload 10, 2) := by decide +kernel
theorem dL_foretold_208 : decode cL_foretold 208 = .ok (.if_icmp .ne 18, 3) := by decide +kernel
theorem dL_foretold_211 : decode cL_foretold 211 = .ok (.aload_n 0, 1) := by decide +kernel
theorem dL_foretold_212 : decode cL_foretold 212 = .ok (.aload_n 2, 1) := by decide +kernel
theorem dL_foretold_213 : decode cL_foretold 213 = .ok (.iload 4, 2) := by decide +kernel
theorem dL_foretold_215 : decode cL_foretold 215 = .ok (.aload_n 3, 1) := by decide +kernel
theorem dL_foretold_216 : decode cL_foretold 216 = .ok (.invokestatic 218, 3) := by decide +kernel
theorem dL_foretold_219 : decode cL_foretold 219 = .ok (.ifCond .eq 7, 3) := by decide +kernel
theorem dL_foretold_222 : decode cL_foretold 222 = .ok (.iconst 1, 1) := by decide +kernel
theorem dL_foretold_223 : decode cL_foretold 223 = .ok (.goto 4, 3) := by decide +kernel
theorem dL_foretold_226 : decode cL_foretold 226 = .ok (.iconst 0, 1) := by decide +kernel
theorem dL_foretold_227 : decode cL_foretold 227 = .ok (.istore 5, 2) := by decide +kernel
theorem dL_foretold_229 : decode cL_foretold 229 = .ok (.aload_n 0, 1) := by decide +kernel
theorem dL_foretold_230 : decode cL_foretold 230 = .ok (.iconst 2, 1) := by decide +kernel
theorem dL_foretold_231 : decode cL_foretold 231 = .ok (.invokevirtual 103, 3) := by decide +kernel
theorem dL_foretold_234 : decode cL_foretold 234 = .ok (.ifCond .le 152, 3) := by decide +kernel
theorem dL_foretold_237 : decode cL_foretold 237 = .ok (.iload 5, 2) := by decide +kernel
theorem dL_foretold_239 : decode cL_foretold 239 = .ok (.ifCond .eq 147, 3) := by decide +kernel
theorem dL_foretold_242 : decode cL_foretold 242 = .ok (.aload_n 1, 1) := by decide +kernel
theorem dL_foretold_243 : decode cL_foretold 243 = .ok (.invokestatic 62, 3) := by decide +kernel
theorem dL_foretold_246 : decode cL_foretold 246 = .ok (.aload_n 0, 1) := by decide +kernel
theorem dL_foretold_247 : decode cL_foretold 247 = .ok (.iconst 2, 1) := by decide +kernel
theorem dL_foretold_248 : decode cL_foretold 248 = .ok (.invokevirtual 103, 3) := by decide +kernel
theorem dL_foretold_251 : decode cL_foretold 251 = .ok (.irem, 1) := by decide +kernel
theorem dL_foretold_252 : decode cL_foretold 252 = .ok (.istore 13, 2) := by decide +kernel
theorem dL_foretold_254 : decode cL_foretold 254 = .ok (.aload_n 0, 1) := by decide +kernel
theorem dL_foretold_255 : decode cL_foretold 255 = .ok (.iload 13, 2) := by decide +kernel
theorem dL_foretold_257 : decode cL_foretold 257 = .ok (.iconst 2, 1) := by decide +kernel
theorem dL_foretold_258 : decode cL_foretold 258 = .ok (.invokevirtual 241, 3) := by decide +kernel
theorem dL_foretold_261 : decode cL_foretold 261 = .ok (.istore 10, 2) := by decide +kernel
theorem dL_foretold_263 : decode cL_foretold 263 = .ok (.aload_n 0, 1) := by decide +kernel
theorem dL_foretold_264 : decode cL_foretold 264 = .ok (.iload 13, 2) := by decide +kernel
theorem dL_foretold_266 : decode cL_foretold 266 = .ok (.invokevirtual 116, 3) := by decide +kernel
theorem dL_foretold_269 : decode cL_foretold 269 = .ok (.istore 14, 2) := by decide +kernel
theorem dL_foretold_271 : decode cL_foretold 271 = .ok (.iload 14, 2) := by decide +kernel
theorem dL_foretold_273 : decode cL_foretold 273 = .ok (.ifCond .lt 29, 3) := by decide +kernel
theorem dL_foretold_276 : decode cL_foretold 276 = .ok (.aload_n 0, 1) := by decide +kernel
theorem dL_foretold_277 : decode cL_foretold 277 = .ok (.bipush 10, 2) := by decide +kernel
theorem dL_foretold_279 : decode cL_foretold 279 = .ok (.invokevirtual 103, 3) := by decide +kernel
theorem dL_foretold_282 : decode cL_foretold 282 = .ok (.iload 10, 2) := by decide +kernel
theorem dL_foretold_284 : decode cL_foretold 284 = .ok (.if_icmp .ne 14, 3) := by decide +kernel
theorem dL_foretold_287 : decode cL_foretold 287 = .ok (.aload_n 0, 1) := by decide +kernel
theorem dL_foretold_288 : decode cL_foretold 288 = .ok (.invokevirtual 225, 3) := by decide +kernel
theorem dL_foretold_291 : decode cL_foretold 291 = .ok (.ifCond .lt 7, 3) := by decide +kernel
theorem dL_foretold_294 : decode cL_foretold 294 = .ok (.iconst 1, 1) := by decide +kernel
theorem dL_foretold_295 : decode cL_foretold 295 = .ok (.goto 26, 3) := by decide +kernel
theorem dL_foretold_298 : decode cL_foretold 298 = .ok (.iconst 0, 1) := by decide +kernel
theorem dL_foretold_299 : decode cL_foretold 299 = .ok (.goto 22, 3) := by decide +kernel
theorem dL_foretold_302 : decode cL_foretold 302 = .ok (.iload 14, 2) := by decide +kernel
theorem dL_foretold_304 : decode cL_foretold 304 = .ok (.bipush (-5), 2) := by decide +kernel
theorem dL_foretold_306 : decode cL_foretold 306 = .ok (.if_icmp .ne 14, 3) := by decide +kernel
theorem dL_foretold_309 : decode cL_foretold 309 = .ok (.iload 10, 2) := by decide +kernel
theorem dL_foretold_311 : decode cL_foretold 311 = .ok (.bipush (-5), 2) := by decide +kernel
theorem dL_foretold_313 : decode cL_foretold 313 = .ok (.if_icmp .ne 7, 3) := by decide +kernel
theorem dL_foretold_316 : decode cL_foretold 316 = .ok (.iconst 1, 1) := by decide +kernel
theorem dL_foretold_317 : decode cL_foretold 317 = .ok (.goto 4, 3) := by decide +kernel
theorem dL_foretold_320 : decode cL_foretold 320 = .ok (.iconst 0, 1) := by decide +kernel
theorem dL_foretold_321 : decode cL_foretold 321 = .ok (.istore 5, 2) := by decide +kernel
theorem dL_foretold_323 : decode cL_foretold 323 = .ok (.aload_n 0, 1) := by decide +kernel
theorem dL_foretold_324 : decode cL_foretold 324 = .ok (.iload 13, 2) := by decide +kernel
theorem dL_foretold_326 : decode cL_foretold 326 = .ok (.iconst 2, 1) := by decide +kernel
theorem dL_foretold_327 : decode cL_foretold 327 = .ok (.invokevirtual 244, 3) := by decide +kernel
theorem dL_foretold_330 : decode cL_foretold 330 = .ok (.istore 10, 2) := by decide +kernel
theorem dL_foretold_332 : decode cL_foretold 332 = .ok (.aload_n 0, 1) := by decide +kernel
theorem dL_foretold_333 : decode cL_foretold 333 = .ok (.iload 13, 2) := by decide +kernel
theorem dL_foretold_335 : decode cL_foretold 335 = .ok (.invokevirtual 110, 3) := by decide +kernel
theorem dL_foretold_338 : decode cL_foretold 338 = .ok (.istore 15, 2) := by decide +kernel
theorem dL_foretold_340 : decode cL_foretold 340 = .ok (.iload 5, 2) := by decide +kernel
theorem dL_foretold_342 : decode cL_foretold 342 = .ok (.ifCond .eq 41, 3) := by decide +kernel
theorem dL_foretold_345 : decode cL_foretold 345 = .ok (.iload 15, 2) := by decide +kernel
theorem dL_foretold_347 : decode cL_foretold 347 = .ok (.ifCond .lt 36, 3) := by decide +kernel
theorem dL_foretold_350 : decode cL_foretold 350 = .ok (.aload_n 0, 1) := by decide +kernel
theorem dL_foretold_351 : decode cL_foretold 351 = .ok (.bipush 10, 2) := by decide +kernel
theorem dL_foretold_353 : decode cL_foretold 353 = .ok (.invokevirtual 103, 3) := by decide +kernel
theorem dL_foretold_356 : decode cL_foretold 356 = .ok (.iload 10, 2) := by decide +kernel
theorem dL_foretold_358 : decode cL_foretold 358 = .ok (.if_icmp .ne 25, 3) := by decide +kernel
theorem dL_foretold_361 : decode cL_foretold 361 = .ok (.aload_n 0, 1) := by decide +kernel
theorem dL_foretold_362 : decode cL_foretold 362 = .ok (.invokevirtual 225, 3) := by decide +kernel
theorem dL_foretold_365 : decode cL_foretold 365 = .ok (.ifCond .lt 18, 3) := by decide +kernel
theorem dL_foretold_368 : decode cL_foretold 368 = .ok (.aload_n 0, 1) := by decide +kernel
theorem dL_foretold_369 : decode cL_foretold 369 = .ok (.aload_n 2, 1) := by decide +kernel
theorem dL_foretold_370 : decode cL_foretold 370 = .ok (.iload 4, 2) := by decide +kernel
theorem dL_foretold_372 : decode cL_foretold 372 = .ok (.aload_n 3, 1) := by decide +kernel
theorem dL_foretold_373 : decode cL_foretold 373 = .ok (.invokestatic 218, 3) := by decide +kernel
theorem dL_foretold_376 : decode cL_foretold 376 = .ok (.ifCond .eq 7, 3) := by decide +kernel
theorem dL_foretold_379 : decode cL_foretold 379 = .ok (.iconst 1, 1) := by decide +kernel
theorem dL_foretold_380 : decode cL_foretold 380 = .ok (.goto 4, 3) := by decide +kernel
theorem dL_foretold_383 : decode cL_foretold 383 = .ok (.iconst 0, 1) := by decide +kernel
theorem dL_foretold_384 : decode cL_foretold 384 = .ok (.istore 5, 2) := by decide +kernel
theorem dL_foretold_386 : decode cL_foretold 386 = .ok (.iconst 0, 1) := by decide +kernel
theorem dL_foretold_387 : decode cL_foretold 387 = .ok (.istore 13, 2) := by decide +kernel
theorem dL_foretold_389 : decode cL_foretold 389 = .ok (.iconst 0, 1) := by decide +kernel
theorem dL_foretold_390 : decode cL_foretold 390 = .ok (.istore 14, 2) := by decide +kernel
theorem dL_foretold_392 : decode cL_foretold 392 = .ok (.iload 14, 2) := by decide +kernel
theorem dL_foretold_394 : decode cL_foretold 394 = .ok (.aload_n 0, 1) := by decide +kernel
theorem dL_foretold_395 : decode cL_foretold 395 = .ok (.iconst 1, 1) := by decide +kernel
theorem dL_foretold_396 : decode cL_foretold 396 = .ok (.invokevirtual 103, 3) := by decide +kernel
theorem dL_foretold_399 : decode cL_foretold 399 = .ok (.if_icmp .ge 44, 3) := by decide +kernel
theorem dL_foretold_402 : decode cL_foretold 402 = .ok (.iconst 0, 1) := by decide +kernel
theorem dL_foretold_403 : decode cL_foretold 403 = .ok (.istore 15, 2) := by decide +kernel
theorem dL_foretold_405 : decode cL_foretold 405 = .ok (.iload 15, 2) := by decide +kernel
theorem dL_foretold_407 : decode cL_foretold 407 = .ok (.aload_n 0, 1) := by decide +kernel
theorem dL_foretold_408 : decode cL_foretold 408 = .ok (.iconst 1, 1) := by decide +kernel
theorem dL_foretold_409 : decode cL_foretold 409 = .ok (.invokevirtual 103, 3) := by decide +kernel
theorem dL_foretold_412 : decode cL_foretold 412 = .ok (.if_icmp .ge 25, 3) := by decide +kernel
theorem dL_foretold_415 : decode cL_foretold 415 = .ok (.bipush 31, 2) := by decide +kernel
theorem dL_foretold_417 : decode cL_foretold 417 = .ok (.iload 13, 2) := by decide +kernel
theorem dL_foretold_419 : decode cL_foretold 419 = .ok (.imul, 1) := by decide +kernel
theorem dL_foretold_420 : decode cL_foretold 420 = .ok (.aload_n 0, 1) := by decide +kernel
theorem dL_foretold_421 : decode cL_foretold 421 = .ok (.iload 14, 2) := by decide +kernel
theorem dL_foretold_423 : decode cL_foretold 423 = .ok (.iload 15, 2) := by decide +kernel
theorem dL_foretold_425 : decode cL_foretold 425 = .ok (.invokevirtual 178, 3) := by decide +kernel
theorem dL_foretold_428 : decode cL_foretold 428 = .ok (.iadd, 1) := by decide +kernel
theorem dL_foretold_429 : decode cL_foretold 429 = .ok (.istore 13, 2) := by decide +kernel
theorem dL_foretold_431 : decode cL_foretold 431 = .ok (.iinc 15 1, 3) := by decide +kernel
theorem dL_foretold_434 : decode cL_foretold 434 = .ok (.goto (-29), 3) := by decide +kernel
theorem dL_foretold_437 : decode cL_foretold 437 = .ok (.iinc 14 1, 3) := by decide +kernel
theorem dL_foretold_440 : decode cL_foretold 440 = .ok (.goto (-48), 3) := by decide +kernel
theorem dL_foretold_443 : decode cL_foretold 443 = .ok (.aload_n 0, 1) := by decide +kernel
theorem dL_foretold_444 : decode cL_foretold 444 = .ok (.invokevirtual 247, 3) := by decide +kernel
theorem dL_foretold_447 : decode cL_foretold 447 = .ok (.istore 14, 2) := by decide +kernel
theorem dL_foretold_449 : decode cL_foretold 449 = .ok (.aload_n 0, 1) := by decide +kernel
theorem dL_foretold_450 : decode cL_foretold 450 = .ok (.invokevirtual 134, 3) := by decide +kernel
theorem dL_foretold_453 : decode cL_foretold 453 = .ok (.istore 15, 2) := by decide +kernel
theorem dL_foretold_455 : decode cL_foretold 455 = .ok (.aload_n 0, 1) := by decide +kernel
theorem dL_foretold_456 : decode cL_foretold 456 = .ok (.invokevirtual 131, 3) := by decide +kernel
theorem dL_foretold_459 : decode cL_foretold 459 = .ok (.istore 16, 2) := by decide +kernel
theorem dL_foretold_461 : decode cL_foretold 461 = .ok (.iconst 0, 1) := by decide +kernel
theorem dL_foretold_462 : decode cL_foretold 462 = .ok (.istore 17, 2) := by decide +kernel
theorem dL_foretold_464 : decode cL_foretold 464 = .ok (.iconst 0, 1) := by decide +kernel
theorem dL_foretold_465 : decode cL_foretold 465 = .ok (.istore 18, 2) := by decide +kernel
theorem dL_foretold_467 : decode cL_foretold 467 = .ok (.iload 18, 2) := by decide +kernel
theorem dL_foretold_469 : decode cL_foretold 469 = .ok (.aload_n 0, 1) := by decide +kernel
theorem dL_foretold_470 : decode cL_foretold 470 = .ok (.iconst 1, 1) := by decide +kernel
theorem dL_foretold_471 : decode cL_foretold 471 = .ok (.invokevirtual 103, 3) := by decide +kernel
theorem dL_foretold_474 : decode cL_foretold 474 = .ok (.if_icmp .ge 44, 3) := by decide +kernel
theorem dL_foretold_477 : decode cL_foretold 477 = .ok (.iconst 0, 1) := by decide +kernel
theorem dL_foretold_478 : decode cL_foretold 478 = .ok (.istore 19, 2) := by decide +kernel
theorem dL_foretold_480 : decode cL_foretold 480 = .ok (.iload 19, 2) := by decide +kernel
theorem dL_foretold_482 : decode cL_foretold 482 = .ok (.aload_n 0, 1) := by decide +kernel
theorem dL_foretold_483 : decode cL_foretold 483 = .ok (.iconst 1, 1) := by decide +kernel
theorem dL_foretold_484 : decode cL_foretold 484 = .ok (.invokevirtual 103, 3) := by decide +kernel
theorem dL_foretold_487 : decode cL_foretold 487 = .ok (.if_icmp .ge 25, 3) := by decide +kernel
theorem dL_foretold_490 : decode cL_foretold 490 = .ok (.bipush 31, 2) := by decide +kernel
theorem dL_foretold_492 : decode cL_foretold 492 = .ok (.iload 17, 2) := by decide +kernel
theorem dL_foretold_494 : decode cL_foretold 494 = .ok (.imul, 1) := by decide +kernel
theorem dL_foretold_495 : decode cL_foretold 495 = .ok (.aload_n 0, 1) := by decide +kernel
theorem dL_foretold_496 : decode cL_foretold 496 = .ok (.iload 18, 2) := by decide +kernel
theorem dL_foretold_498 : decode cL_foretold 498 = .ok (.iload 19, 2) := by decide +kernel
theorem dL_foretold_500 : decode cL_foretold 500 = .ok (.invokevirtual 178, 3) := by decide +kernel
theorem dL_foretold_503 : decode cL_foretold 503 = .ok (.iadd, 1) := by decide +kernel
theorem dL_foretold_504 : decode cL_foretold 504 = .ok (.istore 17, 2) := by decide +kernel
theorem dL_foretold_506 : decode cL_foretold 506 = .ok (.iinc 19 1, 3) := by decide +kernel
theorem dL_foretold_509 : decode cL_foretold 509 = .ok (.goto (-29), 3) := by decide +kernel
theorem dL_foretold_512 : decode cL_foretold 512 = .ok (.iinc 18 1, 3) := by decide +kernel
theorem dL_foretold_515 : decode cL_foretold 515 = .ok (.goto (-48), 3) := by decide +kernel
theorem dL_foretold_518 : decode cL_foretold 518 = .ok (.iload 5, 2) := by decide +kernel
theorem dL_foretold_520 : decode cL_foretold 520 = .ok (.ifCond .eq 83, 3) := by decide +kernel
theorem dL_foretold_523 : decode cL_foretold 523 = .ok (.iload 17, 2) := by decide +kernel
theorem dL_foretold_525 : decode cL_foretold 525 = .ok (.iload 13, 2) := by decide +kernel
theorem dL_foretold_527 : decode cL_foretold 527 = .ok (.if_icmp .ne 76, 3) := by decide +kernel
theorem dL_foretold_530 : decode cL_foretold 530 = .ok (.iload 14, 2) := by decide +kernel
theorem dL_foretold_532 : decode cL_foretold 532 = .ok (.ifCond .ge 7, 3) := by decide +kernel
theorem dL_foretold_535 : decode cL_foretold 535 = .ok (.iconst 1, 1) := by decide +kernel
theorem dL_foretold_536 : decode cL_foretold 536 = .ok (.goto 4, 3) := by decide +kernel
theorem dL_foretold_539 : decode cL_foretold 539 = .ok (.iconst 0, 1) := by decide +kernel
theorem dL_foretold_540 : decode cL_foretold 540 = .ok (.iload 15, 2) := by decide +kernel
theorem dL_foretold_542 : decode cL_foretold 542 = .ok (.bipush (-2), 2) := by decide +kernel
theorem dL_foretold_544 : decode cL_foretold 544 = .ok (.if_icmp .ne 7, 3) := by decide +kernel
theorem dL_foretold_547 : decode cL_foretold 547 = .ok (.iconst 1, 1) := by decide +kernel
theorem dL_foretold_548 : decode cL_foretold 548 = .ok (.goto 4, 3) := by decide +kernel
theorem dL_foretold_551 : decode cL_foretold 551 = .ok (.iconst 0, 1) := by decide +kernel
theorem dL_foretold_552 : decode cL_foretold 552 = .ok (.if_icmp .ne 51, 3) := by decide +kernel
theorem dL_foretold_555 : decode cL_foretold 555 = .ok (.aload_n 0, 1) := by decide +kernel
theorem dL_foretold_556 : decode cL_foretold 556 = .ok (.invokevirtual 247, 3) := by decide +kernel
theorem dL_foretold_559 : decode cL_foretold 559 = .ok (.bipush (-2), 2) := by decide +kernel
theorem dL_foretold_561 : decode cL_foretold 561 = .ok (.if_icmp .ne 42, 3) := by decide +kernel
theorem dL_foretold_564 : decode cL_foretold 564 = .ok (.iload 16, 2) := by decide +kernel
theorem dL_foretold_566 : decode cL_foretold 566 = .ok (.ifCond .lt 10, 3) := by decide +kernel
theorem dL_foretold_569 : decode cL_foretold 569 = .ok (.aload_n 0, 1) := by decide +kernel
theorem dL_foretold_570 : decode cL_foretold 570 = .ok (.invokevirtual 225, 3) := by decide +kernel
theorem dL_foretold_573 : decode cL_foretold 573 = .ok (.ifCond .lt 30, 3) := by decide +kernel
theorem dL_foretold_576 : decode cL_foretold 576 = .ok (.iload 15, 2) := by decide +kernel
theorem dL_foretold_578 : decode cL_foretold 578 = .ok (.ifCond .lt 10, 3) := by decide +kernel
theorem dL_foretold_581 : decode cL_foretold 581 = .ok (.aload_n 0, 1) := by decide +kernel
theorem dL_foretold_582 : decode cL_foretold 582 = .ok (.invokevirtual 225, 3) := by decide +kernel
theorem dL_foretold_585 : decode cL_foretold 585 = .ok (.ifCond .lt 18, 3) := by decide +kernel
theorem dL_foretold_588 : decode cL_foretold 588 = .ok (.aload_n 0, 1) := by decide +kernel
theorem dL_foretold_589 : decode cL_foretold 589 = .ok (.aload_n 2, 1) := by decide +kernel
theorem dL_foretold_590 : decode cL_foretold 590 = .ok (.iload 4, 2) := by decide +kernel
theorem dL_foretold_592 : decode cL_foretold 592 = .ok (.aload_n 3, 1) := by decide +kernel
theorem dL_foretold_593 : decode cL_foretold 593 = .ok (.invokestatic 218, 3) := by decide +kernel
theorem dL_foretold_596 : decode cL_foretold 596 = .ok (.ifCond .eq 7, 3) := by decide +kernel
theorem dL_foretold_599 : decode cL_foretold 599 = .ok (.iconst 1, 1) := by decide +kernel
theorem dL_foretold_600 : decode cL_foretold 600 = .ok (.goto 4, 3) := by decide +kernel
theorem dL_foretold_603 : decode cL_foretold 603 = .ok (.iconst 0, 1) := by decide +kernel
theorem dL_foretold_604 : decode cL_foretold 604 = .ok (.istore 5, 2) := by decide +kernel
theorem dL_foretold_606 : decode cL_foretold 606 = .ok (.iconst (-1), 1) := by decide +kernel
theorem dL_foretold_607 : decode cL_foretold 607 = .ok (.istore 18, 2) := by decide +kernel
theorem dL_foretold_609 : decode cL_foretold 609 = .ok (.iconst 0, 1) := by decide +kernel
theorem dL_foretold_610 : decode cL_foretold 610 = .ok (.istore 19, 2) := by decide +kernel
theorem dL_foretold_612 : decode cL_foretold 612 = .ok (.iload 19, 2) := by decide +kernel
theorem dL_foretold_614 : decode cL_foretold 614 = .ok (.aload_n 0, 1) := by decide +kernel
theorem dL_foretold_615 : decode cL_foretold 615 = .ok (.iconst 1, 1) := by decide +kernel
theorem dL_foretold_616 : decode cL_foretold 616 = .ok (.invokevirtual 103, 3) := by decide +kernel
theorem dL_foretold_619 : decode cL_foretold 619 = .ok (.if_icmp .ge 101, 3) := by decide +kernel
theorem dL_foretold_622 : decode cL_foretold 622 = .ok (.iload 5, 2) := by decide +kernel
theorem dL_foretold_624 : decode cL_foretold 624 = .ok (.ifCond .eq 96, 3) := by decide +kernel
theorem dL_foretold_627 : decode cL_foretold 627 = .ok (.aload_n 0, 1) := by decide +kernel
theorem dL_foretold_628 : decode cL_foretold 628 = .ok (.aload_n 0, 1) := by decide +kernel
theorem dL_foretold_629 : decode cL_foretold 629 = .ok (.iload 19, 2) := by decide +kernel
theorem dL_foretold_631 : decode cL_foretold 631 = .ok (.invokevirtual 250, 3) := by decide +kernel
theorem dL_foretold_634 : decode cL_foretold 634 = .ok (.iconst 0, 1) := by decide +kernel
theorem dL_foretold_635 : decode cL_foretold 635 = .ok (.invokevirtual 148, 3) := by decide +kernel
theorem dL_foretold_638 : decode cL_foretold 638 = .ok (.iload 18, 2) := by decide +kernel
theorem dL_foretold_640 : decode cL_foretold 640 = .ok (.if_icmp .lt 58, 3) := by decide +kernel
theorem dL_foretold_643 : decode cL_foretold 643 = .ok (.aload_n 0, 1) := by decide +kernel
theorem dL_foretold_644 : decode cL_foretold 644 = .ok (.aload_n 0, 1) := by decide +kernel
theorem dL_foretold_645 : decode cL_foretold 645 = .ok (.invokevirtual 253, 3) := by decide +kernel
theorem dL_foretold_648 : decode cL_foretold 648 = .ok (.iconst 2, 1) := by decide +kernel
theorem dL_foretold_649 : decode cL_foretold 649 = .ok (.invokevirtual 148, 3) := by decide +kernel
theorem dL_foretold_652 : decode cL_foretold 652 = .ok (.aload_n 0, 1) := by decide +kernel
theorem dL_foretold_653 : decode cL_foretold 653 = .ok (.iload 19, 2) := by decide +kernel
theorem dL_foretold_655 : decode cL_foretold 655 = .ok (.iconst 2, 1) := by decide +kernel
theorem dL_foretold_656 : decode cL_foretold 656 = .ok (.invokevirtual 148, 3) := by decide +kernel
theorem dL_foretold_659 : decode cL_foretold 659 = .ok (.if_icmp .lt 39, 3) := by decide +kernel
theorem dL_foretold_662 : decode cL_foretold 662 = .ok (.iload 19, 2) := by decide +kernel
theorem dL_foretold_664 : decode cL_foretold 664 = .ok (.ifCond .eq 30, 3) := by decide +kernel
theorem dL_foretold_667 : decode cL_foretold 667 = .ok (.aload_n 0, 1) := by decide +kernel
theorem dL_foretold_668 : decode cL_foretold 668 = .ok (.aload_n 0, 1) := by decide +kernel
theorem dL_foretold_669 : decode cL_foretold 669 = .ok (.iload 19, 2) := by decide +kernel
theorem dL_foretold_671 : decode cL_foretold 671 = .ok (.invokevirtual 256, 3) := by decide +kernel
theorem dL_foretold_674 : decode cL_foretold 674 = .ok (.iconst 1, 1) := by decide +kernel
theorem dL_foretold_675 : decode cL_foretold 675 = .ok (.invokevirtual 148, 3) := by decide +kernel
theorem dL_foretold_678 : decode cL_foretold 678 = .ok (.aload_n 0, 1) := by decide +kernel
theorem dL_foretold_679 : decode cL_foretold 679 = .ok (.aload_n 0, 1) := by decide +kernel
theorem dL_foretold_680 : decode cL_foretold 680 = .ok (.iload 19, 2) := by decide +kernel
theorem dL_foretold_682 : decode cL_foretold 682 = .ok (.iconst 1, 1) := by decide +kernel
theorem dL_foretold_683 : decode cL_foretold 683 = .ok (.isub, 1) := by decide +kernel
theorem dL_foretold_684 : decode cL_foretold 684 = .ok (.invokevirtual 256, 3) := by decide +kernel
theorem dL_foretold_687 : decode cL_foretold 687 = .ok (.iconst 1, 1) := by decide +kernel
theorem dL_foretold_688 : decode cL_foretold 688 = .ok (.invokevirtual 148, 3) := by decide +kernel
theorem dL_foretold_691 : decode cL_foretold 691 = .ok (.if_icmp .lt 7, 3) := by decide +kernel
theorem dL_foretold_694 : decode cL_foretold 694 = .ok (.iconst 1, 1) := by decide +kernel
theorem dL_foretold_695 : decode cL_foretold 695 = .ok (.goto 4, 3) := by decide +kernel
theorem dL_foretold_698 : decode cL_foretold 698 = .ok (.iconst 0, 1) := by decide +kernel
theorem dL_foretold_699 : decode cL_foretold 699 = .ok (.istore 5, 2) := by decide +kernel
theorem dL_foretold_701 : decode cL_foretold 701 = .ok (.aload_n 0, 1) := by decide +kernel
theorem dL_foretold_702 : decode cL_foretold 702 = .ok (.aload_n 0, 1) := by decide +kernel
theorem dL_foretold_703 : decode cL_foretold 703 = .ok (.iload 19, 2) := by decide +kernel
theorem dL_foretold_705 : decode cL_foretold 705 = .ok (.invokevirtual 250, 3) := by decide +kernel
theorem dL_foretold_708 : decode cL_foretold 708 = .ok (.iconst 0, 1) := by decide +kernel
theorem dL_foretold_709 : decode cL_foretold 709 = .ok (.invokevirtual 148, 3) := by decide +kernel
theorem dL_foretold_712 : decode cL_foretold 712 = .ok (.istore 18, 2) := by decide +kernel
theorem dL_foretold_714 : decode cL_foretold 714 = .ok (.iinc 19 1, 3) := by decide +kernel
theorem dL_foretold_717 : decode cL_foretold 717 = .ok (.goto (-105), 3) := by decide +kernel
theorem dL_foretold_720 : decode cL_foretold 720 = .ok (.iload 5, 2) := by decide +kernel
theorem dL_foretold_722 : decode cL_foretold 722 = .ok (.ifCond .eq 32, 3) := by decide +kernel
theorem dL_foretold_725 : decode cL_foretold 725 = .ok (.iload 18, 2) := by decide +kernel
theorem dL_foretold_727 : decode cL_foretold 727 = .ok (.aload_n 0, 1) := by decide +kernel
theorem dL_foretold_728 : decode cL_foretold 728 = .ok (.bipush 9, 2) := by decide +kernel
theorem dL_foretold_730 : decode cL_foretold 730 = .ok (.invokevirtual 103, 3) := by decide +kernel
theorem dL_foretold_733 : decode cL_foretold 733 = .ok (.if_icmp .ne 21, 3) := by decide +kernel
theorem dL_foretold_736 : decode cL_foretold 736 = .ok (.aload_n 0, 1) := by decide +kernel
theorem dL_foretold_737 : decode cL_foretold 737 = .ok (.aload_n 0, 1) := by decide +kernel
theorem dL_foretold_738 : decode cL_foretold 738 = .ok (.iconst 1, 1) := by decide +kernel
theorem dL_foretold_739 : decode cL_foretold 739 = .ok (.invokevirtual 103, 3) := by decide +kernel
theorem dL_foretold_742 : decode cL_foretold 742 = .ok (.invokevirtual 250, 3) := by decide +kernel
theorem dL_foretold_745 : decode cL_foretold 745 = .ok (.bipush (-2), 2) := by decide +kernel
theorem dL_foretold_747 : decode cL_foretold 747 = .ok (.if_icmp .ne 7, 3) := by decide +kernel
theorem dL_foretold_750 : decode cL_foretold 750 = .ok (.iconst 1, 1) := by decide +kernel
theorem dL_foretold_751 : decode cL_foretold 751 = .ok (.goto 4, 3) := by decide +kernel
theorem dL_foretold_754 : decode cL_foretold 754 = .ok (.iconst 0, 1) := by decide +kernel
theorem dL_foretold_755 : decode cL_foretold 755 = .ok (.ireturn, 1) := by decide +kernel
theorem dL_undone_0 : decode cL_undone 0 = .ok (.aload_n 0, 1) := by decide +kernel
theorem dL_undone_1 : decode cL_undone 1 = .ok (.aload_n 2, 1) := by decide +kernel
theorem dL_undone_2 : decode cL_undone 2 = .ok (.invokestatic 160, 3) := by decide +kernel
theorem dL_undone_5 : decode cL_undone 5 = .ok (.istore 4, 2) := by decide +kernel
theorem dL_undone_7 : decode cL_undone 7 = .ok (.aload_n 0, 1) := by decide +kernel
theorem dL_undone_8 : decode cL_undone 8 = .ok (.iconst 0, 1) := by decide +kernel
theorem dL_undone_9 : decode cL_undone 9 = .ok (.invokevirtual 259, 3) := by decide +kernel
theorem dL_undone_12 : decode cL_undone 12 = .ok (.istore 5, 2) := by decide +kernel
theorem dL_undone_14 : decode cL_undone 14 = .ok (.iconst 0, 1) := by decide +kernel
theorem dL_undone_15 : decode cL_undone 15 = .ok (.istore 6, 2) := by decide +kernel
theorem dL_undone_17 : decode cL_undone 17 = .ok (.iload 6, 2) := by decide +kernel
theorem dL_undone_19 : decode cL_undone 19 = .ok (.bipush 7, 2) := by decide +kernel
theorem dL_undone_21 : decode cL_undone 21 = .ok (.if_icmp .ge 16, 3) := by decide +kernel
theorem dL_undone_24 : decode cL_undone 24 = .ok (.aload_n 0, 1) := by decide +kernel
theorem dL_undone_25 : decode cL_undone 25 = .ok (.aload_n 1, 1) := by decide +kernel
theorem dL_undone_26 : decode cL_undone 26 = .ok (.invokestatic 262, 3) := by decide +kernel
theorem dL_undone_29 : decode cL_undone 29 = .ok (.istore 7, 2) := by decide +kernel
theorem dL_undone_31 : decode cL_undone 31 = .ok (.iinc 6 1, 3) := by decide +kernel
theorem dL_undone_34 : decode cL_undone 34 = .ok (.goto (-17), 3) := by decide +kernel
theorem dL_undone_37 : decode cL_undone 37 = .ok (.iload 5, 2) := by decide +kernel
theorem dL_undone_39 : decode cL_undone 39 = .ok (.aload_n 2, 1) := by decide +kernel
theorem dL_undone_40 : decode cL_undone 40 = .ok (.iconst 2, 1) := by decide +kernel
theorem dL_undone_41 : decode cL_undone 41 = .ok (.iaload, 1) := by decide +kernel
theorem dL_undone_42 : decode cL_undone 42 = .ok (.if_icmp .ne 237, 3) := by decide +kernel
theorem dL_undone_45 : decode cL_undone 45 = .ok (.aload_n 0, 1) := by decide +kernel
theorem dL_undone_46 : decode cL_undone 46 = .ok (.iconst 0, 1) := by decide +kernel
theorem dL_undone_47 : decode cL_undone 47 = .ok (.invokevirtual 265, 3) := by decide +kernel
theorem dL_undone_50 : decode cL_undone 50 = .ok (.iload 5, 2) := by decide +kernel
theorem dL_undone_52 : decode cL_undone 52 = .ok (.if_icmp .ne 227, 3) := by decide +kernel
theorem dL_undone_55 : decode cL_undone 55 = .ok (.aload_n 0, 1) := by decide +kernel
theorem dL_undone_56 : decode cL_undone 56 = .ok (.aload_n 2, 1) := by decide +kernel
theorem dL_undone_57 : decode cL_undone 57 = .ok (.iload 4, 2) := by decide +kernel
theorem dL_undone_59 : decode cL_undone 59 = .ok (.aload_n 3, 1) := by decide +kernel
theorem dL_undone_60 : decode cL_undone 60 = .ok (.invokestatic 218, 3) := by decide +kernel
theorem dL_undone_63 : decode cL_undone 63 = .ok (.ifCond .eq 216, 3) := by decide +kernel
theorem dL_undone_66 : decode cL_undone 66 = .ok (.aload_n 0, 1) := by decide +kernel
theorem dL_undone_67 : decode cL_undone 67 = .ok (.iconst 0, 1) := by decide +kernel
theorem dL_undone_68 : decode cL_undone 68 = .ok (.iconst 0, 1) := by decide +kernel
theorem dL_undone_69 : decode cL_undone 69 = .ok (.iconst 0, 1) := by decide +kernel
theorem dL_undone_70 : decode cL_undone 70 = .ok (.iconst 1, 1) := by decide +kernel
theorem dL_undone_71 : decode cL_undone 71 = .ok (.invokevirtual 106, 3) := by decide +kernel
theorem dL_undone_74 : decode cL_undone 74 = .ok (.iconst (-1), 1) := by decide +kernel
theorem dL_undone_75 : decode cL_undone 75 = .ok (.if_icmp .ne 204, 3) := by decide +kernel
theorem dL_undone_78 : decode cL_undone 78 = .ok (.aload_n 0, 1) := by decide +kernel
theorem dL_undone_79 : decode cL_undone 79 = .ok (.iconst 0, 1) := by decide +kernel
theorem dL_undone_80 : decode cL_undone 80 = .ok (.iconst 1, 1) := by decide +kernel
theorem dL_undone_81 : decode cL_undone 81 = .ok (.iconst 2, 1) := by decide +kernel
theorem dL_undone_82 : decode cL_undone 82 = .ok (.iconst 1, 1) := by decide +kernel
theorem dL_undone_83 : decode cL_undone 83 = .ok (.invokevirtual 106, 3) := by decide +kernel
theorem dL_undone_86 : decode cL_undone 86 = .ok (.iconst (-1), 1) := by decide +kernel
theorem dL_undone_87 : decode cL_undone 87 = .ok (.if_icmp .ne 192, 3) := by decide +kernel
theorem dL_undone_90 : decode cL_undone 90 = .ok (.aload_n 0, 1) := by decide +kernel
theorem dL_undone_91 : decode cL_undone 91 = .ok (.iload 5, 2) := by decide +kernel
theorem dL_undone_93 : decode cL_undone 93 = .ok (.invokevirtual 110, 3) := by decide +kernel
theorem dL_undone_96 : decode cL_undone 96 = .ok (.iconst (-1), 1) := by decide +kernel
theorem dL_undone_97 : decode cL_undone 97 = .ok (.if_icmp .ne 182, 3) := by decide +kernel
theorem dL_undone_100 : decode cL_undone 100 = .ok (.aload_n 0, 1) := by decide +kernel
theorem dL_undone_101 : decode cL_undone 101 = .ok (.iconst (-1), 1) := by decide +kernel
theorem dL_undone_102 : decode cL_undone 102 = .ok (.iconst 0, 1) := by decide +kernel
theorem dL_undone_103 : decode cL_undone 103 = .ok (.invokevirtual 113, 3) := by decide +kernel
theorem dL_undone_106 : decode cL_undone 106 = .ok (.iconst (-1), 1) := by decide +kernel
theorem dL_undone_107 : decode cL_undone 107 = .ok (.if_icmp .ne 172, 3) := by decide +kernel
theorem dL_undone_110 : decode cL_undone 110 = .ok (.aload_n 0, 1) := by decide +kernel
theorem dL_undone_111 : decode cL_undone 111 = .ok (.iload 5, 2) := by decide +kernel
theorem dL_undone_113 : decode cL_undone 113 = .ok (.invokevirtual 116, 3) := by decide +kernel
theorem dL_undone_116 : decode cL_undone 116 = .ok (.iconst (-1), 1) := by decide +kernel
theorem dL_undone_117 : decode cL_undone 117 = .ok (.if_icmp .ne 162, 3) := by decide +kernel
theorem dL_undone_120 : decode cL_undone 120 = .ok (.aload_n 0, 1) := by decide +kernel
theorem dL_undone_121 : decode cL_undone 121 = .ok (.aload_n 0, 1) := by decide +kernel
theorem dL_undone_122 : decode cL_undone 122 = .ok (.iconst 1, 1) := by decide +kernel
theorem dL_undone_123 : decode cL_undone 123 = .ok (.invokevirtual 103, 3) := by decide +kernel
theorem dL_undone_126 : decode cL_undone 126 = .ok (.iconst 0, 1) := by decide +kernel
theorem dL_undone_127 : decode cL_undone 127 = .ok (.invokevirtual 119, 3) := by decide +kernel
theorem dL_undone_130 : decode cL_undone 130 = .ok (.iconst (-1), 1) := by decide +kernel
theorem dL_undone_131 : decode cL_undone 131 = .ok (.if_icmp .ne 148, 3) := by decide +kernel
theorem dL_undone_134 : decode cL_undone 134 = .ok (.aload_n 0, 1) := by decide +kernel
theorem dL_undone_135 : decode cL_undone 135 = .ok (.iconst 0, 1) := by decide +kernel
theorem dL_undone_136 : decode cL_undone 136 = .ok (.iconst 0, 1) := by decide +kernel
theorem dL_undone_137 : decode cL_undone 137 = .ok (.invokevirtual 119, 3) := by decide +kernel
theorem dL_undone_140 : decode cL_undone 140 = .ok (.bipush (-3), 2) := by decide +kernel
theorem dL_undone_142 : decode cL_undone 142 = .ok (.if_icmp .ne 137, 3) := by decide +kernel
theorem dL_undone_145 : decode cL_undone 145 = .ok (.aload_n 0, 1) := by decide +kernel
theorem dL_undone_146 : decode cL_undone 146 = .ok (.iconst 0, 1) := by decide +kernel
theorem dL_undone_147 : decode cL_undone 147 = .ok (.invokevirtual 122, 3) := by decide +kernel
theorem dL_undone_150 : decode cL_undone 150 = .ok (.bipush (-3), 2) := by decide +kernel
theorem dL_undone_152 : decode cL_undone 152 = .ok (.if_icmp .ne 127, 3) := by decide +kernel
theorem dL_undone_155 : decode cL_undone 155 = .ok (.aload_n 0, 1) := by decide +kernel
theorem dL_undone_156 : decode cL_undone 156 = .ok (.iconst 0, 1) := by decide +kernel
theorem dL_undone_157 : decode cL_undone 157 = .ok (.invokevirtual 125, 3) := by decide +kernel
theorem dL_undone_160 : decode cL_undone 160 = .ok (.iconst (-1), 1) := by decide +kernel
theorem dL_undone_161 : decode cL_undone 161 = .ok (.if_icmp .ne 118, 3) := by decide +kernel
theorem dL_undone_164 : decode cL_undone 164 = .ok (.aload_n 0, 1) := by decide +kernel
theorem dL_undone_165 : decode cL_undone 165 = .ok (.iload 5, 2) := by decide +kernel
theorem dL_undone_167 : decode cL_undone 167 = .ok (.invokevirtual 128, 3) := by decide +kernel
theorem dL_undone_170 : decode cL_undone 170 = .ok (.iconst (-1), 1) := by decide +kernel
theorem dL_undone_171 : decode cL_undone 171 = .ok (.if_icmp .ne 108, 3) := by decide +kernel
theorem dL_undone_174 : decode cL_undone 174 = .ok (.aload_n 0, 1) := by decide +kernel
theorem dL_undone_175 : decode cL_undone 175 = .ok (.iconst 2, 1) := by decide +kernel
theorem dL_undone_176 : decode cL_undone 176 = .ok (.invokevirtual 259, 3) := by decide +kernel
theorem dL_undone_179 : decode cL_undone 179 = .ok (.iconst (-1), 1) := by decide +kernel
theorem dL_undone_180 : decode cL_undone 180 = .ok (.if_icmp .ne 99, 3) := by decide +kernel
theorem dL_undone_183 : decode cL_undone 183 = .ok (.aload_n 0, 1) := by decide +kernel
theorem dL_undone_184 : decode cL_undone 184 = .ok (.iconst (-1), 1) := by decide +kernel
theorem dL_undone_185 : decode cL_undone 185 = .ok (.invokevirtual 265, 3) := by decide +kernel
theorem dL_undone_188 : decode cL_undone 188 = .ok (.iconst (-1), 1) := by decide +kernel
theorem dL_undone_189 : decode cL_undone 189 = .ok (.if_icmp .ne 90, 3) := by decide +kernel
theorem dL_undone_192 : decode cL_undone 192 = .ok (.aload_n 0, 1) := by decide +kernel
theorem dL_undone_193 : decode cL_undone 193 = .ok (.iconst 1, 1) := by decide +kernel
theorem dL_undone_194 : decode cL_undone 194 = .ok (.invokevirtual 265, 3) := by decide +kernel
theorem dL_undone_197 : decode cL_undone 197 = .ok (.bipush (-2), 2) := by decide +kernel
theorem dL_undone_199 : decode cL_undone 199 = .ok (.if_icmp .ne 80, 3) := by decide +kernel
theorem dL_undone_202 : decode cL_undone 202 = .ok (.aload_n 0, 1) := by decide +kernel
theorem dL_undone_203 : decode cL_undone 203 = .ok (.bipush 13, 2) := by decide +kernel
theorem dL_undone_205 : decode cL_undone 205 = .ok (.invokevirtual 103, 3) := by decide +kernel
theorem dL_undone_208 : decode cL_undone 208 = .ok (.iconst (-1), 1) := by decide +kernel
theorem dL_undone_209 : decode cL_undone 209 = .ok (.if_icmp .ne 70, 3) := by decide +kernel
theorem dL_undone_212 : decode cL_undone 212 = .ok (.aload_n 0, 1) := by decide +kernel
theorem dL_undone_213 : decode cL_undone 213 = .ok (.iconst (-1), 1) := by decide +kernel
theorem dL_undone_214 : decode cL_undone 214 = .ok (.iconst 0, 1) := by decide +kernel
theorem dL_undone_215 : decode cL_undone 215 = .ok (.invokevirtual 178, 3) := by decide +kernel
theorem dL_undone_218 : decode cL_undone 218 = .ok (.ldc_w 268, 3) := by decide +kernel
theorem dL_undone_221 : decode cL_undone 221 = .ok (.if_icmp .ne 58, 3) := by decide +kernel
theorem dL_undone_224 : decode cL_undone 224 = .ok (.aload_n 0, 1) := by decide +kernel
theorem dL_undone_225 : decode cL_undone 225 = .ok (.iconst 0, 1) := by decide +kernel
theorem dL_undone_226 : decode cL_undone 226 = .ok (.iconst 0, 1) := by decide +kernel
theorem dL_undone_227 : decode cL_undone 227 = .ok (.iconst 0, 1) := by decide +kernel
theorem dL_undone_228 : decode cL_undone 228 = .ok (.invokevirtual 184, 3) := by decide +kernel
theorem dL_undone_231 : decode cL_undone 231 = .ok (.iconst (-1), 1) := by decide +kernel
theorem dL_undone_232 : decode cL_undone 232 = .ok (.if_icmp .ne 47, 3) := by decide +kernel
theorem dL_undone_235 : decode cL_undone 235 = .ok (.aload_n 0, 1) := by decide +kernel
theorem dL_undone_236 : decode cL_undone 236 = .ok (.bipush 6, 2) := by decide +kernel
theorem dL_undone_238 : decode cL_undone 238 = .ok (.invokevirtual 269, 3) := by decide +kernel
theorem dL_undone_241 : decode cL_undone 241 = .ok (.iconst (-1), 1) := by decide +kernel
theorem dL_undone_242 : decode cL_undone 242 = .ok (.if_icmp .ne 37, 3) := by decide +kernel
theorem dL_undone_245 : decode cL_undone 245 = .ok (.aload_n 0, 1) := by decide +kernel
theorem dL_undone_246 : decode cL_undone 246 = .ok (.iconst 0, 1) := by decide +kernel
theorem dL_undone_247 : decode cL_undone 247 = .ok (.iconst 0, 1) := by decide +kernel
theorem dL_undone_248 : decode cL_undone 248 = .ok (.iconst 0, 1) := by decide +kernel
theorem dL_undone_249 : decode cL_undone 249 = .ok (.invokevirtual 215, 3) := by decide +kernel
theorem dL_undone_252 : decode cL_undone 252 = .ok (.iconst (-1), 1) := by decide +kernel
theorem dL_undone_253 : decode cL_undone 253 = .ok (.if_icmp .ne 26, 3) := by decide +kernel
theorem dL_undone_256 : decode cL_undone 256 = .ok (.aload_n 0, 1) := by decide +kernel
theorem dL_undone_257 : decode cL_undone 257 = .ok (.iload 5, 2) := by decide +kernel
theorem dL_undone_259 : decode cL_undone 259 = .ok (.invokevirtual 228, 3) := by decide +kernel
theorem dL_undone_262 : decode cL_undone 262 = .ok (.iconst (-1), 1) := by decide +kernel
theorem dL_undone_263 : decode cL_undone 263 = .ok (.if_icmp .ne 16, 3) := by decide +kernel
theorem dL_undone_266 : decode cL_undone 266 = .ok (.aload_n 0, 1) := by decide +kernel
theorem dL_undone_267 : decode cL_undone 267 = .ok (.iconst (-1), 1) := by decide +kernel
theorem dL_undone_268 : decode cL_undone 268 = .ok (.invokevirtual 272, 3) := by decide +kernel
theorem dL_undone_271 : decode cL_undone 271 = .ok (.iconst (-1), 1) := by decide +kernel
theorem dL_undone_272 : decode cL_undone 272 = .ok (.if_icmp .ne 7, 3) := by decide +kernel
theorem dL_undone_275 : decode cL_undone 275 = .ok (.iconst 1, 1) := by decide +kernel
theorem dL_undone_276 : decode cL_undone 276 = .ok (.goto 4, 3) := by decide +kernel
theorem dL_undone_279 : decode cL_undone 279 = .ok (.iconst 0, 1) := by decide +kernel
theorem dL_undone_280 : decode cL_undone 280 = .ok (.istore 6, 2) := by decide +kernel
theorem dL_undone_282 : decode cL_undone 282 = .ok (.aload_n 0, 1) := by decide +kernel
theorem dL_undone_283 : decode cL_undone 283 = .ok (.bipush 12, 2) := by decide +kernel
theorem dL_undone_285 : decode cL_undone 285 = .ok (.invokevirtual 103, 3) := by decide +kernel
theorem dL_undone_288 : decode cL_undone 288 = .ok (.istore 7, 2) := by decide +kernel
theorem dL_undone_290 : decode cL_undone 290 = .ok (.iload 6, 2) := by decide +kernel
theorem dL_undone_292 : decode cL_undone 292 = .ok (.ifCond .eq 23, 3) := by decide +kernel
theorem dL_undone_295 : decode cL_undone 295 = .ok (.iload 7, 2) := by decide +kernel
theorem dL_undone_297 : decode cL_undone 297 = .ok (.ifCond .le 18, 3) := by decide +kernel
theorem dL_undone_300 : decode cL_undone 300 = .ok (.aload_n 0, 1) := by decide +kernel
theorem dL_undone_301 : decode cL_undone 301 = .ok (.invokevirtual 225, 3) := by decide +kernel
theorem dL_undone_304 : decode cL_undone 304 = .ok (.iload 7, 2) := by decide +kernel
theorem dL_undone_306 : decode cL_undone 306 = .ok (.iconst 1, 1) := by decide +kernel
theorem dL_undone_307 : decode cL_undone 307 = .ok (.isub, 1) := by decide +kernel
theorem dL_undone_308 : decode cL_undone 308 = .ok (.if_icmp .ne 7, 3) := by decide +kernel
theorem dL_undone_311 : decode cL_undone 311 = .ok (.iconst 1, 1) := by decide +kernel
theorem dL_undone_312 : decode cL_undone 312 = .ok (.goto 4, 3) := by decide +kernel
theorem dL_undone_315 : decode cL_undone 315 = .ok (.iconst 0, 1) := by decide +kernel
theorem dL_undone_316 : decode cL_undone 316 = .ok (.istore 6, 2) := by decide +kernel
theorem dL_undone_318 : decode cL_undone 318 = .ok (.iload 7, 2) := by decide +kernel
theorem dL_undone_320 : decode cL_undone 320 = .ok (.iconst 1, 1) := by decide +kernel
theorem dL_undone_321 : decode cL_undone 321 = .ok (.if_icmp .le 32, 3) := by decide +kernel
theorem dL_undone_324 : decode cL_undone 324 = .ok (.iload 6, 2) := by decide +kernel
theorem dL_undone_326 : decode cL_undone 326 = .ok (.ifCond .eq 27, 3) := by decide +kernel
theorem dL_undone_329 : decode cL_undone 329 = .ok (.iinc 7 (-1), 3) := by decide +kernel
theorem dL_undone_332 : decode cL_undone 332 = .ok (.aload_n 0, 1) := by decide +kernel
theorem dL_undone_333 : decode cL_undone 333 = .ok (.invokevirtual 225, 3) := by decide +kernel
theorem dL_undone_336 : decode cL_undone 336 = .ok (.iload 7, 2) := by decide +kernel
theorem dL_undone_338 : decode cL_undone 338 = .ok (.iconst 1, 1) := by decide +kernel
theorem dL_undone_339 : decode cL_undone 339 = .ok (.isub, 1) := by decide +kernel
theorem dL_undone_340 : decode cL_undone 340 = .ok (.if_icmp .ne 7, 3) := by decide +kernel
theorem dL_undone_343 : decode cL_undone 343 = .ok (.iconst 1, 1) := by decide +kernel
theorem dL_undone_344 : decode cL_undone 344 = .ok (.goto 4, 3) := by decide +kernel
theorem dL_undone_347 : decode cL_undone 347 = .ok (.iconst 0, 1) := by decide +kernel
theorem dL_undone_348 : decode cL_undone 348 = .ok (.istore 6, 2) := by decide +kernel
theorem dL_undone_350 : decode cL_undone 350 = .ok (.goto (-32), 3) := by decide +kernel
theorem dL_undone_353 : decode cL_undone 353 = .ok (.iload 6, 2) := by decide +kernel
theorem dL_undone_355 : decode cL_undone 355 = .ok (.ifCond .eq 15, 3) := by decide +kernel
theorem dL_undone_358 : decode cL_undone 358 = .ok (.aload_n 0, 1) := by decide +kernel
theorem dL_undone_359 : decode cL_undone 359 = .ok (.invokevirtual 225, 3) := by decide +kernel
theorem dL_undone_362 : decode cL_undone 362 = .ok (.iconst (-1), 1) := by decide +kernel
theorem dL_undone_363 : decode cL_undone 363 = .ok (.if_icmp .ne 7, 3) := by decide +kernel
theorem dL_undone_366 : decode cL_undone 366 = .ok (.iconst 1, 1) := by decide +kernel
theorem dL_undone_367 : decode cL_undone 367 = .ok (.goto 4, 3) := by decide +kernel
theorem dL_undone_370 : decode cL_undone 370 = .ok (.iconst 0, 1) := by decide +kernel
theorem dL_undone_371 : decode cL_undone 371 = .ok (.istore 6, 2) := by decide +kernel
theorem dL_undone_373 : decode cL_undone 373 = .ok (.aload_n 0, 1) := by decide +kernel
theorem dL_undone_374 : decode cL_undone 374 = .ok (.iconst 0, 1) := by decide +kernel
theorem dL_undone_375 : decode cL_undone 375 = .ok (.invokevirtual 265, 3) := by decide +kernel
theorem dL_undone_378 : decode cL_undone 378 = .ok (.istore 8, 2) := by decide +kernel
theorem dL_undone_380 : decode cL_undone 380 = .ok (.new 9, 3) := by decide +kernel
theorem dL_undone_383 : decode cL_undone 383 = .ok (.dup, 1) := by decide +kernel
theorem dL_undone_384 : decode cL_undone 384 = .ok (.invokespecial 275, 3) := by decide +kernel
theorem dL_undone_387 : decode cL_undone 387 = .ok (.astore 9, 2) := by decide +kernel
theorem dL_undone_389 : decode cL_undone 389 = .ok (.iload 6, 2) := by decide +kernel
theorem dL_undone_391 : decode cL_undone 391 = .ok (.ifCond .eq 92, 3) := by decide +kernel
theorem dL_undone_394 : decode cL_undone 394 = .ok (.iload 8, 2) := by decide +kernel
theorem dL_undone_396 : decode cL_undone 396 = .ok (.iload 5, 2) := by decide +kernel
theorem dL_undone_398 : decode cL_undone 398 = .ok (.if_icmp .ne 85, 3) := by decide +kernel
theorem dL_undone_401 : decode cL_undone 401 = .ok (.aload_n 0, 1) := by decide +kernel
theorem dL_undone_402 : decode cL_undone 402 = .ok (.aload_n 2, 1) := by decide +kernel
theorem dL_undone_403 : decode cL_undone 403 = .ok (.iload 4, 2) := by decide +kernel
theorem dL_undone_405 : decode cL_undone 405 = .ok (.aload_n 3, 1) := by decide +kernel
theorem dL_undone_406 : decode cL_undone 406 = .ok (.invokestatic 218, 3) := by decide +kernel
theorem dL_undone_409 : decode cL_undone 409 = .ok (.ifCond .eq 74, 3) := by decide +kernel
theorem dL_undone_412 : decode cL_undone 412 = .ok (.aload 9, 2) := by decide +kernel
theorem dL_undone_414 : decode cL_undone 414 = .ok (.aload_n 0, 1) := by decide +kernel
theorem dL_undone_415 : decode cL_undone 415 = .ok (.iconst 0, 1) := by decide +kernel
theorem dL_undone_416 : decode cL_undone 416 = .ok (.invokestatic 276, 3) := by decide +kernel
theorem dL_undone_419 : decode cL_undone 419 = .ok (.invokestatic 280, 3) := by decide +kernel
theorem dL_undone_422 : decode cL_undone 422 = .ok (.ifCond .eq 61, 3) := by decide +kernel
theorem dL_undone_425 : decode cL_undone 425 = .ok (.aload 9, 2) := by decide +kernel
theorem dL_undone_427 : decode cL_undone 427 = .ok (.invokevirtual 46, 3) := by decide +kernel
theorem dL_undone_430 : decode cL_undone 430 = .ok (.aload_n 0, 1) := by decide +kernel
theorem dL_undone_431 : decode cL_undone 431 = .ok (.invokevirtual 46, 3) := by decide +kernel
theorem dL_undone_434 : decode cL_undone 434 = .ok (.if_icmp .ne 49, 3) := by decide +kernel
theorem dL_undone_437 : decode cL_undone 437 = .ok (.aload 9, 2) := by decide +kernel
theorem dL_undone_439 : decode cL_undone 439 = .ok (.invokevirtual 43, 3) := by decide +kernel
theorem dL_undone_442 : decode cL_undone 442 = .ok (.aload_n 0, 1) := by decide +kernel
theorem dL_undone_443 : decode cL_undone 443 = .ok (.invokevirtual 43, 3) := by decide +kernel
theorem dL_undone_446 : decode cL_undone 446 = .ok (.if_icmp .ne 37, 3) := by decide +kernel
theorem dL_undone_449 : decode cL_undone 449 = .ok (.aload 9, 2) := by decide +kernel
theorem dL_undone_451 : decode cL_undone 451 = .ok (.bipush 10, 2) := by decide +kernel
theorem dL_undone_453 : decode cL_undone 453 = .ok (.invokevirtual 103, 3) := by decide +kernel
theorem dL_undone_456 : decode cL_undone 456 = .ok (.aload_n 0, 1) := by decide +kernel
theorem dL_undone_457 : decode cL_undone 457 = .ok (.bipush 10, 2) := by decide +kernel
theorem dL_undone_459 : decode cL_undone 459 = .ok (.invokevirtual 103, 3) := by decide +kernel
theorem dL_undone_462 : decode cL_undone 462 = .ok (.if_icmp .ne 21, 3) := by decide +kernel
theorem dL_undone_465 : decode cL_undone 465 = .ok (.aload 9, 2) := by decide +kernel
theorem dL_undone_467 : decode cL_undone 467 = .ok (.iconst 5, 1) := by decide +kernel
theorem dL_undone_468 : decode cL_undone 468 = .ok (.invokevirtual 103, 3) := by decide +kernel
theorem dL_undone_471 : decode cL_undone 471 = .ok (.aload_n 0, 1) := by decide +kernel
theorem dL_undone_472 : decode cL_undone 472 = .ok (.iconst 5, 1) := by decide +kernel
theorem dL_undone_473 : decode cL_undone 473 = .ok (.invokevirtual 103, 3) := by decide +kernel
theorem dL_undone_476 : decode cL_undone 476 = .ok (.if_icmp .ne 7, 3) := by decide +kernel
theorem dL_undone_479 : decode cL_undone 479 = .ok (.iconst 1, 1) := by decide +kernel
theorem dL_undone_480 : decode cL_undone 480 = .ok (.goto 4, 3) := by decide +kernel
theorem dL_undone_483 : decode cL_undone 483 = .ok (.iconst 0, 1) := by decide +kernel
theorem dL_undone_484 : decode cL_undone 484 = .ok (.ireturn, 1) := by decide +kernel
theorem dL_law_0 : decode cL_law 0 = .ok (.bipush 8, 2) := by decide +kernel
theorem dL_law_2 : decode cL_law 2 = .ok (.newarray .int, 2) := by decide +kernel
theorem dL_law_4 : decode cL_law 4 = .ok (.astore_n 1, 1) := by decide +kernel
theorem dL_law_5 : decode cL_law 5 = .ok (.sipush 400, 3) := by decide +kernel
theorem dL_law_8 : decode cL_law 8 = .ok (.newarray .int, 2) := by decide +kernel
theorem dL_law_10 : decode cL_law 10 = .ok (.astore_n 2, 1) := by decide +kernel
theorem dL_law_11 : decode cL_law 11 = .ok (.sipush 400, 3) := by decide +kernel
theorem dL_law_14 : decode cL_law 14 = .ok (.newarray .int, 2) := by decide +kernel
theorem dL_law_16 : decode cL_law 16 = .ok (.astore_n 3, 1) := by decide +kernel
theorem dL_law_17 : decode cL_law 17 = .ok (.iconst 1, 1) := by decide +kernel
theorem dL_law_18 : decode cL_law 18 = .ok (.istore 4, 2) := by decide +kernel
theorem dL_law_20 : decode cL_law 20 = .ok (.iconst 0, 1) := by decide +kernel
theorem dL_law_21 : decode cL_law 21 = .ok (.istore 5, 2) := by decide +kernel
theorem dL_law_23 : decode cL_law 23 = .ok (.iload 5, 2) := by decide +kernel
theorem dL_law_25 : decode cL_law 25 = .ok (.iconst 2, 1) := by decide +kernel
theorem dL_law_26 : decode cL_law 26 = .ok (.if_icmp .ge 167, 3) := by decide +kernel
theorem dL_law_29 : decode cL_law 29 = .ok (.iload 4, 2) := by decide +kernel
theorem dL_law_31 : decode cL_law 31 = .ok (.ifCond .eq 162, 3) := by decide +kernel
theorem dL_law_34 : decode cL_law 34 = .ok (.aload_n 1, 1) := by decide +kernel
theorem dL_law_35 : decode cL_law 35 = .ok (.bipush 7, 2) := by decide +kernel
theorem dL_law_37 : decode cL_law 37 = .ok (.iload 5, 2) := by decide +kernel
theorem dL_law_39 : decode cL_law 39 = .ok (.aload_n 0, 1) := by decide +kernel
theorem dL_law_40 : decode cL_law 40 = .ok (.arraylength, 1) := by decide +kernel
theorem dL_law_41 : decode cL_law 41 = .ok (.if_icmp .ge 10, 3) := by decide +kernel
theorem dL_law_44 : decode cL_law 44 = .ok (.aload_n 0, 1) := by decide +kernel
theorem dL_law_45 : decode cL_law 45 = .ok (.iload 5, 2) := by decide +kernel
theorem dL_law_47 : decode cL_law 47 = .ok (.iaload, 1) := by decide +kernel
theorem dL_law_48 : decode cL_law 48 = .ok (.goto 8, 3) := by decide +kernel
theorem dL_law_51 : decode cL_law 51 = .ok (.bipush 37, 2) := by decide +kernel
theorem dL_law_53 : decode cL_law 53 = .ok (.iload 5, 2) := by decide +kernel
theorem dL_law_55 : decode cL_law 55 = .ok (.imul, 1) := by decide +kernel
theorem dL_law_56 : decode cL_law 56 = .ok (.iastore, 1) := by decide +kernel
theorem dL_law_57 : decode cL_law 57 = .ok (.new 9, 3) := by decide +kernel
theorem dL_law_60 : decode cL_law 60 = .ok (.dup, 1) := by decide +kernel
theorem dL_law_61 : decode cL_law 61 = .ok (.invokespecial 275, 3) := by decide +kernel
theorem dL_law_64 : decode cL_law 64 = .ok (.astore 6, 2) := by decide +kernel
theorem dL_law_66 : decode cL_law 66 = .ok (.aload 6, 2) := by decide +kernel
theorem dL_law_68 : decode cL_law 68 = .ok (.aload_n 1, 1) := by decide +kernel
theorem dL_law_69 : decode cL_law 69 = .ok (.invokestatic 284, 3) := by decide +kernel
theorem dL_law_72 : decode cL_law 72 = .ok (.invokestatic 280, 3) := by decide +kernel
theorem dL_law_75 : decode cL_law 75 = .ok (.ifCond .eq 15, 3) := by decide +kernel
theorem dL_law_78 : decode cL_law 78 = .ok (.aload 6, 2) := by decide +kernel
theorem dL_law_80 : decode cL_law 80 = .ok (.invokestatic 288, 3) := by decide +kernel
theorem dL_law_83 : decode cL_law 83 = .ok (.ifCond .eq 7, 3) := by decide +kernel
theorem dL_law_86 : decode cL_law 86 = .ok (.iconst 1, 1) := by decide +kernel
theorem dL_law_87 : decode cL_law 87 = .ok (.goto 4, 3) := by decide +kernel
theorem dL_law_90 : decode cL_law 90 = .ok (.iconst 0, 1) := by decide +kernel
theorem dL_law_91 : decode cL_law 91 = .ok (.istore 4, 2) := by decide +kernel
theorem dL_law_93 : decode cL_law 93 = .ok (.iconst 0, 1) := by decide +kernel
theorem dL_law_94 : decode cL_law 94 = .ok (.istore 7, 2) := by decide +kernel
theorem dL_law_96 : decode cL_law 96 = .ok (.iload 7, 2) := by decide +kernel
theorem dL_law_98 : decode cL_law 98 = .ok (.bipush 24, 2) := by decide +kernel
theorem dL_law_100 : decode cL_law 100 = .ok (.if_icmp .ge 45, 3) := by decide +kernel
theorem dL_law_103 : decode cL_law 103 = .ok (.iload 4, 2) := by decide +kernel
theorem dL_law_105 : decode cL_law 105 = .ok (.ifCond .eq 40, 3) := by decide +kernel
theorem dL_law_108 : decode cL_law 108 = .ok (.aload 6, 2) := by decide +kernel
theorem dL_law_110 : decode cL_law 110 = .ok (.aload_n 1, 1) := by decide +kernel
theorem dL_law_111 : decode cL_law 111 = .ok (.invokestatic 262, 3) := by decide +kernel
theorem dL_law_114 : decode cL_law 114 = .ok (.istore 8, 2) := by decide +kernel
theorem dL_law_116 : decode cL_law 116 = .ok (.iload 7, 2) := by decide +kernel
theorem dL_law_118 : decode cL_law 118 = .ok (.bipush 8, 2) := by decide +kernel
theorem dL_law_120 : decode cL_law 120 = .ok (.irem, 1) := by decide +kernel
theorem dL_law_121 : decode cL_law 121 = .ok (.ifCond .gt 11, 3) := by decide +kernel
theorem dL_law_124 : decode cL_law 124 = .ok (.aload 6, 2) := by decide +kernel
theorem dL_law_126 : decode cL_law 126 = .ok (.invokestatic 288, 3) := by decide +kernel
theorem dL_law_129 : decode cL_law 129 = .ok (.ifCond .eq 7, 3) := by decide +kernel
theorem dL_law_132 : decode cL_law 132 = .ok (.iconst 1, 1) := by decide +kernel
theorem dL_law_133 : decode cL_law 133 = .ok (.goto 4, 3) := by decide +kernel
theorem dL_law_136 : decode cL_law 136 = .ok (.iconst 0, 1) := by decide +kernel
theorem dL_law_137 : decode cL_law 137 = .ok (.istore 4, 2) := by decide +kernel
theorem dL_law_139 : decode cL_law 139 = .ok (.iinc 7 1, 3) := by decide +kernel
theorem dL_law_142 : decode cL_law 142 = .ok (.goto (-46), 3) := by decide +kernel
theorem dL_law_145 : decode cL_law 145 = .ok (.iload 4, 2) := by decide +kernel
theorem dL_law_147 : decode cL_law 147 = .ok (.ifCond .eq 37, 3) := by decide +kernel
theorem dL_law_150 : decode cL_law 150 = .ok (.aload 6, 2) := by decide +kernel
theorem dL_law_152 : decode cL_law 152 = .ok (.invokestatic 288, 3) := by decide +kernel
theorem dL_law_155 : decode cL_law 155 = .ok (.ifCond .eq 29, 3) := by decide +kernel
theorem dL_law_158 : decode cL_law 158 = .ok (.aload 6, 2) := by decide +kernel
theorem dL_law_160 : decode cL_law 160 = .ok (.aload_n 1, 1) := by decide +kernel
theorem dL_law_161 : decode cL_law 161 = .ok (.aload_n 2, 1) := by decide +kernel
theorem dL_law_162 : decode cL_law 162 = .ok (.aload_n 3, 1) := by decide +kernel
theorem dL_law_163 : decode cL_law 163 = .ok (.invokestatic 292, 3) := by decide +kernel
theorem dL_law_166 : decode cL_law 166 = .ok (.ifCond .eq 18, 3) := by decide +kernel
theorem dL_law_169 : decode cL_law 169 = .ok (.aload 6, 2) := by decide +kernel
theorem dL_law_171 : decode cL_law 171 = .ok (.aload_n 1, 1) := by decide +kernel
theorem dL_law_172 : decode cL_law 172 = .ok (.aload_n 2, 1) := by decide +kernel
theorem dL_law_173 : decode cL_law 173 = .ok (.aload_n 3, 1) := by decide +kernel
theorem dL_law_174 : decode cL_law 174 = .ok (.invokestatic 295, 3) := by decide +kernel
theorem dL_law_177 : decode cL_law 177 = .ok (.ifCond .eq 7, 3) := by decide +kernel
theorem dL_law_180 : decode cL_law 180 = .ok (.iconst 1, 1) := by decide +kernel
theorem dL_law_181 : decode cL_law 181 = .ok (.goto 4, 3) := by decide +kernel
theorem dL_law_184 : decode cL_law 184 = .ok (.iconst 0, 1) := by decide +kernel
theorem dL_law_185 : decode cL_law 185 = .ok (.istore 4, 2) := by decide +kernel
theorem dL_law_187 : decode cL_law 187 = .ok (.iinc 5 1, 3) := by decide +kernel
theorem dL_law_190 : decode cL_law 190 = .ok (.goto (-167), 3) := by decide +kernel
theorem dL_law_193 : decode cL_law 193 = .ok (.iload 4, 2) := by decide +kernel
theorem dL_law_195 : decode cL_law 195 = .ok (.ireturn, 1) := by decide +kernel
