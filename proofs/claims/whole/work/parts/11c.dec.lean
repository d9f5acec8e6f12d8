/-! decoded instructions -/
theorem dX9_init_0 : decode cX9_init 0 = .ok (.aload_n 0, 1) := by decide +kernel
theorem dX9_init_1 : decode cX9_init 1 = .ok (.invokespecial 1, 3) := by decide +kernel
theorem dX9_init_4 : decode cX9_init 4 = .ok (.aload_n 0, 1) := by decide +kernel
theorem dX9_init_5 : decode cX9_init 5 = .ok (.bipush 20, 2) := by decide +kernel
theorem dX9_init_7 : decode cX9_init 7 = .ok (.newarray .int, 2) := by decide +kernel
theorem dX9_init_9 : decode cX9_init 9 = .ok (.putfield 7, 3) := by decide +kernel
theorem dX9_init_12 : decode cX9_init 12 = .ok (.aload_n 0, 1) := by decide +kernel
theorem dX9_init_13 : decode cX9_init 13 = .ok (.bipush 20, 2) := by decide +kernel
theorem dX9_init_15 : decode cX9_init 15 = .ok (.newarray .int, 2) := by decide +kernel
theorem dX9_init_17 : decode cX9_init 17 = .ok (.putfield 13, 3) := by decide +kernel
theorem dX9_init_20 : decode cX9_init 20 = .ok (.aload_n 0, 1) := by decide +kernel
theorem dX9_init_21 : decode cX9_init 21 = .ok (.bipush 20, 2) := by decide +kernel
theorem dX9_init_23 : decode cX9_init 23 = .ok (.newarray .int, 2) := by decide +kernel
theorem dX9_init_25 : decode cX9_init 25 = .ok (.putfield 16, 3) := by decide +kernel
theorem dX9_init_28 : decode cX9_init 28 = .ok (.aload_n 0, 1) := by decide +kernel
theorem dX9_init_29 : decode cX9_init 29 = .ok (.bipush 20, 2) := by decide +kernel
theorem dX9_init_31 : decode cX9_init 31 = .ok (.newarray .int, 2) := by decide +kernel
theorem dX9_init_33 : decode cX9_init 33 = .ok (.putfield 19, 3) := by decide +kernel
theorem dX9_init_36 : decode cX9_init 36 = .ok (.aload_n 0, 1) := by decide +kernel
theorem dX9_init_37 : decode cX9_init 37 = .ok (.bipush 20, 2) := by decide +kernel
theorem dX9_init_39 : decode cX9_init 39 = .ok (.newarray .int, 2) := by decide +kernel
theorem dX9_init_41 : decode cX9_init 41 = .ok (.putfield 22, 3) := by decide +kernel
theorem dX9_init_44 : decode cX9_init 44 = .ok (.aload_n 0, 1) := by decide +kernel
theorem dX9_init_45 : decode cX9_init 45 = .ok (.bipush 20, 2) := by decide +kernel
theorem dX9_init_47 : decode cX9_init 47 = .ok (.newarray .int, 2) := by decide +kernel
theorem dX9_init_49 : decode cX9_init 49 = .ok (.putfield 25, 3) := by decide +kernel
theorem dX9_init_52 : decode cX9_init 52 = .ok (.aload_n 0, 1) := by decide +kernel
theorem dX9_init_53 : decode cX9_init 53 = .ok (.sipush 160, 3) := by decide +kernel
theorem dX9_init_56 : decode cX9_init 56 = .ok (.newarray .int, 2) := by decide +kernel
theorem dX9_init_58 : decode cX9_init 58 = .ok (.putfield 28, 3) := by decide +kernel
theorem dX9_init_61 : decode cX9_init 61 = .ok (.aload_n 0, 1) := by decide +kernel
theorem dX9_init_62 : decode cX9_init 62 = .ok (.sipush 160, 3) := by decide +kernel
theorem dX9_init_65 : decode cX9_init 65 = .ok (.newarray .int, 2) := by decide +kernel
theorem dX9_init_67 : decode cX9_init 67 = .ok (.putfield 31, 3) := by decide +kernel
theorem dX9_init_70 : decode cX9_init 70 = .ok (.aload_n 0, 1) := by decide +kernel
theorem dX9_init_71 : decode cX9_init 71 = .ok (.sipush 160, 3) := by decide +kernel
theorem dX9_init_74 : decode cX9_init 74 = .ok (.newarray .int, 2) := by decide +kernel
theorem dX9_init_76 : decode cX9_init 76 = .ok (.putfield 34, 3) := by decide +kernel
theorem dX9_init_79 : decode cX9_init 79 = .ok (.aload_n 0, 1) := by decide +kernel
theorem dX9_init_80 : decode cX9_init 80 = .ok (.sipush 160, 3) := by decide +kernel
theorem dX9_init_83 : decode cX9_init 83 = .ok (.newarray .int, 2) := by decide +kernel
theorem dX9_init_85 : decode cX9_init 85 = .ok (.putfield 37, 3) := by decide +kernel
theorem dX9_init_88 : decode cX9_init 88 = .ok (.aload_n 0, 1) := by decide +kernel
theorem dX9_init_89 : decode cX9_init 89 = .ok (.sipush 720, 3) := by decide +kernel
theorem dX9_init_92 : decode cX9_init 92 = .ok (.newarray .int, 2) := by decide +kernel
theorem dX9_init_94 : decode cX9_init 94 = .ok (.putfield 40, 3) := by decide +kernel
theorem dX9_init_97 : decode cX9_init 97 = .ok (.aload_n 0, 1) := by decide +kernel
theorem dX9_init_98 : decode cX9_init 98 = .ok (.sipush 720, 3) := by decide +kernel
theorem dX9_init_101 : decode cX9_init 101 = .ok (.newarray .int, 2) := by decide +kernel
theorem dX9_init_103 : decode cX9_init 103 = .ok (.putfield 43, 3) := by decide +kernel
theorem dX9_init_106 : decode cX9_init 106 = .ok (.aload_n 0, 1) := by decide +kernel
theorem dX9_init_107 : decode cX9_init 107 = .ok (.sipush 720, 3) := by decide +kernel
theorem dX9_init_110 : decode cX9_init 110 = .ok (.newarray .int, 2) := by decide +kernel
theorem dX9_init_112 : decode cX9_init 112 = .ok (.putfield 46, 3) := by decide +kernel
theorem dX9_init_115 : decode cX9_init 115 = .ok (.aload_n 0, 1) := by decide +kernel
theorem dX9_init_116 : decode cX9_init 116 = .ok (.bipush 6, 2) := by decide +kernel
theorem dX9_init_118 : decode cX9_init 118 = .ok (.newarray .int, 2) := by decide +kernel
theorem dX9_init_120 : decode cX9_init 120 = .ok (.putfield 49, 3) := by decide +kernel
theorem dX9_init_123 : decode cX9_init 123 = .ok (.aload_n 0, 1) := by decide +kernel
theorem dX9_init_124 : decode cX9_init 124 = .ok (.bipush 6, 2) := by decide +kernel
theorem dX9_init_126 : decode cX9_init 126 = .ok (.newarray .int, 2) := by decide +kernel
theorem dX9_init_128 : decode cX9_init 128 = .ok (.putfield 52, 3) := by decide +kernel
theorem dX9_init_131 : decode cX9_init 131 = .ok (.aload_n 0, 1) := by decide +kernel
theorem dX9_init_132 : decode cX9_init 132 = .ok (.bipush 6, 2) := by decide +kernel
theorem dX9_init_134 : decode cX9_init 134 = .ok (.newarray .int, 2) := by decide +kernel
theorem dX9_init_136 : decode cX9_init 136 = .ok (.putfield 55, 3) := by decide +kernel
theorem dX9_init_139 : decode cX9_init 139 = .ok (.aload_n 0, 1) := by decide +kernel
theorem dX9_init_140 : decode cX9_init 140 = .ok (.bipush 6, 2) := by decide +kernel
theorem dX9_init_142 : decode cX9_init 142 = .ok (.newarray .int, 2) := by decide +kernel
theorem dX9_init_144 : decode cX9_init 144 = .ok (.putfield 58, 3) := by decide +kernel
theorem dX9_init_147 : decode cX9_init 147 = .ok (.aload_n 0, 1) := by decide +kernel
theorem dX9_init_148 : decode cX9_init 148 = .ok (.bipush 6, 2) := by decide +kernel
theorem dX9_init_150 : decode cX9_init 150 = .ok (.newarray .int, 2) := by decide +kernel
theorem dX9_init_152 : decode cX9_init 152 = .ok (.putfield 61, 3) := by decide +kernel
theorem dX9_init_155 : decode cX9_init 155 = .ok (.aload_n 0, 1) := by decide +kernel
theorem dX9_init_156 : decode cX9_init 156 = .ok (.bipush 12, 2) := by decide +kernel
theorem dX9_init_158 : decode cX9_init 158 = .ok (.newarray .int, 2) := by decide +kernel
theorem dX9_init_160 : decode cX9_init 160 = .ok (.putfield 64, 3) := by decide +kernel
theorem dX9_init_163 : decode cX9_init 163 = .ok (.aload_n 0, 1) := by decide +kernel
theorem dX9_init_164 : decode cX9_init 164 = .ok (.bipush 12, 2) := by decide +kernel
theorem dX9_init_166 : decode cX9_init 166 = .ok (.newarray .int, 2) := by decide +kernel
theorem dX9_init_168 : decode cX9_init 168 = .ok (.putfield 67, 3) := by decide +kernel
theorem dX9_init_171 : decode cX9_init 171 = .ok (.aload_n 0, 1) := by decide +kernel
theorem dX9_init_172 : decode cX9_init 172 = .ok (.bipush 12, 2) := by decide +kernel
theorem dX9_init_174 : decode cX9_init 174 = .ok (.newarray .int, 2) := by decide +kernel
theorem dX9_init_176 : decode cX9_init 176 = .ok (.putfield 70, 3) := by decide +kernel
theorem dX9_init_179 : decode cX9_init 179 = .ok (.aload_n 0, 1) := by decide +kernel
theorem dX9_init_180 : decode cX9_init 180 = .ok (.bipush 48, 2) := by decide +kernel
theorem dX9_init_182 : decode cX9_init 182 = .ok (.newarray .int, 2) := by decide +kernel
theorem dX9_init_184 : decode cX9_init 184 = .ok (.putfield 73, 3) := by decide +kernel
theorem dX9_init_187 : decode cX9_init 187 = .ok (.aload_n 0, 1) := by decide +kernel
theorem dX9_init_188 : decode cX9_init 188 = .ok (.bipush 8, 2) := by decide +kernel
theorem dX9_init_190 : decode cX9_init 190 = .ok (.newarray .int, 2) := by decide +kernel
theorem dX9_init_192 : decode cX9_init 192 = .ok (.putfield 76, 3) := by decide +kernel
theorem dX9_init_195 : decode cX9_init 195 = .ok (.aload_n 0, 1) := by decide +kernel
theorem dX9_init_196 : decode cX9_init 196 = .ok (.bipush 8, 2) := by decide +kernel
theorem dX9_init_198 : decode cX9_init 198 = .ok (.newarray .int, 2) := by decide +kernel
theorem dX9_init_200 : decode cX9_init 200 = .ok (.putfield 79, 3) := by decide +kernel
theorem dX9_init_203 : decode cX9_init 203 = .ok (.aload_n 0, 1) := by decide +kernel
theorem dX9_init_204 : decode cX9_init 204 = .ok (.bipush 96, 2) := by decide +kernel
theorem dX9_init_206 : decode cX9_init 206 = .ok (.newarray .int, 2) := by decide +kernel
theorem dX9_init_208 : decode cX9_init 208 = .ok (.putfield 82, 3) := by decide +kernel
theorem dX9_init_211 : decode cX9_init 211 = .ok (.aload_n 0, 1) := by decide +kernel
theorem dX9_init_212 : decode cX9_init 212 = .ok (.bipush 6, 2) := by decide +kernel
theorem dX9_init_214 : decode cX9_init 214 = .ok (.newarray .int, 2) := by decide +kernel
theorem dX9_init_216 : decode cX9_init 216 = .ok (.putfield 85, 3) := by decide +kernel
theorem dX9_init_219 : decode cX9_init 219 = .ok (.aload_n 0, 1) := by decide +kernel
theorem dX9_init_220 : decode cX9_init 220 = .ok (.bipush 6, 2) := by decide +kernel
theorem dX9_init_222 : decode cX9_init 222 = .ok (.newarray .int, 2) := by decide +kernel
theorem dX9_init_224 : decode cX9_init 224 = .ok (.putfield 88, 3) := by decide +kernel
theorem dX9_init_227 : decode cX9_init 227 = .ok (.aload_n 0, 1) := by decide +kernel
theorem dX9_init_228 : decode cX9_init 228 = .ok (.bipush 6, 2) := by decide +kernel
theorem dX9_init_230 : decode cX9_init 230 = .ok (.newarray .int, 2) := by decide +kernel
theorem dX9_init_232 : decode cX9_init 232 = .ok (.putfield 91, 3) := by decide +kernel
theorem dX9_init_235 : decode cX9_init 235 = .ok (.return_, 1) := by decide +kernel
theorem dX9_thrown_0 : decode cX9_thrown 0 = .ok (.aload_n 0, 1) := by decide +kernel
theorem dX9_thrown_1 : decode cX9_thrown 1 = .ok (.getfield 94, 3) := by decide +kernel
theorem dX9_thrown_4 : decode cX9_thrown 4 = .ok (.ireturn, 1) := by decide +kernel
theorem dX9_fails_0 : decode cX9_fails 0 = .ok (.aload_n 0, 1) := by decide +kernel
theorem dX9_fails_1 : decode cX9_fails 1 = .ok (.iload_n 1, 1) := by decide +kernel
theorem dX9_fails_2 : decode cX9_fails 2 = .ok (.putfield 94, 3) := by decide +kernel
theorem dX9_fails_5 : decode cX9_fails 5 = .ok (.iconst 0, 1) := by decide +kernel
theorem dX9_fails_6 : decode cX9_fails 6 = .ok (.ireturn, 1) := by decide +kernel
theorem dX9_tell_0 : decode cX9_tell 0 = .ok (.aload_n 0, 1) := by decide +kernel
theorem dX9_tell_1 : decode cX9_tell 1 = .ok (.iconst 0, 1) := by decide +kernel
theorem dX9_tell_2 : decode cX9_tell 2 = .ok (.putfield 94, 3) := by decide +kernel
theorem dX9_tell_5 : decode cX9_tell 5 = .ok (.iload_n 1, 1) := by decide +kernel
theorem dX9_tell_6 : decode cX9_tell 6 = .ok (.ireturn, 1) := by decide +kernel
theorem dX9_refuses_0 : decode cX9_refuses 0 = .ok (.aload_n 0, 1) := by decide +kernel
theorem dX9_refuses_1 : decode cX9_refuses 1 = .ok (.iload_n 1, 1) := by decide +kernel
theorem dX9_refuses_2 : decode cX9_refuses 2 = .ok (.putfield 94, 3) := by decide +kernel
theorem dX9_refuses_5 : decode cX9_refuses 5 = .ok (.iconst 0, 1) := by decide +kernel
theorem dX9_refuses_6 : decode cX9_refuses 6 = .ok (.ireturn, 1) := by decide +kernel
theorem dX9_tells_0 : decode cX9_tells 0 = .ok (.aload_n 0, 1) := by decide +kernel
theorem dX9_tells_1 : decode cX9_tells 1 = .ok (.iconst 0, 1) := by decide +kernel
theorem dX9_tells_2 : decode cX9_tells 2 = .ok (.putfield 94, 3) := by decide +kernel
theorem dX9_tells_5 : decode cX9_tells 5 = .ok (.iload_n 1, 1) := by decide +kernel
theorem dX9_tells_6 : decode cX9_tells 6 = .ok (.ireturn, 1) := by decide +kernel
theorem dX9_letter_0 : decode cX9_letter 0 = .ok (.aload_n 0, 1) := by decide +kernel
theorem dX9_letter_1 : decode cX9_letter 1 = .ok (.iconst 0, 1) := by decide +kernel
theorem dX9_letter_2 : decode cX9_letter 2 = .ok (.putfield 94, 3) := by decide +kernel
theorem dX9_letter_5 : decode cX9_letter 5 = .ok (.iload_n 1, 1) := by decide +kernel
theorem dX9_letter_6 : decode cX9_letter 6 = .ok (.i2c, 1) := by decide +kernel
theorem dX9_letter_7 : decode cX9_letter 7 = .ok (.ireturn, 1) := by decide +kernel
theorem dX9_noLetter_0 : decode cX9_noLetter 0 = .ok (.aload_n 0, 1) := by decide +kernel
theorem dX9_noLetter_1 : decode cX9_noLetter 1 = .ok (.iload_n 1, 1) := by decide +kernel
theorem dX9_noLetter_2 : decode cX9_noLetter 2 = .ok (.putfield 94, 3) := by decide +kernel
theorem dX9_noLetter_5 : decode cX9_noLetter 5 = .ok (.iconst 0, 1) := by decide +kernel
theorem dX9_noLetter_6 : decode cX9_noLetter 6 = .ok (.ireturn, 1) := by decide +kernel
theorem dX9_in_0 : decode cX9_in 0 = .ok (.iload_n 0, 1) := by decide +kernel
theorem dX9_in_1 : decode cX9_in 1 = .ok (.iload_n 1, 1) := by decide +kernel
theorem dX9_in_2 : decode cX9_in 2 = .ok (.if_icmp .lt 12, 3) := by decide +kernel
theorem dX9_in_5 : decode cX9_in 5 = .ok (.iload_n 0, 1) := by decide +kernel
theorem dX9_in_6 : decode cX9_in 6 = .ok (.iload_n 2, 1) := by decide +kernel
theorem dX9_in_7 : decode cX9_in 7 = .ok (.if_icmp .gt 7, 3) := by decide +kernel
theorem dX9_in_10 : decode cX9_in 10 = .ok (.iconst 1, 1) := by decide +kernel
theorem dX9_in_11 : decode cX9_in 11 = .ok (.goto 4, 3) := by decide +kernel
theorem dX9_in_14 : decode cX9_in 14 = .ok (.iconst 0, 1) := by decide +kernel
theorem dX9_in_15 : decode cX9_in 15 = .ok (.ireturn, 1) := by decide +kernel
theorem dX9_isOn_0 : decode cX9_isOn 0 = .ok (.iload_n 1, 1) := by decide +kernel
theorem dX9_isOn_1 : decode cX9_isOn 1 = .ok (.ifCond .lt 16, 3) := by decide +kernel
theorem dX9_isOn_4 : decode cX9_isOn 4 = .ok (.iload_n 0, 1) := by decide +kernel
theorem dX9_isOn_5 : decode cX9_isOn 5 = .ok (.iload_n 1, 1) := by decide +kernel
theorem dX9_isOn_6 : decode cX9_isOn 6 = .ok (.ishr, 1) := by decide +kernel
theorem dX9_isOn_7 : decode cX9_isOn 7 = .ok (.iconst 1, 1) := by decide +kernel
theorem dX9_isOn_8 : decode cX9_isOn 8 = .ok (.iand, 1) := by decide +kernel
theorem dX9_isOn_9 : decode cX9_isOn 9 = .ok (.iconst 1, 1) := by decide +kernel
theorem dX9_isOn_10 : decode cX9_isOn 10 = .ok (.if_icmp .ne 7, 3) := by decide +kernel
theorem dX9_isOn_13 : decode cX9_isOn 13 = .ok (.iconst 1, 1) := by decide +kernel
theorem dX9_isOn_14 : decode cX9_isOn 14 = .ok (.goto 4, 3) := by decide +kernel
theorem dX9_isOn_17 : decode cX9_isOn 17 = .ok (.iconst 0, 1) := by decide +kernel
theorem dX9_isOn_18 : decode cX9_isOn 18 = .ok (.ireturn, 1) := by decide +kernel
theorem dX9_lowest_0 : decode cX9_lowest 0 = .ok (.iconst 0, 1) := by decide +kernel
theorem dX9_lowest_1 : decode cX9_lowest 1 = .ok (.istore_n 1, 1) := by decide +kernel
theorem dX9_lowest_2 : decode cX9_lowest 2 = .ok (.iload_n 0, 1) := by decide +kernel
theorem dX9_lowest_3 : decode cX9_lowest 3 = .ok (.iload_n 1, 1) := by decide +kernel
theorem dX9_lowest_4 : decode cX9_lowest 4 = .ok (.invokestatic 98, 3) := by decide +kernel
theorem dX9_lowest_7 : decode cX9_lowest 7 = .ok (.ifCond .ne 9, 3) := by decide +kernel
theorem dX9_lowest_10 : decode cX9_lowest 10 = .ok (.iinc 1 1, 3) := by decide +kernel
theorem dX9_lowest_13 : decode cX9_lowest 13 = .ok (.goto (-11), 3) := by decide +kernel
theorem dX9_lowest_16 : decode cX9_lowest 16 = .ok (.iload_n 1, 1) := by decide +kernel
theorem dX9_lowest_17 : decode cX9_lowest 17 = .ok (.ireturn, 1) := by decide +kernel
theorem dX9_highest_0 : decode cX9_highest 0 = .ok (.bipush 6, 2) := by decide +kernel
theorem dX9_highest_2 : decode cX9_highest 2 = .ok (.istore_n 1, 1) := by decide +kernel
theorem dX9_highest_3 : decode cX9_highest 3 = .ok (.iload_n 1, 1) := by decide +kernel
theorem dX9_highest_4 : decode cX9_highest 4 = .ok (.ifCond .lt 17, 3) := by decide +kernel
theorem dX9_highest_7 : decode cX9_highest 7 = .ok (.iload_n 0, 1) := by decide +kernel
theorem dX9_highest_8 : decode cX9_highest 8 = .ok (.iload_n 1, 1) := by decide +kernel
theorem dX9_highest_9 : decode cX9_highest 9 = .ok (.invokestatic 98, 3) := by decide +kernel
theorem dX9_highest_12 : decode cX9_highest 12 = .ok (.ifCond .ne 9, 3) := by decide +kernel
theorem dX9_highest_15 : decode cX9_highest 15 = .ok (.iinc 1 (-1), 3) := by decide +kernel
theorem dX9_highest_18 : decode cX9_highest 18 = .ok (.goto (-15), 3) := by decide +kernel
theorem dX9_highest_21 : decode cX9_highest 21 = .ok (.iload_n 1, 1) := by decide +kernel
theorem dX9_highest_22 : decode cX9_highest 22 = .ok (.ireturn, 1) := by decide +kernel
theorem dX9_size_0 : decode cX9_size 0 = .ok (.iconst 0, 1) := by decide +kernel
theorem dX9_size_1 : decode cX9_size 1 = .ok (.istore_n 1, 1) := by decide +kernel
theorem dX9_size_2 : decode cX9_size 2 = .ok (.iconst 0, 1) := by decide +kernel
theorem dX9_size_3 : decode cX9_size 3 = .ok (.istore_n 2, 1) := by decide +kernel
theorem dX9_size_4 : decode cX9_size 4 = .ok (.iload_n 2, 1) := by decide +kernel
theorem dX9_size_5 : decode cX9_size 5 = .ok (.bipush 6, 2) := by decide +kernel
theorem dX9_size_7 : decode cX9_size 7 = .ok (.if_icmp .gt 17, 3) := by decide +kernel
theorem dX9_size_10 : decode cX9_size 10 = .ok (.iload_n 1, 1) := by decide +kernel
theorem dX9_size_11 : decode cX9_size 11 = .ok (.iload_n 0, 1) := by decide +kernel
theorem dX9_size_12 : decode cX9_size 12 = .ok (.iload_n 2, 1) := by decide +kernel
theorem dX9_size_13 : decode cX9_size 13 = .ok (.ishr, 1) := by decide +kernel
theorem dX9_size_14 : decode cX9_size 14 = .ok (.iconst 1, 1) := by decide +kernel
theorem dX9_size_15 : decode cX9_size 15 = .ok (.iand, 1) := by decide +kernel
theorem dX9_size_16 : decode cX9_size 16 = .ok (.iadd, 1) := by decide +kernel
theorem dX9_size_17 : decode cX9_size 17 = .ok (.istore_n 1, 1) := by decide +kernel
theorem dX9_size_18 : decode cX9_size 18 = .ok (.iinc 2 1, 3) := by decide +kernel
theorem dX9_size_21 : decode cX9_size 21 = .ok (.goto (-17), 3) := by decide +kernel
theorem dX9_size_24 : decode cX9_size 24 = .ok (.iload_n 1, 1) := by decide +kernel
theorem dX9_size_25 : decode cX9_size 25 = .ok (.ireturn, 1) := by decide +kernel
theorem dX9_all_0 : decode cX9_all 0 = .ok (.iconst 1, 1) := by decide +kernel
theorem dX9_all_1 : decode cX9_all 1 = .ok (.aload_n 0, 1) := by decide +kernel
theorem dX9_all_2 : decode cX9_all 2 = .ok (.getfield 7, 3) := by decide +kernel
theorem dX9_all_5 : decode cX9_all 5 = .ok (.aload_n 0, 1) := by decide +kernel
theorem dX9_all_6 : decode cX9_all 6 = .ok (.getfield 102, 3) := by decide +kernel
theorem dX9_all_9 : decode cX9_all 9 = .ok (.iaload, 1) := by decide +kernel
theorem dX9_all_10 : decode cX9_all 10 = .ok (.ishl, 1) := by decide +kernel
theorem dX9_all_11 : decode cX9_all 11 = .ok (.iconst 1, 1) := by decide +kernel
theorem dX9_all_12 : decode cX9_all 12 = .ok (.isub, 1) := by decide +kernel
theorem dX9_all_13 : decode cX9_all 13 = .ok (.ireturn, 1) := by decide +kernel
theorem dX9_takes_0 : decode cX9_takes 0 = .ok (.aload_n 0, 1) := by decide +kernel
theorem dX9_takes_1 : decode cX9_takes 1 = .ok (.getfield 85, 3) := by decide +kernel
theorem dX9_takes_4 : decode cX9_takes 4 = .ok (.iload_n 1, 1) := by decide +kernel
theorem dX9_takes_5 : decode cX9_takes 5 = .ok (.iaload, 1) := by decide +kernel
theorem dX9_takes_6 : decode cX9_takes 6 = .ok (.iload_n 2, 1) := by decide +kernel
theorem dX9_takes_7 : decode cX9_takes 7 = .ok (.iand, 1) := by decide +kernel
theorem dX9_takes_8 : decode cX9_takes 8 = .ok (.istore_n 3, 1) := by decide +kernel
theorem dX9_takes_9 : decode cX9_takes 9 = .ok (.aload_n 0, 1) := by decide +kernel
theorem dX9_takes_10 : decode cX9_takes 10 = .ok (.getfield 85, 3) := by decide +kernel
theorem dX9_takes_13 : decode cX9_takes 13 = .ok (.iload_n 1, 1) := by decide +kernel
theorem dX9_takes_14 : decode cX9_takes 14 = .ok (.dup2, 1) := by decide +kernel
theorem dX9_takes_15 : decode cX9_takes 15 = .ok (.iaload, 1) := by decide +kernel
theorem dX9_takes_16 : decode cX9_takes 16 = .ok (.iload_n 2, 1) := by decide +kernel
theorem dX9_takes_17 : decode cX9_takes 17 = .ok (.iconst (-1), 1) := by decide +kernel
theorem dX9_takes_18 : decode cX9_takes 18 = .ok (.ixor, 1) := by decide +kernel
theorem dX9_takes_19 : decode cX9_takes 19 = .ok (.iand, 1) := by decide +kernel
theorem dX9_takes_20 : decode cX9_takes 20 = .ok (.iastore, 1) := by decide +kernel
theorem dX9_takes_21 : decode cX9_takes 21 = .ok (.iload_n 3, 1) := by decide +kernel
theorem dX9_takes_22 : decode cX9_takes 22 = .ok (.invokestatic 105, 3) := by decide +kernel
theorem dX9_takes_25 : decode cX9_takes 25 = .ok (.ireturn, 1) := by decide +kernel
theorem dX9_isEmpty_0 : decode cX9_isEmpty 0 = .ok (.iconst 0, 1) := by decide +kernel
theorem dX9_isEmpty_1 : decode cX9_isEmpty 1 = .ok (.istore_n 1, 1) := by decide +kernel
theorem dX9_isEmpty_2 : decode cX9_isEmpty 2 = .ok (.iconst 0, 1) := by decide +kernel
theorem dX9_isEmpty_3 : decode cX9_isEmpty 3 = .ok (.istore_n 2, 1) := by decide +kernel
theorem dX9_isEmpty_4 : decode cX9_isEmpty 4 = .ok (.iload_n 2, 1) := by decide +kernel
theorem dX9_isEmpty_5 : decode cX9_isEmpty 5 = .ok (.aload_n 0, 1) := by decide +kernel
theorem dX9_isEmpty_6 : decode cX9_isEmpty 6 = .ok (.getfield 7, 3) := by decide +kernel
theorem dX9_isEmpty_9 : decode cX9_isEmpty 9 = .ok (.aload_n 0, 1) := by decide +kernel
theorem dX9_isEmpty_10 : decode cX9_isEmpty 10 = .ok (.getfield 102, 3) := by decide +kernel
theorem dX9_isEmpty_13 : decode cX9_isEmpty 13 = .ok (.iaload, 1) := by decide +kernel
theorem dX9_isEmpty_14 : decode cX9_isEmpty 14 = .ok (.if_icmp .ge 28, 3) := by decide +kernel
theorem dX9_isEmpty_17 : decode cX9_isEmpty 17 = .ok (.iload_n 1, 1) := by decide +kernel
theorem dX9_isEmpty_18 : decode cX9_isEmpty 18 = .ok (.ifCond .ne 12, 3) := by decide +kernel
theorem dX9_isEmpty_21 : decode cX9_isEmpty 21 = .ok (.aload_n 0, 1) := by decide +kernel
theorem dX9_isEmpty_22 : decode cX9_isEmpty 22 = .ok (.getfield 85, 3) := by decide +kernel
theorem dX9_isEmpty_25 : decode cX9_isEmpty 25 = .ok (.iload_n 2, 1) := by decide +kernel
theorem dX9_isEmpty_26 : decode cX9_isEmpty 26 = .ok (.iaload, 1) := by decide +kernel
theorem dX9_isEmpty_27 : decode cX9_isEmpty 27 = .ok (.ifCond .ne 7, 3) := by decide +kernel
theorem dX9_isEmpty_30 : decode cX9_isEmpty 30 = .ok (.iconst 1, 1) := by decide +kernel
theorem dX9_isEmpty_31 : decode cX9_isEmpty 31 = .ok (.goto 4, 3) := by decide +kernel
theorem dX9_isEmpty_34 : decode cX9_isEmpty 34 = .ok (.iconst 0, 1) := by decide +kernel
theorem dX9_isEmpty_35 : decode cX9_isEmpty 35 = .ok (.istore_n 1, 1) := by decide +kernel
theorem dX9_isEmpty_36 : decode cX9_isEmpty 36 = .ok (.iinc 2 1, 3) := by decide +kernel
theorem dX9_isEmpty_39 : decode cX9_isEmpty 39 = .ok (.goto (-35), 3) := by decide +kernel
theorem dX9_isEmpty_42 : decode cX9_isEmpty 42 = .ok (.iload_n 1, 1) := by decide +kernel
theorem dX9_isEmpty_43 : decode cX9_isEmpty 43 = .ok (.ireturn, 1) := by decide +kernel
theorem dX9_near_0 : decode cX9_near 0 = .ok (.iload_n 2, 1) := by decide +kernel
theorem dX9_near_1 : decode cX9_near 1 = .ok (.ifCond .eq 9, 3) := by decide +kernel
theorem dX9_near_4 : decode cX9_near 4 = .ok (.iload_n 0, 1) := by decide +kernel
theorem dX9_near_5 : decode cX9_near 5 = .ok (.iload_n 1, 1) := by decide +kernel
theorem dX9_near_6 : decode cX9_near 6 = .ok (.ishr, 1) := by decide +kernel
theorem dX9_near_7 : decode cX9_near 7 = .ok (.goto 4, 3) := by decide +kernel
theorem dX9_near_10 : decode cX9_near 10 = .ok (.iconst 0, 1) := by decide +kernel
theorem dX9_near_11 : decode cX9_near 11 = .ok (.iload_n 3, 1) := by decide +kernel
theorem dX9_near_12 : decode cX9_near 12 = .ok (.ifCond .eq 9, 3) := by decide +kernel
theorem dX9_near_15 : decode cX9_near 15 = .ok (.iload_n 0, 1) := by decide +kernel
theorem dX9_near_16 : decode cX9_near 16 = .ok (.iload_n 1, 1) := by decide +kernel
theorem dX9_near_17 : decode cX9_near 17 = .ok (.ishl, 1) := by decide +kernel
theorem dX9_near_18 : decode cX9_near 18 = .ok (.goto 4, 3) := by decide +kernel
theorem dX9_near_21 : decode cX9_near 21 = .ok (.iconst 0, 1) := by decide +kernel
theorem dX9_near_22 : decode cX9_near 22 = .ok (.ior, 1) := by decide +kernel
theorem dX9_near_23 : decode cX9_near 23 = .ok (.ireturn, 1) := by decide +kernel
theorem dX9_both_0 : decode cX9_both 0 = .ok (.aload_n 0, 1) := by decide +kernel
theorem dX9_both_1 : decode cX9_both 1 = .ok (.iload_n 1, 1) := by decide +kernel
theorem dX9_both_2 : decode cX9_both 2 = .ok (.aload_n 0, 1) := by decide +kernel
theorem dX9_both_3 : decode cX9_both 3 = .ok (.getfield 85, 3) := by decide +kernel
theorem dX9_both_6 : decode cX9_both 6 = .ok (.iload_n 2, 1) := by decide +kernel
theorem dX9_both_7 : decode cX9_both 7 = .ok (.iaload, 1) := by decide +kernel
theorem dX9_both_8 : decode cX9_both 8 = .ok (.iload_n 3, 1) := by decide +kernel
theorem dX9_both_9 : decode cX9_both 9 = .ok (.iload 4, 2) := by decide +kernel
theorem dX9_both_11 : decode cX9_both 11 = .ok (.iload 5, 2) := by decide +kernel
theorem dX9_both_13 : decode cX9_both 13 = .ok (.invokestatic 109, 3) := by decide +kernel
theorem dX9_both_16 : decode cX9_both 16 = .ok (.iconst (-1), 1) := by decide +kernel
theorem dX9_both_17 : decode cX9_both 17 = .ok (.ixor, 1) := by decide +kernel
theorem dX9_both_18 : decode cX9_both 18 = .ok (.invokevirtual 113, 3) := by decide +kernel
theorem dX9_both_21 : decode cX9_both 21 = .ok (.istore 6, 2) := by decide +kernel
theorem dX9_both_23 : decode cX9_both 23 = .ok (.iload 6, 2) := by decide +kernel
theorem dX9_both_25 : decode cX9_both 25 = .ok (.aload_n 0, 1) := by decide +kernel
theorem dX9_both_26 : decode cX9_both 26 = .ok (.iload_n 2, 1) := by decide +kernel
theorem dX9_both_27 : decode cX9_both 27 = .ok (.aload_n 0, 1) := by decide +kernel
theorem dX9_both_28 : decode cX9_both 28 = .ok (.getfield 85, 3) := by decide +kernel
theorem dX9_both_31 : decode cX9_both 31 = .ok (.iload_n 1, 1) := by decide +kernel
theorem dX9_both_32 : decode cX9_both 32 = .ok (.iaload, 1) := by decide +kernel
theorem dX9_both_33 : decode cX9_both 33 = .ok (.iload_n 3, 1) := by decide +kernel
theorem dX9_both_34 : decode cX9_both 34 = .ok (.iload 5, 2) := by decide +kernel
theorem dX9_both_36 : decode cX9_both 36 = .ok (.iload 4, 2) := by decide +kernel
theorem dX9_both_38 : decode cX9_both 38 = .ok (.invokestatic 109, 3) := by decide +kernel
theorem dX9_both_41 : decode cX9_both 41 = .ok (.iconst (-1), 1) := by decide +kernel
theorem dX9_both_42 : decode cX9_both 42 = .ok (.ixor, 1) := by decide +kernel
theorem dX9_both_43 : decode cX9_both 43 = .ok (.invokevirtual 113, 3) := by decide +kernel
theorem dX9_both_46 : decode cX9_both 46 = .ok (.iadd, 1) := by decide +kernel
theorem dX9_both_47 : decode cX9_both 47 = .ok (.ireturn, 1) := by decide +kernel
theorem dX9_before_0 : decode cX9_before 0 = .ok (.aload_n 0, 1) := by decide +kernel
theorem dX9_before_1 : decode cX9_before 1 = .ok (.iload_n 1, 1) := by decide +kernel
theorem dX9_before_2 : decode cX9_before 2 = .ok (.iconst (-1), 1) := by decide +kernel
theorem dX9_before_3 : decode cX9_before 3 = .ok (.aload_n 0, 1) := by decide +kernel
theorem dX9_before_4 : decode cX9_before 4 = .ok (.getfield 85, 3) := by decide +kernel
theorem dX9_before_7 : decode cX9_before 7 = .ok (.iload_n 2, 1) := by decide +kernel
theorem dX9_before_8 : decode cX9_before 8 = .ok (.iaload, 1) := by decide +kernel
theorem dX9_before_9 : decode cX9_before 9 = .ok (.invokestatic 117, 3) := by decide +kernel
theorem dX9_before_12 : decode cX9_before 12 = .ok (.ishl, 1) := by decide +kernel
theorem dX9_before_13 : decode cX9_before 13 = .ok (.invokevirtual 113, 3) := by decide +kernel
theorem dX9_before_16 : decode cX9_before 16 = .ok (.istore_n 3, 1) := by decide +kernel
theorem dX9_before_17 : decode cX9_before 17 = .ok (.iload_n 3, 1) := by decide +kernel
theorem dX9_before_18 : decode cX9_before 18 = .ok (.aload_n 0, 1) := by decide +kernel
theorem dX9_before_19 : decode cX9_before 19 = .ok (.iload_n 2, 1) := by decide +kernel
theorem dX9_before_20 : decode cX9_before 20 = .ok (.aload_n 0, 1) := by decide +kernel
theorem dX9_before_21 : decode cX9_before 21 = .ok (.getfield 85, 3) := by decide +kernel
theorem dX9_before_24 : decode cX9_before 24 = .ok (.iload_n 1, 1) := by decide +kernel
theorem dX9_before_25 : decode cX9_before 25 = .ok (.iaload, 1) := by decide +kernel
theorem dX9_before_26 : decode cX9_before 26 = .ok (.ifCond .ne 7, 3) := by decide +kernel
theorem dX9_before_29 : decode cX9_before 29 = .ok (.iconst (-1), 1) := by decide +kernel
theorem dX9_before_30 : decode cX9_before 30 = .ok (.goto 16, 3) := by decide +kernel
theorem dX9_before_33 : decode cX9_before 33 = .ok (.iconst 2, 1) := by decide +kernel
theorem dX9_before_34 : decode cX9_before 34 = .ok (.aload_n 0, 1) := by decide +kernel
theorem dX9_before_35 : decode cX9_before 35 = .ok (.getfield 85, 3) := by decide +kernel
theorem dX9_before_38 : decode cX9_before 38 = .ok (.iload_n 1, 1) := by decide +kernel
theorem dX9_before_39 : decode cX9_before 39 = .ok (.iaload, 1) := by decide +kernel
theorem dX9_before_40 : decode cX9_before 40 = .ok (.invokestatic 120, 3) := by decide +kernel
theorem dX9_before_43 : decode cX9_before 43 = .ok (.ishl, 1) := by decide +kernel
theorem dX9_before_44 : decode cX9_before 44 = .ok (.iconst 1, 1) := by decide +kernel
theorem dX9_before_45 : decode cX9_before 45 = .ok (.isub, 1) := by decide +kernel
theorem dX9_before_46 : decode cX9_before 46 = .ok (.invokevirtual 113, 3) := by decide +kernel
theorem dX9_before_49 : decode cX9_before 49 = .ok (.iadd, 1) := by decide +kernel
theorem dX9_before_50 : decode cX9_before 50 = .ok (.ireturn, 1) := by decide +kernel
theorem dX9_between_0 : decode cX9_between 0 = .ok (.iconst 0, 1) := by decide +kernel
theorem dX9_between_1 : decode cX9_between 1 = .ok (.istore 4, 2) := by decide +kernel
theorem dX9_between_3 : decode cX9_between 3 = .ok (.iconst 0, 1) := by decide +kernel
theorem dX9_between_4 : decode cX9_between 4 = .ok (.istore 5, 2) := by decide +kernel
theorem dX9_between_6 : decode cX9_between 6 = .ok (.iload 5, 2) := by decide +kernel
theorem dX9_between_8 : decode cX9_between 8 = .ok (.aload_n 0, 1) := by decide +kernel
theorem dX9_between_9 : decode cX9_between 9 = .ok (.getfield 7, 3) := by decide +kernel
theorem dX9_between_12 : decode cX9_between 12 = .ok (.aload_n 0, 1) := by decide +kernel
theorem dX9_between_13 : decode cX9_between 13 = .ok (.getfield 102, 3) := by decide +kernel
theorem dX9_between_16 : decode cX9_between 16 = .ok (.iaload, 1) := by decide +kernel
theorem dX9_between_17 : decode cX9_between 17 = .ok (.if_icmp .ge 102, 3) := by decide +kernel
theorem dX9_between_20 : decode cX9_between 20 = .ok (.aload_n 0, 1) := by decide +kernel
theorem dX9_between_21 : decode cX9_between 21 = .ok (.getfield 85, 3) := by decide +kernel
theorem dX9_between_24 : decode cX9_between 24 = .ok (.iload_n 1, 1) := by decide +kernel
theorem dX9_between_25 : decode cX9_between 25 = .ok (.iaload, 1) := by decide +kernel
theorem dX9_between_26 : decode cX9_between 26 = .ok (.invokestatic 120, 3) := by decide +kernel
theorem dX9_between_29 : decode cX9_between 29 = .ok (.iload 5, 2) := by decide +kernel
theorem dX9_between_31 : decode cX9_between 31 = .ok (.if_icmp .ge 21, 3) := by decide +kernel
theorem dX9_between_34 : decode cX9_between 34 = .ok (.aload_n 0, 1) := by decide +kernel
theorem dX9_between_35 : decode cX9_between 35 = .ok (.getfield 85, 3) := by decide +kernel
theorem dX9_between_38 : decode cX9_between 38 = .ok (.iload_n 2, 1) := by decide +kernel
theorem dX9_between_39 : decode cX9_between 39 = .ok (.iaload, 1) := by decide +kernel
theorem dX9_between_40 : decode cX9_between 40 = .ok (.invokestatic 117, 3) := by decide +kernel
theorem dX9_between_43 : decode cX9_between 43 = .ok (.iload 5, 2) := by decide +kernel
theorem dX9_between_45 : decode cX9_between 45 = .ok (.if_icmp .le 7, 3) := by decide +kernel
theorem dX9_between_48 : decode cX9_between 48 = .ok (.iconst 1, 1) := by decide +kernel
theorem dX9_between_49 : decode cX9_between 49 = .ok (.goto 4, 3) := by decide +kernel
theorem dX9_between_52 : decode cX9_between 52 = .ok (.iconst 0, 1) := by decide +kernel
theorem dX9_between_53 : decode cX9_between 53 = .ok (.istore 6, 2) := by decide +kernel
theorem dX9_between_55 : decode cX9_between 55 = .ok (.aload_n 0, 1) := by decide +kernel
theorem dX9_between_56 : decode cX9_between 56 = .ok (.getfield 85, 3) := by decide +kernel
theorem dX9_between_59 : decode cX9_between 59 = .ok (.iload_n 2, 1) := by decide +kernel
theorem dX9_between_60 : decode cX9_between 60 = .ok (.iaload, 1) := by decide +kernel
theorem dX9_between_61 : decode cX9_between 61 = .ok (.invokestatic 120, 3) := by decide +kernel
theorem dX9_between_64 : decode cX9_between 64 = .ok (.iload 5, 2) := by decide +kernel
theorem dX9_between_66 : decode cX9_between 66 = .ok (.if_icmp .ge 21, 3) := by decide +kernel
theorem dX9_between_69 : decode cX9_between 69 = .ok (.aload_n 0, 1) := by decide +kernel
theorem dX9_between_70 : decode cX9_between 70 = .ok (.getfield 85, 3) := by decide +kernel
theorem dX9_between_73 : decode cX9_between 73 = .ok (.iload_n 1, 1) := by decide +kernel
theorem dX9_between_74 : decode cX9_between 74 = .ok (.iaload, 1) := by decide +kernel
theorem dX9_between_75 : decode cX9_between 75 = .ok (.invokestatic 117, 3) := by decide +kernel
theorem dX9_between_78 : decode cX9_between 78 = .ok (.iload 5, 2) := by decide +kernel
theorem dX9_between_80 : decode cX9_between 80 = .ok (.if_icmp .le 7, 3) := by decide +kernel
theorem dX9_between_83 : decode cX9_between 83 = .ok (.iconst 1, 1) := by decide +kernel
theorem dX9_between_84 : decode cX9_between 84 = .ok (.goto 4, 3) := by decide +kernel
theorem dX9_between_87 : decode cX9_between 87 = .ok (.iconst 0, 1) := by decide +kernel
theorem dX9_between_88 : decode cX9_between 88 = .ok (.istore 7, 2) := by decide +kernel
theorem dX9_between_90 : decode cX9_between 90 = .ok (.iload 4, 2) := by decide +kernel
theorem dX9_between_92 : decode cX9_between 92 = .ok (.iload 6, 2) := by decide +kernel
theorem dX9_between_94 : decode cX9_between 94 = .ok (.ifCond .ne 8, 3) := by decide +kernel
theorem dX9_between_97 : decode cX9_between 97 = .ok (.iload 7, 2) := by decide +kernel
theorem dX9_between_99 : decode cX9_between 99 = .ok (.ifCond .eq 7, 3) := by decide +kernel
theorem dX9_between_102 : decode cX9_between 102 = .ok (.iconst 0, 1) := by decide +kernel
theorem dX9_between_103 : decode cX9_between 103 = .ok (.goto 7, 3) := by decide +kernel
theorem dX9_between_106 : decode cX9_between 106 = .ok (.iconst 1, 1) := by decide +kernel
theorem dX9_between_107 : decode cX9_between 107 = .ok (.iload 5, 2) := by decide +kernel
theorem dX9_between_109 : decode cX9_between 109 = .ok (.ishl, 1) := by decide +kernel
theorem dX9_between_110 : decode cX9_between 110 = .ok (.ior, 1) := by decide +kernel
theorem dX9_between_111 : decode cX9_between 111 = .ok (.istore 4, 2) := by decide +kernel
theorem dX9_between_113 : decode cX9_between 113 = .ok (.iinc 5 1, 3) := by decide +kernel
theorem dX9_between_116 : decode cX9_between 116 = .ok (.goto (-110), 3) := by decide +kernel
theorem dX9_between_119 : decode cX9_between 119 = .ok (.aload_n 0, 1) := by decide +kernel
theorem dX9_between_120 : decode cX9_between 120 = .ok (.iload_n 3, 1) := by decide +kernel
theorem dX9_between_121 : decode cX9_between 121 = .ok (.iload 4, 2) := by decide +kernel
theorem dX9_between_123 : decode cX9_between 123 = .ok (.invokevirtual 113, 3) := by decide +kernel
theorem dX9_between_126 : decode cX9_between 126 = .ok (.ireturn, 1) := by decide +kernel
theorem dX9_kindOf_0 : decode cX9_kindOf 0 = .ok (.iload_n 0, 1) := by decide +kernel
theorem dX9_kindOf_1 : decode cX9_kindOf 1 = .ok (.tableswitch 57 0 5 #[39, 42, 45, 48, 51, 54], 39) := by decide +kernel
theorem dX9_kindOf_40 : decode cX9_kindOf 40 = .ok (.bipush 112, 2) := by decide +kernel
theorem dX9_kindOf_42 : decode cX9_kindOf 42 = .ok (.ireturn, 1) := by decide +kernel
theorem dX9_kindOf_43 : decode cX9_kindOf 43 = .ok (.bipush 120, 2) := by decide +kernel
theorem dX9_kindOf_45 : decode cX9_kindOf 45 = .ok (.ireturn, 1) := by decide +kernel
theorem dX9_kindOf_46 : decode cX9_kindOf 46 = .ok (.bipush 98, 2) := by decide +kernel
theorem dX9_kindOf_48 : decode cX9_kindOf 48 = .ok (.ireturn, 1) := by decide +kernel
theorem dX9_kindOf_49 : decode cX9_kindOf 49 = .ok (.bipush 110, 2) := by decide +kernel
theorem dX9_kindOf_51 : decode cX9_kindOf 51 = .ok (.ireturn, 1) := by decide +kernel
theorem dX9_kindOf_52 : decode cX9_kindOf 52 = .ok (.bipush 108, 2) := by decide +kernel
theorem dX9_kindOf_54 : decode cX9_kindOf 54 = .ok (.ireturn, 1) := by decide +kernel
theorem dX9_kindOf_55 : decode cX9_kindOf 55 = .ok (.bipush 100, 2) := by decide +kernel
theorem dX9_kindOf_57 : decode cX9_kindOf 57 = .ok (.ireturn, 1) := by decide +kernel
theorem dX9_kindOf_58 : decode cX9_kindOf 58 = .ok (.bipush 109, 2) := by decide +kernel
theorem dX9_kindOf_60 : decode cX9_kindOf 60 = .ok (.ireturn, 1) := by decide +kernel
theorem dX9_byClue_0 : decode cX9_byClue 0 = .ok (.aload_n 0, 1) := by decide +kernel
theorem dX9_byClue_1 : decode cX9_byClue 1 = .ok (.getfield 31, 3) := by decide +kernel
theorem dX9_byClue_4 : decode cX9_byClue 4 = .ok (.iload_n 2, 1) := by decide +kernel
theorem dX9_byClue_5 : decode cX9_byClue 5 = .ok (.iaload, 1) := by decide +kernel
theorem dX9_byClue_6 : decode cX9_byClue 6 = .ok (.istore_n 3, 1) := by decide +kernel
theorem dX9_byClue_7 : decode cX9_byClue 7 = .ok (.aload_n 0, 1) := by decide +kernel
theorem dX9_byClue_8 : decode cX9_byClue 8 = .ok (.getfield 34, 3) := by decide +kernel
theorem dX9_byClue_11 : decode cX9_byClue 11 = .ok (.iload_n 2, 1) := by decide +kernel
theorem dX9_byClue_12 : decode cX9_byClue 12 = .ok (.iaload, 1) := by decide +kernel
theorem dX9_byClue_13 : decode cX9_byClue 13 = .ok (.istore 4, 2) := by decide +kernel
theorem dX9_byClue_15 : decode cX9_byClue 15 = .ok (.iload_n 1, 1) := by decide +kernel
theorem dX9_byClue_16 : decode cX9_byClue 16 = .ok (.bipush 10, 2) := by decide +kernel
theorem dX9_byClue_18 : decode cX9_byClue 18 = .ok (.if_icmp .lt 13, 3) := by decide +kernel
theorem dX9_byClue_21 : decode cX9_byClue 21 = .ok (.aload_n 0, 1) := by decide +kernel
theorem dX9_byClue_22 : decode cX9_byClue 22 = .ok (.iload_n 1, 1) := by decide +kernel
theorem dX9_byClue_23 : decode cX9_byClue 23 = .ok (.bipush 10, 2) := by decide +kernel
theorem dX9_byClue_25 : decode cX9_byClue 25 = .ok (.isub, 1) := by decide +kernel
theorem dX9_byClue_26 : decode cX9_byClue 26 = .ok (.iload_n 2, 1) := by decide +kernel
theorem dX9_byClue_27 : decode cX9_byClue 27 = .ok (.invokevirtual 123, 3) := by decide +kernel
theorem dX9_byClue_30 : decode cX9_byClue 30 = .ok (.ireturn, 1) := by decide +kernel
theorem dX9_byClue_31 : decode cX9_byClue 31 = .ok (.aload_n 0, 1) := by decide +kernel
theorem dX9_byClue_32 : decode cX9_byClue 32 = .ok (.getfield 28, 3) := by decide +kernel
theorem dX9_byClue_35 : decode cX9_byClue 35 = .ok (.iload_n 2, 1) := by decide +kernel
theorem dX9_byClue_36 : decode cX9_byClue 36 = .ok (.iaload, 1) := by decide +kernel
theorem dX9_byClue_37 : decode cX9_byClue 37 = .ok (.iload_n 1, 1) := by decide +kernel
theorem dX9_byClue_38 : decode cX9_byClue 38 = .ok (.invokestatic 126, 3) := by decide +kernel
theorem dX9_byClue_41 : decode cX9_byClue 41 = .ok (.if_icmp .eq 5, 3) := by decide +kernel
theorem dX9_byClue_44 : decode cX9_byClue 44 = .ok (.iconst 0, 1) := by decide +kernel
theorem dX9_byClue_45 : decode cX9_byClue 45 = .ok (.ireturn, 1) := by decide +kernel
theorem dX9_byClue_46 : decode cX9_byClue 46 = .ok (.iload_n 1, 1) := by decide +kernel
theorem dX9_byClue_47 : decode cX9_byClue 47 = .ok (.ifCond .ne 15, 3) := by decide +kernel
theorem dX9_byClue_50 : decode cX9_byClue 50 = .ok (.aload_n 0, 1) := by decide +kernel
theorem dX9_byClue_51 : decode cX9_byClue 51 = .ok (.iload_n 3, 1) := by decide +kernel
theorem dX9_byClue_52 : decode cX9_byClue 52 = .ok (.iconst 1, 1) := by decide +kernel
theorem dX9_byClue_53 : decode cX9_byClue 53 = .ok (.iload 4, 2) := by decide +kernel
theorem dX9_byClue_55 : decode cX9_byClue 55 = .ok (.ishl, 1) := by decide +kernel
theorem dX9_byClue_56 : decode cX9_byClue 56 = .ok (.iconst (-1), 1) := by decide +kernel
theorem dX9_byClue_57 : decode cX9_byClue 57 = .ok (.ixor, 1) := by decide +kernel
theorem dX9_byClue_58 : decode cX9_byClue 58 = .ok (.invokevirtual 113, 3) := by decide +kernel
theorem dX9_byClue_61 : decode cX9_byClue 61 = .ok (.ireturn, 1) := by decide +kernel
theorem dX9_byClue_62 : decode cX9_byClue 62 = .ok (.iload_n 1, 1) := by decide +kernel
theorem dX9_byClue_63 : decode cX9_byClue 63 = .ok (.iconst 1, 1) := by decide +kernel
theorem dX9_byClue_64 : decode cX9_byClue 64 = .ok (.if_icmp .ne 13, 3) := by decide +kernel
theorem dX9_byClue_67 : decode cX9_byClue 67 = .ok (.aload_n 0, 1) := by decide +kernel
theorem dX9_byClue_68 : decode cX9_byClue 68 = .ok (.iload_n 3, 1) := by decide +kernel
theorem dX9_byClue_69 : decode cX9_byClue 69 = .ok (.iconst 1, 1) := by decide +kernel
theorem dX9_byClue_70 : decode cX9_byClue 70 = .ok (.iload 4, 2) := by decide +kernel
theorem dX9_byClue_72 : decode cX9_byClue 72 = .ok (.ishl, 1) := by decide +kernel
theorem dX9_byClue_73 : decode cX9_byClue 73 = .ok (.invokevirtual 113, 3) := by decide +kernel
theorem dX9_byClue_76 : decode cX9_byClue 76 = .ok (.ireturn, 1) := by decide +kernel
theorem dX9_byClue_77 : decode cX9_byClue 77 = .ok (.iload_n 1, 1) := by decide +kernel
theorem dX9_byClue_78 : decode cX9_byClue 78 = .ok (.iconst 2, 1) := by decide +kernel
theorem dX9_byClue_79 : decode cX9_byClue 79 = .ok (.if_icmp .ne 11, 3) := by decide +kernel
theorem dX9_byClue_82 : decode cX9_byClue 82 = .ok (.aload_n 0, 1) := by decide +kernel
theorem dX9_byClue_83 : decode cX9_byClue 83 = .ok (.iload_n 3, 1) := by decide +kernel
theorem dX9_byClue_84 : decode cX9_byClue 84 = .ok (.iload 4, 2) := by decide +kernel
theorem dX9_byClue_86 : decode cX9_byClue 86 = .ok (.invokevirtual 129, 3) := by decide +kernel
theorem dX9_byClue_89 : decode cX9_byClue 89 = .ok (.ireturn, 1) := by decide +kernel
theorem dX9_byClue_90 : decode cX9_byClue 90 = .ok (.iload_n 1, 1) := by decide +kernel
theorem dX9_byClue_91 : decode cX9_byClue 91 = .ok (.iconst 3, 1) := by decide +kernel
theorem dX9_byClue_92 : decode cX9_byClue 92 = .ok (.if_icmp .ne 14, 3) := by decide +kernel
theorem dX9_byClue_95 : decode cX9_byClue 95 = .ok (.aload_n 0, 1) := by decide +kernel
theorem dX9_byClue_96 : decode cX9_byClue 96 = .ok (.iload_n 3, 1) := by decide +kernel
theorem dX9_byClue_97 : decode cX9_byClue 97 = .ok (.iload 4, 2) := by decide +kernel
theorem dX9_byClue_99 : decode cX9_byClue 99 = .ok (.iconst 1, 1) := by decide +kernel
theorem dX9_byClue_100 : decode cX9_byClue 100 = .ok (.iconst 1, 1) := by decide +kernel
theorem dX9_byClue_101 : decode cX9_byClue 101 = .ok (.iconst 1, 1) := by decide +kernel
theorem dX9_byClue_102 : decode cX9_byClue 102 = .ok (.invokevirtual 132, 3) := by decide +kernel
theorem dX9_byClue_105 : decode cX9_byClue 105 = .ok (.ireturn, 1) := by decide +kernel
theorem dX9_byClue_106 : decode cX9_byClue 106 = .ok (.iload_n 1, 1) := by decide +kernel
theorem dX9_byClue_107 : decode cX9_byClue 107 = .ok (.iconst 4, 1) := by decide +kernel
theorem dX9_byClue_108 : decode cX9_byClue 108 = .ok (.if_icmp .ne 14, 3) := by decide +kernel
theorem dX9_byClue_111 : decode cX9_byClue 111 = .ok (.aload_n 0, 1) := by decide +kernel
theorem dX9_byClue_112 : decode cX9_byClue 112 = .ok (.iload_n 3, 1) := by decide +kernel
theorem dX9_byClue_113 : decode cX9_byClue 113 = .ok (.iload 4, 2) := by decide +kernel
theorem dX9_byClue_115 : decode cX9_byClue 115 = .ok (.iconst 1, 1) := by decide +kernel
theorem dX9_byClue_116 : decode cX9_byClue 116 = .ok (.iconst 1, 1) := by decide +kernel
theorem dX9_byClue_117 : decode cX9_byClue 117 = .ok (.iconst 0, 1) := by decide +kernel
theorem dX9_byClue_118 : decode cX9_byClue 118 = .ok (.invokevirtual 132, 3) := by decide +kernel
theorem dX9_byClue_121 : decode cX9_byClue 121 = .ok (.ireturn, 1) := by decide +kernel
theorem dX9_byClue_122 : decode cX9_byClue 122 = .ok (.iload_n 1, 1) := by decide +kernel
theorem dX9_byClue_123 : decode cX9_byClue 123 = .ok (.iconst 5, 1) := by decide +kernel
theorem dX9_byClue_124 : decode cX9_byClue 124 = .ok (.if_icmp .ne 19, 3) := by decide +kernel
theorem dX9_byClue_127 : decode cX9_byClue 127 = .ok (.aload_n 0, 1) := by decide +kernel
theorem dX9_byClue_128 : decode cX9_byClue 128 = .ok (.iload_n 3, 1) := by decide +kernel
theorem dX9_byClue_129 : decode cX9_byClue 129 = .ok (.iload 4, 2) := by decide +kernel
theorem dX9_byClue_131 : decode cX9_byClue 131 = .ok (.aload_n 0, 1) := by decide +kernel
theorem dX9_byClue_132 : decode cX9_byClue 132 = .ok (.getfield 37, 3) := by decide +kernel
theorem dX9_byClue_135 : decode cX9_byClue 135 = .ok (.iload_n 2, 1) := by decide +kernel
theorem dX9_byClue_136 : decode cX9_byClue 136 = .ok (.iaload, 1) := by decide +kernel
theorem dX9_byClue_137 : decode cX9_byClue 137 = .ok (.iconst 1, 1) := by decide +kernel
theorem dX9_byClue_138 : decode cX9_byClue 138 = .ok (.iconst 1, 1) := by decide +kernel
theorem dX9_byClue_139 : decode cX9_byClue 139 = .ok (.invokevirtual 132, 3) := by decide +kernel
theorem dX9_byClue_142 : decode cX9_byClue 142 = .ok (.ireturn, 1) := by decide +kernel
theorem dX9_byClue_143 : decode cX9_byClue 143 = .ok (.aload_n 0, 1) := by decide +kernel
theorem dX9_byClue_144 : decode cX9_byClue 144 = .ok (.iload_n 3, 1) := by decide +kernel
theorem dX9_byClue_145 : decode cX9_byClue 145 = .ok (.iload 4, 2) := by decide +kernel
theorem dX9_byClue_147 : decode cX9_byClue 147 = .ok (.aload_n 0, 1) := by decide +kernel
theorem dX9_byClue_148 : decode cX9_byClue 148 = .ok (.getfield 37, 3) := by decide +kernel
theorem dX9_byClue_151 : decode cX9_byClue 151 = .ok (.iload_n 2, 1) := by decide +kernel
theorem dX9_byClue_152 : decode cX9_byClue 152 = .ok (.iaload, 1) := by decide +kernel
theorem dX9_byClue_153 : decode cX9_byClue 153 = .ok (.invokevirtual 136, 3) := by decide +kernel
theorem dX9_byClue_156 : decode cX9_byClue 156 = .ok (.ireturn, 1) := by decide +kernel
theorem dX9_byOwn_0 : decode cX9_byOwn 0 = .ok (.aload_n 0, 1) := by decide +kernel
theorem dX9_byOwn_1 : decode cX9_byOwn 1 = .ok (.getfield 28, 3) := by decide +kernel
theorem dX9_byOwn_4 : decode cX9_byOwn 4 = .ok (.iload_n 2, 1) := by decide +kernel
theorem dX9_byOwn_5 : decode cX9_byOwn 5 = .ok (.iaload, 1) := by decide +kernel
theorem dX9_byOwn_6 : decode cX9_byOwn 6 = .ok (.aload_n 0, 1) := by decide +kernel
theorem dX9_byOwn_7 : decode cX9_byOwn 7 = .ok (.getfield 49, 3) := by decide +kernel
theorem dX9_byOwn_10 : decode cX9_byOwn 10 = .ok (.iload_n 1, 1) := by decide +kernel
theorem dX9_byOwn_11 : decode cX9_byOwn 11 = .ok (.iaload, 1) := by decide +kernel
theorem dX9_byOwn_12 : decode cX9_byOwn 12 = .ok (.if_icmp .eq 5, 3) := by decide +kernel
theorem dX9_byOwn_15 : decode cX9_byOwn 15 = .ok (.iconst 0, 1) := by decide +kernel
theorem dX9_byOwn_16 : decode cX9_byOwn 16 = .ok (.ireturn, 1) := by decide +kernel
theorem dX9_byOwn_17 : decode cX9_byOwn 17 = .ok (.aload_n 0, 1) := by decide +kernel
theorem dX9_byOwn_18 : decode cX9_byOwn 18 = .ok (.getfield 52, 3) := by decide +kernel
theorem dX9_byOwn_21 : decode cX9_byOwn 21 = .ok (.iload_n 1, 1) := by decide +kernel
theorem dX9_byOwn_22 : decode cX9_byOwn 22 = .ok (.iaload, 1) := by decide +kernel
theorem dX9_byOwn_23 : decode cX9_byOwn 23 = .ok (.bipush 97, 2) := by decide +kernel
theorem dX9_byOwn_25 : decode cX9_byOwn 25 = .ok (.if_icmp .ne 12, 3) := by decide +kernel
theorem dX9_byOwn_28 : decode cX9_byOwn 28 = .ok (.aload_n 0, 1) := by decide +kernel
theorem dX9_byOwn_29 : decode cX9_byOwn 29 = .ok (.getfield 31, 3) := by decide +kernel
theorem dX9_byOwn_32 : decode cX9_byOwn 32 = .ok (.iload_n 2, 1) := by decide +kernel
theorem dX9_byOwn_33 : decode cX9_byOwn 33 = .ok (.iaload, 1) := by decide +kernel
theorem dX9_byOwn_34 : decode cX9_byOwn 34 = .ok (.goto 29, 3) := by decide +kernel
theorem dX9_byOwn_37 : decode cX9_byOwn 37 = .ok (.aload_n 0, 1) := by decide +kernel
theorem dX9_byOwn_38 : decode cX9_byOwn 38 = .ok (.getfield 52, 3) := by decide +kernel
theorem dX9_byOwn_41 : decode cX9_byOwn 41 = .ok (.iload_n 1, 1) := by decide +kernel
theorem dX9_byOwn_42 : decode cX9_byOwn 42 = .ok (.iaload, 1) := by decide +kernel
theorem dX9_byOwn_43 : decode cX9_byOwn 43 = .ok (.bipush 98, 2) := by decide +kernel
theorem dX9_byOwn_45 : decode cX9_byOwn 45 = .ok (.if_icmp .ne 12, 3) := by decide +kernel
theorem dX9_byOwn_48 : decode cX9_byOwn 48 = .ok (.aload_n 0, 1) := by decide +kernel
theorem dX9_byOwn_49 : decode cX9_byOwn 49 = .ok (.getfield 34, 3) := by decide +kernel
theorem dX9_byOwn_52 : decode cX9_byOwn 52 = .ok (.iload_n 2, 1) := by decide +kernel
theorem dX9_byOwn_53 : decode cX9_byOwn 53 = .ok (.iaload, 1) := by decide +kernel
theorem dX9_byOwn_54 : decode cX9_byOwn 54 = .ok (.goto 9, 3) := by decide +kernel
theorem dX9_byOwn_57 : decode cX9_byOwn 57 = .ok (.aload_n 0, 1) := by decide +kernel
theorem dX9_byOwn_58 : decode cX9_byOwn 58 = .ok (.getfield 37, 3) := by decide +kernel
theorem dX9_byOwn_61 : decode cX9_byOwn 61 = .ok (.iload_n 2, 1) := by decide +kernel
theorem dX9_byOwn_62 : decode cX9_byOwn 62 = .ok (.iaload, 1) := by decide +kernel
theorem dX9_byOwn_63 : decode cX9_byOwn 63 = .ok (.istore_n 3, 1) := by decide +kernel
theorem dX9_byOwn_64 : decode cX9_byOwn 64 = .ok (.aload_n 0, 1) := by decide +kernel
theorem dX9_byOwn_65 : decode cX9_byOwn 65 = .ok (.getfield 58, 3) := by decide +kernel
theorem dX9_byOwn_68 : decode cX9_byOwn 68 = .ok (.iload_n 1, 1) := by decide +kernel
theorem dX9_byOwn_69 : decode cX9_byOwn 69 = .ok (.iaload, 1) := by decide +kernel
theorem dX9_byOwn_70 : decode cX9_byOwn 70 = .ok (.aload_n 0, 1) := by decide +kernel
theorem dX9_byOwn_71 : decode cX9_byOwn 71 = .ok (.getfield 7, 3) := by decide +kernel
theorem dX9_byOwn_74 : decode cX9_byOwn 74 = .ok (.aload_n 0, 1) := by decide +kernel
theorem dX9_byOwn_75 : decode cX9_byOwn 75 = .ok (.getfield 102, 3) := by decide +kernel
theorem dX9_byOwn_78 : decode cX9_byOwn 78 = .ok (.iaload, 1) := by decide +kernel
theorem dX9_byOwn_79 : decode cX9_byOwn 79 = .ok (.if_icmp .ge 12, 3) := by decide +kernel
theorem dX9_byOwn_82 : decode cX9_byOwn 82 = .ok (.aload_n 0, 1) := by decide +kernel
theorem dX9_byOwn_83 : decode cX9_byOwn 83 = .ok (.getfield 58, 3) := by decide +kernel
theorem dX9_byOwn_86 : decode cX9_byOwn 86 = .ok (.iload_n 1, 1) := by decide +kernel
theorem dX9_byOwn_87 : decode cX9_byOwn 87 = .ok (.iaload, 1) := by decide +kernel
theorem dX9_byOwn_88 : decode cX9_byOwn 88 = .ok (.goto 12, 3) := by decide +kernel
theorem dX9_byOwn_91 : decode cX9_byOwn 91 = .ok (.aload_n 0, 1) := by decide +kernel
theorem dX9_byOwn_92 : decode cX9_byOwn 92 = .ok (.getfield 7, 3) := by decide +kernel
theorem dX9_byOwn_95 : decode cX9_byOwn 95 = .ok (.aload_n 0, 1) := by decide +kernel
theorem dX9_byOwn_96 : decode cX9_byOwn 96 = .ok (.getfield 102, 3) := by decide +kernel
theorem dX9_byOwn_99 : decode cX9_byOwn 99 = .ok (.iaload, 1) := by decide +kernel
theorem dX9_byOwn_100 : decode cX9_byOwn 100 = .ok (.istore 4, 2) := by decide +kernel
theorem dX9_byOwn_102 : decode cX9_byOwn 102 = .ok (.iconst 1, 1) := by decide +kernel
theorem dX9_byOwn_103 : decode cX9_byOwn 103 = .ok (.iload 4, 2) := by decide +kernel
theorem dX9_byOwn_105 : decode cX9_byOwn 105 = .ok (.ishl, 1) := by decide +kernel
theorem dX9_byOwn_106 : decode cX9_byOwn 106 = .ok (.iconst 1, 1) := by decide +kernel
theorem dX9_byOwn_107 : decode cX9_byOwn 107 = .ok (.isub, 1) := by decide +kernel
theorem dX9_byOwn_108 : decode cX9_byOwn 108 = .ok (.istore 5, 2) := by decide +kernel
theorem dX9_byOwn_110 : decode cX9_byOwn 110 = .ok (.aload_n 0, 1) := by decide +kernel
theorem dX9_byOwn_111 : decode cX9_byOwn 111 = .ok (.iload_n 3, 1) := by decide +kernel
theorem dX9_byOwn_112 : decode cX9_byOwn 112 = .ok (.aload_n 0, 1) := by decide +kernel
theorem dX9_byOwn_113 : decode cX9_byOwn 113 = .ok (.getfield 55, 3) := by decide +kernel
theorem dX9_byOwn_116 : decode cX9_byOwn 116 = .ok (.iload_n 1, 1) := by decide +kernel
theorem dX9_byOwn_117 : decode cX9_byOwn 117 = .ok (.iaload, 1) := by decide +kernel
theorem dX9_byOwn_118 : decode cX9_byOwn 118 = .ok (.iconst 1, 1) := by decide +kernel
theorem dX9_byOwn_119 : decode cX9_byOwn 119 = .ok (.if_icmp .ne 8, 3) := by decide +kernel
theorem dX9_byOwn_122 : decode cX9_byOwn 122 = .ok (.iload 5, 2) := by decide +kernel
theorem dX9_byOwn_124 : decode cX9_byOwn 124 = .ok (.goto 18, 3) := by decide +kernel
theorem dX9_byOwn_127 : decode cX9_byOwn 127 = .ok (.iload 5, 2) := by decide +kernel
theorem dX9_byOwn_129 : decode cX9_byOwn 129 = .ok (.aload_n 0, 1) := by decide +kernel
theorem dX9_byOwn_130 : decode cX9_byOwn 130 = .ok (.getfield 7, 3) := by decide +kernel
theorem dX9_byOwn_133 : decode cX9_byOwn 133 = .ok (.aload_n 0, 1) := by decide +kernel
theorem dX9_byOwn_134 : decode cX9_byOwn 134 = .ok (.getfield 102, 3) := by decide +kernel
theorem dX9_byOwn_137 : decode cX9_byOwn 137 = .ok (.iaload, 1) := by decide +kernel
theorem dX9_byOwn_138 : decode cX9_byOwn 138 = .ok (.iload 4, 2) := by decide +kernel
theorem dX9_byOwn_140 : decode cX9_byOwn 140 = .ok (.isub, 1) := by decide +kernel
theorem dX9_byOwn_141 : decode cX9_byOwn 141 = .ok (.ishl, 1) := by decide +kernel
theorem dX9_byOwn_142 : decode cX9_byOwn 142 = .ok (.invokevirtual 113, 3) := by decide +kernel
theorem dX9_byOwn_145 : decode cX9_byOwn 145 = .ok (.ireturn, 1) := by decide +kernel
theorem dX9_byPerson_0 : decode cX9_byPerson 0 = .ok (.aload_n 0, 1) := by decide +kernel
theorem dX9_byPerson_1 : decode cX9_byPerson 1 = .ok (.getfield 85, 3) := by decide +kernel
theorem dX9_byPerson_4 : decode cX9_byPerson 4 = .ok (.iload_n 1, 1) := by decide +kernel
theorem dX9_byPerson_5 : decode cX9_byPerson 5 = .ok (.iaload, 1) := by decide +kernel
theorem dX9_byPerson_6 : decode cX9_byPerson 6 = .ok (.invokestatic 105, 3) := by decide +kernel
theorem dX9_byPerson_9 : decode cX9_byPerson 9 = .ok (.iconst 1, 1) := by decide +kernel
theorem dX9_byPerson_10 : decode cX9_byPerson 10 = .ok (.if_icmp .eq 5, 3) := by decide +kernel
theorem dX9_byPerson_13 : decode cX9_byPerson 13 = .ok (.iconst 0, 1) := by decide +kernel
theorem dX9_byPerson_14 : decode cX9_byPerson 14 = .ok (.ireturn, 1) := by decide +kernel
theorem dX9_byPerson_15 : decode cX9_byPerson 15 = .ok (.iconst 0, 1) := by decide +kernel
theorem dX9_byPerson_16 : decode cX9_byPerson 16 = .ok (.istore_n 2, 1) := by decide +kernel
theorem dX9_byPerson_17 : decode cX9_byPerson 17 = .ok (.iconst 0, 1) := by decide +kernel
theorem dX9_byPerson_18 : decode cX9_byPerson 18 = .ok (.istore_n 3, 1) := by decide +kernel
theorem dX9_byPerson_19 : decode cX9_byPerson 19 = .ok (.iload_n 3, 1) := by decide +kernel
theorem dX9_byPerson_20 : decode cX9_byPerson 20 = .ok (.aload_n 0, 1) := by decide +kernel
theorem dX9_byPerson_21 : decode cX9_byPerson 21 = .ok (.getfield 7, 3) := by decide +kernel
theorem dX9_byPerson_24 : decode cX9_byPerson 24 = .ok (.aload_n 0, 1) := by decide +kernel
theorem dX9_byPerson_25 : decode cX9_byPerson 25 = .ok (.getfield 102, 3) := by decide +kernel
theorem dX9_byPerson_28 : decode cX9_byPerson 28 = .ok (.iaload, 1) := by decide +kernel
theorem dX9_byPerson_29 : decode cX9_byPerson 29 = .ok (.if_icmp .ge 32, 3) := by decide +kernel
theorem dX9_byPerson_32 : decode cX9_byPerson 32 = .ok (.iload_n 2, 1) := by decide +kernel
theorem dX9_byPerson_33 : decode cX9_byPerson 33 = .ok (.iload_n 3, 1) := by decide +kernel
theorem dX9_byPerson_34 : decode cX9_byPerson 34 = .ok (.iload_n 1, 1) := by decide +kernel
theorem dX9_byPerson_35 : decode cX9_byPerson 35 = .ok (.if_icmp .ne 7, 3) := by decide +kernel
theorem dX9_byPerson_38 : decode cX9_byPerson 38 = .ok (.iconst 0, 1) := by decide +kernel
theorem dX9_byPerson_39 : decode cX9_byPerson 39 = .ok (.goto 14, 3) := by decide +kernel
theorem dX9_byPerson_42 : decode cX9_byPerson 42 = .ok (.aload_n 0, 1) := by decide +kernel
theorem dX9_byPerson_43 : decode cX9_byPerson 43 = .ok (.iload_n 3, 1) := by decide +kernel
theorem dX9_byPerson_44 : decode cX9_byPerson 44 = .ok (.aload_n 0, 1) := by decide +kernel
theorem dX9_byPerson_45 : decode cX9_byPerson 45 = .ok (.getfield 85, 3) := by decide +kernel
theorem dX9_byPerson_48 : decode cX9_byPerson 48 = .ok (.iload_n 1, 1) := by decide +kernel
theorem dX9_byPerson_49 : decode cX9_byPerson 49 = .ok (.iaload, 1) := by decide +kernel
theorem dX9_byPerson_50 : decode cX9_byPerson 50 = .ok (.invokevirtual 113, 3) := by decide +kernel
theorem dX9_byPerson_53 : decode cX9_byPerson 53 = .ok (.iadd, 1) := by decide +kernel
theorem dX9_byPerson_54 : decode cX9_byPerson 54 = .ok (.istore_n 2, 1) := by decide +kernel
theorem dX9_byPerson_55 : decode cX9_byPerson 55 = .ok (.iinc 3 1, 3) := by decide +kernel
theorem dX9_byPerson_58 : decode cX9_byPerson 58 = .ok (.goto (-39), 3) := by decide +kernel
theorem dX9_byPerson_61 : decode cX9_byPerson 61 = .ok (.iload_n 2, 1) := by decide +kernel
theorem dX9_byPerson_62 : decode cX9_byPerson 62 = .ok (.ireturn, 1) := by decide +kernel
theorem dX9_byPlace_0 : decode cX9_byPlace 0 = .ok (.iconst (-1), 1) := by decide +kernel
theorem dX9_byPlace_1 : decode cX9_byPlace 1 = .ok (.istore_n 2, 1) := by decide +kernel
theorem dX9_byPlace_2 : decode cX9_byPlace 2 = .ok (.iconst 0, 1) := by decide +kernel
theorem dX9_byPlace_3 : decode cX9_byPlace 3 = .ok (.istore_n 3, 1) := by decide +kernel
theorem dX9_byPlace_4 : decode cX9_byPlace 4 = .ok (.iconst 0, 1) := by decide +kernel
theorem dX9_byPlace_5 : decode cX9_byPlace 5 = .ok (.istore 4, 2) := by decide +kernel
theorem dX9_byPlace_7 : decode cX9_byPlace 7 = .ok (.iload 4, 2) := by decide +kernel
theorem dX9_byPlace_9 : decode cX9_byPlace 9 = .ok (.aload_n 0, 1) := by decide +kernel
theorem dX9_byPlace_10 : decode cX9_byPlace 10 = .ok (.getfield 7, 3) := by decide +kernel
theorem dX9_byPlace_13 : decode cX9_byPlace 13 = .ok (.aload_n 0, 1) := by decide +kernel
theorem dX9_byPlace_14 : decode cX9_byPlace 14 = .ok (.getfield 102, 3) := by decide +kernel
theorem dX9_byPlace_17 : decode cX9_byPlace 17 = .ok (.iaload, 1) := by decide +kernel
theorem dX9_byPlace_18 : decode cX9_byPlace 18 = .ok (.if_icmp .ge 32, 3) := by decide +kernel
theorem dX9_byPlace_21 : decode cX9_byPlace 21 = .ok (.aload_n 0, 1) := by decide +kernel
theorem dX9_byPlace_22 : decode cX9_byPlace 22 = .ok (.getfield 85, 3) := by decide +kernel
theorem dX9_byPlace_25 : decode cX9_byPlace 25 = .ok (.iload 4, 2) := by decide +kernel
theorem dX9_byPlace_27 : decode cX9_byPlace 27 = .ok (.iaload, 1) := by decide +kernel
theorem dX9_byPlace_28 : decode cX9_byPlace 28 = .ok (.iload_n 1, 1) := by decide +kernel
theorem dX9_byPlace_29 : decode cX9_byPlace 29 = .ok (.invokestatic 98, 3) := by decide +kernel
theorem dX9_byPlace_32 : decode cX9_byPlace 32 = .ok (.ifCond .ne 6, 3) := by decide +kernel
theorem dX9_byPlace_35 : decode cX9_byPlace 35 = .ok (.goto 9, 3) := by decide +kernel
theorem dX9_byPlace_38 : decode cX9_byPlace 38 = .ok (.iload 4, 2) := by decide +kernel
theorem dX9_byPlace_40 : decode cX9_byPlace 40 = .ok (.istore_n 2, 1) := by decide +kernel
theorem dX9_byPlace_41 : decode cX9_byPlace 41 = .ok (.iinc 3 1, 3) := by decide +kernel
theorem dX9_byPlace_44 : decode cX9_byPlace 44 = .ok (.iinc 4 1, 3) := by decide +kernel
theorem dX9_byPlace_47 : decode cX9_byPlace 47 = .ok (.goto (-40), 3) := by decide +kernel
theorem dX9_byPlace_50 : decode cX9_byPlace 50 = .ok (.iload_n 3, 1) := by decide +kernel
theorem dX9_byPlace_51 : decode cX9_byPlace 51 = .ok (.iconst 1, 1) := by decide +kernel
theorem dX9_byPlace_52 : decode cX9_byPlace 52 = .ok (.if_icmp .ne 16, 3) := by decide +kernel
theorem dX9_byPlace_55 : decode cX9_byPlace 55 = .ok (.aload_n 0, 1) := by decide +kernel
theorem dX9_byPlace_56 : decode cX9_byPlace 56 = .ok (.iload_n 2, 1) := by decide +kernel
theorem dX9_byPlace_57 : decode cX9_byPlace 57 = .ok (.iconst 1, 1) := by decide +kernel
theorem dX9_byPlace_58 : decode cX9_byPlace 58 = .ok (.iload_n 1, 1) := by decide +kernel
theorem dX9_byPlace_59 : decode cX9_byPlace 59 = .ok (.ishl, 1) := by decide +kernel
theorem dX9_byPlace_60 : decode cX9_byPlace 60 = .ok (.iconst (-1), 1) := by decide +kernel
theorem dX9_byPlace_61 : decode cX9_byPlace 61 = .ok (.ixor, 1) := by decide +kernel
theorem dX9_byPlace_62 : decode cX9_byPlace 62 = .ok (.invokevirtual 113, 3) := by decide +kernel
theorem dX9_byPlace_65 : decode cX9_byPlace 65 = .ok (.goto 4, 3) := by decide +kernel
theorem dX9_byPlace_68 : decode cX9_byPlace 68 = .ok (.iconst 0, 1) := by decide +kernel
theorem dX9_byPlace_69 : decode cX9_byPlace 69 = .ok (.ireturn, 1) := by decide +kernel
theorem dX9_byPair_0 : decode cX9_byPair 0 = .ok (.iload_n 1, 1) := by decide +kernel
theorem dX9_byPair_1 : decode cX9_byPair 1 = .ok (.iload_n 2, 1) := by decide +kernel
theorem dX9_byPair_2 : decode cX9_byPair 2 = .ok (.if_icmp .ge 31, 3) := by decide +kernel
theorem dX9_byPair_5 : decode cX9_byPair 5 = .ok (.aload_n 0, 1) := by decide +kernel
theorem dX9_byPair_6 : decode cX9_byPair 6 = .ok (.getfield 85, 3) := by decide +kernel
theorem dX9_byPair_9 : decode cX9_byPair 9 = .ok (.iload_n 1, 1) := by decide +kernel
theorem dX9_byPair_10 : decode cX9_byPair 10 = .ok (.iaload, 1) := by decide +kernel
theorem dX9_byPair_11 : decode cX9_byPair 11 = .ok (.aload_n 0, 1) := by decide +kernel
theorem dX9_byPair_12 : decode cX9_byPair 12 = .ok (.getfield 85, 3) := by decide +kernel
theorem dX9_byPair_15 : decode cX9_byPair 15 = .ok (.iload_n 2, 1) := by decide +kernel
theorem dX9_byPair_16 : decode cX9_byPair 16 = .ok (.iaload, 1) := by decide +kernel
theorem dX9_byPair_17 : decode cX9_byPair 17 = .ok (.if_icmp .ne 16, 3) := by decide +kernel
theorem dX9_byPair_20 : decode cX9_byPair 20 = .ok (.aload_n 0, 1) := by decide +kernel
theorem dX9_byPair_21 : decode cX9_byPair 21 = .ok (.getfield 85, 3) := by decide +kernel
theorem dX9_byPair_24 : decode cX9_byPair 24 = .ok (.iload_n 1, 1) := by decide +kernel
theorem dX9_byPair_25 : decode cX9_byPair 25 = .ok (.iaload, 1) := by decide +kernel
theorem dX9_byPair_26 : decode cX9_byPair 26 = .ok (.invokestatic 105, 3) := by decide +kernel
theorem dX9_byPair_29 : decode cX9_byPair 29 = .ok (.iconst 2, 1) := by decide +kernel
theorem dX9_byPair_30 : decode cX9_byPair 30 = .ok (.if_icmp .eq 5, 3) := by decide +kernel
theorem dX9_byPair_33 : decode cX9_byPair 33 = .ok (.iconst 0, 1) := by decide +kernel
theorem dX9_byPair_34 : decode cX9_byPair 34 = .ok (.ireturn, 1) := by decide +kernel
theorem dX9_byPair_35 : decode cX9_byPair 35 = .ok (.iconst 0, 1) := by decide +kernel
theorem dX9_byPair_36 : decode cX9_byPair 36 = .ok (.istore_n 3, 1) := by decide +kernel
theorem dX9_byPair_37 : decode cX9_byPair 37 = .ok (.iconst 0, 1) := by decide +kernel
theorem dX9_byPair_38 : decode cX9_byPair 38 = .ok (.istore 4, 2) := by decide +kernel
theorem dX9_byPair_40 : decode cX9_byPair 40 = .ok (.iload 4, 2) := by decide +kernel
theorem dX9_byPair_42 : decode cX9_byPair 42 = .ok (.aload_n 0, 1) := by decide +kernel
theorem dX9_byPair_43 : decode cX9_byPair 43 = .ok (.getfield 7, 3) := by decide +kernel
theorem dX9_byPair_46 : decode cX9_byPair 46 = .ok (.aload_n 0, 1) := by decide +kernel
theorem dX9_byPair_47 : decode cX9_byPair 47 = .ok (.getfield 102, 3) := by decide +kernel
theorem dX9_byPair_50 : decode cX9_byPair 50 = .ok (.iaload, 1) := by decide +kernel
theorem dX9_byPair_51 : decode cX9_byPair 51 = .ok (.if_icmp .ge 40, 3) := by decide +kernel
theorem dX9_byPair_54 : decode cX9_byPair 54 = .ok (.iload_n 3, 1) := by decide +kernel
theorem dX9_byPair_55 : decode cX9_byPair 55 = .ok (.iload 4, 2) := by decide +kernel
theorem dX9_byPair_57 : decode cX9_byPair 57 = .ok (.iload_n 1, 1) := by decide +kernel
theorem dX9_byPair_58 : decode cX9_byPair 58 = .ok (.if_icmp .eq 9, 3) := by decide +kernel
theorem dX9_byPair_61 : decode cX9_byPair 61 = .ok (.iload 4, 2) := by decide +kernel
theorem dX9_byPair_63 : decode cX9_byPair 63 = .ok (.iload_n 2, 1) := by decide +kernel
theorem dX9_byPair_64 : decode cX9_byPair 64 = .ok (.if_icmp .ne 7, 3) := by decide +kernel
theorem dX9_byPair_67 : decode cX9_byPair 67 = .ok (.iconst 0, 1) := by decide +kernel
theorem dX9_byPair_68 : decode cX9_byPair 68 = .ok (.goto 15, 3) := by decide +kernel
theorem dX9_byPair_71 : decode cX9_byPair 71 = .ok (.aload_n 0, 1) := by decide +kernel
theorem dX9_byPair_72 : decode cX9_byPair 72 = .ok (.iload 4, 2) := by decide +kernel
theorem dX9_byPair_74 : decode cX9_byPair 74 = .ok (.aload_n 0, 1) := by decide +kernel
theorem dX9_byPair_75 : decode cX9_byPair 75 = .ok (.getfield 85, 3) := by decide +kernel
theorem dX9_byPair_78 : decode cX9_byPair 78 = .ok (.iload_n 1, 1) := by decide +kernel
theorem dX9_byPair_79 : decode cX9_byPair 79 = .ok (.iaload, 1) := by decide +kernel
theorem dX9_byPair_80 : decode cX9_byPair 80 = .ok (.invokevirtual 113, 3) := by decide +kernel
theorem dX9_byPair_83 : decode cX9_byPair 83 = .ok (.iadd, 1) := by decide +kernel
theorem dX9_byPair_84 : decode cX9_byPair 84 = .ok (.istore_n 3, 1) := by decide +kernel
theorem dX9_byPair_85 : decode cX9_byPair 85 = .ok (.iinc 4 1, 3) := by decide +kernel
theorem dX9_byPair_88 : decode cX9_byPair 88 = .ok (.goto (-48), 3) := by decide +kernel
theorem dX9_byPair_91 : decode cX9_byPair 91 = .ok (.iload_n 3, 1) := by decide +kernel
theorem dX9_byPair_92 : decode cX9_byPair 92 = .ok (.ireturn, 1) := by decide +kernel
theorem dX9_isStep_0 : decode cX9_isStep 0 = .ok (.iload_n 3, 1) := by decide +kernel
theorem dX9_isStep_1 : decode cX9_isStep 1 = .ok (.ifCond .ne 5, 3) := by decide +kernel
theorem dX9_isStep_4 : decode cX9_isStep 4 = .ok (.iconst 0, 1) := by decide +kernel
theorem dX9_isStep_5 : decode cX9_isStep 5 = .ok (.ireturn, 1) := by decide +kernel
theorem dX9_isStep_6 : decode cX9_isStep 6 = .ok (.bipush 36, 2) := by decide +kernel
theorem dX9_isStep_8 : decode cX9_isStep 8 = .ok (.aload_n 0, 1) := by decide +kernel
theorem dX9_isStep_9 : decode cX9_isStep 9 = .ok (.getfield 102, 3) := by decide +kernel
theorem dX9_isStep_12 : decode cX9_isStep 12 = .ok (.imul, 1) := by decide +kernel
theorem dX9_isStep_13 : decode cX9_isStep 13 = .ok (.aload_n 0, 1) := by decide +kernel
theorem dX9_isStep_14 : decode cX9_isStep 14 = .ok (.getfield 22, 3) := by decide +kernel
theorem dX9_isStep_17 : decode cX9_isStep 17 = .ok (.aload_n 0, 1) := by decide +kernel
theorem dX9_isStep_18 : decode cX9_isStep 18 = .ok (.getfield 102, 3) := by decide +kernel
theorem dX9_isStep_21 : decode cX9_isStep 21 = .ok (.iaload, 1) := by decide +kernel
theorem dX9_isStep_22 : decode cX9_isStep 22 = .ok (.iadd, 1) := by decide +kernel
theorem dX9_isStep_23 : decode cX9_isStep 23 = .ok (.istore 4, 2) := by decide +kernel
theorem dX9_isStep_25 : decode cX9_isStep 25 = .ok (.aload_n 0, 1) := by decide +kernel
theorem dX9_isStep_26 : decode cX9_isStep 26 = .ok (.getfield 40, 3) := by decide +kernel
theorem dX9_isStep_29 : decode cX9_isStep 29 = .ok (.iload 4, 2) := by decide +kernel
theorem dX9_isStep_31 : decode cX9_isStep 31 = .ok (.iload_n 1, 1) := by decide +kernel
theorem dX9_isStep_32 : decode cX9_isStep 32 = .ok (.iastore, 1) := by decide +kernel
theorem dX9_isStep_33 : decode cX9_isStep 33 = .ok (.aload_n 0, 1) := by decide +kernel
theorem dX9_isStep_34 : decode cX9_isStep 34 = .ok (.getfield 43, 3) := by decide +kernel
theorem dX9_isStep_37 : decode cX9_isStep 37 = .ok (.iload 4, 2) := by decide +kernel
theorem dX9_isStep_39 : decode cX9_isStep 39 = .ok (.iload_n 2, 1) := by decide +kernel
theorem dX9_isStep_40 : decode cX9_isStep 40 = .ok (.iastore, 1) := by decide +kernel
theorem dX9_isStep_41 : decode cX9_isStep 41 = .ok (.aload_n 0, 1) := by decide +kernel
theorem dX9_isStep_42 : decode cX9_isStep 42 = .ok (.getfield 46, 3) := by decide +kernel
theorem dX9_isStep_45 : decode cX9_isStep 45 = .ok (.iload 4, 2) := by decide +kernel
theorem dX9_isStep_47 : decode cX9_isStep 47 = .ok (.iload_n 3, 1) := by decide +kernel
theorem dX9_isStep_48 : decode cX9_isStep 48 = .ok (.iastore, 1) := by decide +kernel
theorem dX9_isStep_49 : decode cX9_isStep 49 = .ok (.aload_n 0, 1) := by decide +kernel
theorem dX9_isStep_50 : decode cX9_isStep 50 = .ok (.getfield 22, 3) := by decide +kernel
theorem dX9_isStep_53 : decode cX9_isStep 53 = .ok (.aload_n 0, 1) := by decide +kernel
theorem dX9_isStep_54 : decode cX9_isStep 54 = .ok (.getfield 102, 3) := by decide +kernel
theorem dX9_isStep_57 : decode cX9_isStep 57 = .ok (.dup2, 1) := by decide +kernel
theorem dX9_isStep_58 : decode cX9_isStep 58 = .ok (.iaload, 1) := by decide +kernel
theorem dX9_isStep_59 : decode cX9_isStep 59 = .ok (.iconst 1, 1) := by decide +kernel
theorem dX9_isStep_60 : decode cX9_isStep 60 = .ok (.iadd, 1) := by decide +kernel
theorem dX9_isStep_61 : decode cX9_isStep 61 = .ok (.iastore, 1) := by decide +kernel
theorem dX9_isStep_62 : decode cX9_isStep 62 = .ok (.iconst 1, 1) := by decide +kernel
theorem dX9_isStep_63 : decode cX9_isStep 63 = .ok (.ireturn, 1) := by decide +kernel
theorem dX9_isDone_0 : decode cX9_isDone 0 = .ok (.aload_n 0, 1) := by decide +kernel
theorem dX9_isDone_1 : decode cX9_isDone 1 = .ok (.getfield 7, 3) := by decide +kernel
theorem dX9_isDone_4 : decode cX9_isDone 4 = .ok (.aload_n 0, 1) := by decide +kernel
theorem dX9_isDone_5 : decode cX9_isDone 5 = .ok (.getfield 102, 3) := by decide +kernel
theorem dX9_isDone_8 : decode cX9_isDone 8 = .ok (.iaload, 1) := by decide +kernel
theorem dX9_isDone_9 : decode cX9_isDone 9 = .ok (.istore_n 2, 1) := by decide +kernel
theorem dX9_isDone_10 : decode cX9_isDone 10 = .ok (.iload_n 1, 1) := by decide +kernel
theorem dX9_isDone_11 : decode cX9_isDone 11 = .ok (.bipush 7, 2) := by decide +kernel
theorem dX9_isDone_13 : decode cX9_isDone 13 = .ok (.if_icmp .lt 9, 3) := by decide +kernel
theorem dX9_isDone_16 : decode cX9_isDone 16 = .ok (.iload_n 1, 1) := by decide +kernel
theorem dX9_isDone_17 : decode cX9_isDone 17 = .ok (.bipush 10, 2) := by decide +kernel
theorem dX9_isDone_19 : decode cX9_isDone 19 = .ok (.if_icmp .lt 51, 3) := by decide +kernel
theorem dX9_isDone_22 : decode cX9_isDone 22 = .ok (.iconst 0, 1) := by decide +kernel
theorem dX9_isDone_23 : decode cX9_isDone 23 = .ok (.istore_n 3, 1) := by decide +kernel
theorem dX9_isDone_24 : decode cX9_isDone 24 = .ok (.iload_n 3, 1) := by decide +kernel
theorem dX9_isDone_25 : decode cX9_isDone 25 = .ok (.aload_n 0, 1) := by decide +kernel
theorem dX9_isDone_26 : decode cX9_isDone 26 = .ok (.getfield 13, 3) := by decide +kernel
theorem dX9_isDone_29 : decode cX9_isDone 29 = .ok (.aload_n 0, 1) := by decide +kernel
theorem dX9_isDone_30 : decode cX9_isDone 30 = .ok (.getfield 102, 3) := by decide +kernel
theorem dX9_isDone_33 : decode cX9_isDone 33 = .ok (.iaload, 1) := by decide +kernel
theorem dX9_isDone_34 : decode cX9_isDone 34 = .ok (.if_icmp .ge 34, 3) := by decide +kernel
theorem dX9_isDone_37 : decode cX9_isDone 37 = .ok (.aload_n 0, 1) := by decide +kernel
theorem dX9_isDone_38 : decode cX9_isDone 38 = .ok (.iload_n 1, 1) := by decide +kernel
theorem dX9_isDone_39 : decode cX9_isDone 39 = .ok (.iload_n 3, 1) := by decide +kernel
theorem dX9_isDone_40 : decode cX9_isDone 40 = .ok (.aload_n 0, 1) := by decide +kernel
theorem dX9_isDone_41 : decode cX9_isDone 41 = .ok (.iload_n 1, 1) := by decide +kernel
theorem dX9_isDone_42 : decode cX9_isDone 42 = .ok (.bipush 8, 2) := by decide +kernel
theorem dX9_isDone_44 : decode cX9_isDone 44 = .ok (.aload_n 0, 1) := by decide +kernel
theorem dX9_isDone_45 : decode cX9_isDone 45 = .ok (.getfield 102, 3) := by decide +kernel
theorem dX9_isDone_48 : decode cX9_isDone 48 = .ok (.imul, 1) := by decide +kernel
theorem dX9_isDone_49 : decode cX9_isDone 49 = .ok (.iload_n 3, 1) := by decide +kernel
theorem dX9_isDone_50 : decode cX9_isDone 50 = .ok (.iadd, 1) := by decide +kernel
theorem dX9_isDone_51 : decode cX9_isDone 51 = .ok (.invokevirtual 140, 3) := by decide +kernel
theorem dX9_isDone_54 : decode cX9_isDone 54 = .ok (.invokevirtual 143, 3) := by decide +kernel
theorem dX9_isDone_57 : decode cX9_isDone 57 = .ok (.ifCond .eq 5, 3) := by decide +kernel
theorem dX9_isDone_60 : decode cX9_isDone 60 = .ok (.iconst 1, 1) := by decide +kernel
theorem dX9_isDone_61 : decode cX9_isDone 61 = .ok (.ireturn, 1) := by decide +kernel
theorem dX9_isDone_62 : decode cX9_isDone 62 = .ok (.iinc 3 1, 3) := by decide +kernel
theorem dX9_isDone_65 : decode cX9_isDone 65 = .ok (.goto (-41), 3) := by decide +kernel
theorem dX9_isDone_68 : decode cX9_isDone 68 = .ok (.iconst 0, 1) := by decide +kernel
theorem dX9_isDone_69 : decode cX9_isDone 69 = .ok (.ireturn, 1) := by decide +kernel
theorem dX9_isDone_70 : decode cX9_isDone 70 = .ok (.iload_n 1, 1) := by decide +kernel
theorem dX9_isDone_71 : decode cX9_isDone 71 = .ok (.bipush 9, 2) := by decide +kernel
theorem dX9_isDone_73 : decode cX9_isDone 73 = .ok (.if_icmp .ne 50, 3) := by decide +kernel
theorem dX9_isDone_76 : decode cX9_isDone 76 = .ok (.iconst 0, 1) := by decide +kernel
theorem dX9_isDone_77 : decode cX9_isDone 77 = .ok (.istore_n 3, 1) := by decide +kernel
theorem dX9_isDone_78 : decode cX9_isDone 78 = .ok (.iload_n 3, 1) := by decide +kernel
theorem dX9_isDone_79 : decode cX9_isDone 79 = .ok (.iload_n 2, 1) := by decide +kernel
theorem dX9_isDone_80 : decode cX9_isDone 80 = .ok (.iload_n 2, 1) := by decide +kernel
theorem dX9_isDone_81 : decode cX9_isDone 81 = .ok (.imul, 1) := by decide +kernel
theorem dX9_isDone_82 : decode cX9_isDone 82 = .ok (.if_icmp .ge 39, 3) := by decide +kernel
theorem dX9_isDone_85 : decode cX9_isDone 85 = .ok (.aload_n 0, 1) := by decide +kernel
theorem dX9_isDone_86 : decode cX9_isDone 86 = .ok (.iload_n 1, 1) := by decide +kernel
theorem dX9_isDone_87 : decode cX9_isDone 87 = .ok (.bipush 10, 2) := by decide +kernel
theorem dX9_isDone_89 : decode cX9_isDone 89 = .ok (.iload_n 3, 1) := by decide +kernel
theorem dX9_isDone_90 : decode cX9_isDone 90 = .ok (.iload_n 2, 1) := by decide +kernel
theorem dX9_isDone_91 : decode cX9_isDone 91 = .ok (.idiv, 1) := by decide +kernel
theorem dX9_isDone_92 : decode cX9_isDone 92 = .ok (.imul, 1) := by decide +kernel
theorem dX9_isDone_93 : decode cX9_isDone 93 = .ok (.iload_n 3, 1) := by decide +kernel
theorem dX9_isDone_94 : decode cX9_isDone 94 = .ok (.iload_n 2, 1) := by decide +kernel
theorem dX9_isDone_95 : decode cX9_isDone 95 = .ok (.irem, 1) := by decide +kernel
theorem dX9_isDone_96 : decode cX9_isDone 96 = .ok (.iadd, 1) := by decide +kernel
theorem dX9_isDone_97 : decode cX9_isDone 97 = .ok (.aload_n 0, 1) := by decide +kernel
theorem dX9_isDone_98 : decode cX9_isDone 98 = .ok (.iload_n 3, 1) := by decide +kernel
theorem dX9_isDone_99 : decode cX9_isDone 99 = .ok (.iload_n 2, 1) := by decide +kernel
theorem dX9_isDone_100 : decode cX9_isDone 100 = .ok (.idiv, 1) := by decide +kernel
theorem dX9_isDone_101 : decode cX9_isDone 101 = .ok (.iload_n 3, 1) := by decide +kernel
theorem dX9_isDone_102 : decode cX9_isDone 102 = .ok (.iload_n 2, 1) := by decide +kernel
theorem dX9_isDone_103 : decode cX9_isDone 103 = .ok (.irem, 1) := by decide +kernel
theorem dX9_isDone_104 : decode cX9_isDone 104 = .ok (.invokevirtual 147, 3) := by decide +kernel
theorem dX9_isDone_107 : decode cX9_isDone 107 = .ok (.invokevirtual 143, 3) := by decide +kernel
theorem dX9_isDone_110 : decode cX9_isDone 110 = .ok (.ifCond .eq 5, 3) := by decide +kernel
theorem dX9_isDone_113 : decode cX9_isDone 113 = .ok (.iconst 1, 1) := by decide +kernel
theorem dX9_isDone_114 : decode cX9_isDone 114 = .ok (.ireturn, 1) := by decide +kernel
theorem dX9_isDone_115 : decode cX9_isDone 115 = .ok (.iinc 3 1, 3) := by decide +kernel
theorem dX9_isDone_118 : decode cX9_isDone 118 = .ok (.goto (-40), 3) := by decide +kernel
theorem dX9_isDone_121 : decode cX9_isDone 121 = .ok (.iconst 0, 1) := by decide +kernel
theorem dX9_isDone_122 : decode cX9_isDone 122 = .ok (.ireturn, 1) := by decide +kernel
theorem dX9_isDone_123 : decode cX9_isDone 123 = .ok (.iconst 0, 1) := by decide +kernel
theorem dX9_isDone_124 : decode cX9_isDone 124 = .ok (.istore_n 3, 1) := by decide +kernel
theorem dX9_isDone_125 : decode cX9_isDone 125 = .ok (.iload_n 3, 1) := by decide +kernel
theorem dX9_isDone_126 : decode cX9_isDone 126 = .ok (.iload_n 2, 1) := by decide +kernel
theorem dX9_isDone_127 : decode cX9_isDone 127 = .ok (.if_icmp .ge 39, 3) := by decide +kernel
theorem dX9_isDone_130 : decode cX9_isDone 130 = .ok (.aload_n 0, 1) := by decide +kernel
theorem dX9_isDone_131 : decode cX9_isDone 131 = .ok (.iload_n 1, 1) := by decide +kernel
theorem dX9_isDone_132 : decode cX9_isDone 132 = .ok (.iload_n 3, 1) := by decide +kernel
theorem dX9_isDone_133 : decode cX9_isDone 133 = .ok (.iload_n 1, 1) := by decide +kernel
theorem dX9_isDone_134 : decode cX9_isDone 134 = .ok (.bipush 7, 2) := by decide +kernel
theorem dX9_isDone_136 : decode cX9_isDone 136 = .ok (.if_icmp .ne 11, 3) := by decide +kernel
theorem dX9_isDone_139 : decode cX9_isDone 139 = .ok (.aload_n 0, 1) := by decide +kernel
theorem dX9_isDone_140 : decode cX9_isDone 140 = .ok (.iload_n 3, 1) := by decide +kernel
theorem dX9_isDone_141 : decode cX9_isDone 141 = .ok (.invokevirtual 150, 3) := by decide +kernel
theorem dX9_isDone_144 : decode cX9_isDone 144 = .ok (.goto 8, 3) := by decide +kernel
theorem dX9_isDone_147 : decode cX9_isDone 147 = .ok (.aload_n 0, 1) := by decide +kernel
theorem dX9_isDone_148 : decode cX9_isDone 148 = .ok (.iload_n 3, 1) := by decide +kernel
theorem dX9_isDone_149 : decode cX9_isDone 149 = .ok (.invokevirtual 153, 3) := by decide +kernel
theorem dX9_isDone_152 : decode cX9_isDone 152 = .ok (.invokevirtual 143, 3) := by decide +kernel
theorem dX9_isDone_155 : decode cX9_isDone 155 = .ok (.ifCond .eq 5, 3) := by decide +kernel
theorem dX9_isDone_158 : decode cX9_isDone 158 = .ok (.iconst 1, 1) := by decide +kernel
theorem dX9_isDone_159 : decode cX9_isDone 159 = .ok (.ireturn, 1) := by decide +kernel
theorem dX9_isDone_160 : decode cX9_isDone 160 = .ok (.iinc 3 1, 3) := by decide +kernel
theorem dX9_isDone_163 : decode cX9_isDone 163 = .ok (.goto (-38), 3) := by decide +kernel
theorem dX9_isDone_166 : decode cX9_isDone 166 = .ok (.iconst 0, 1) := by decide +kernel
theorem dX9_isDone_167 : decode cX9_isDone 167 = .ok (.ireturn, 1) := by decide +kernel
theorem dX9_isAnyDone_0 : decode cX9_isAnyDone 0 = .ok (.iconst 0, 1) := by decide +kernel
theorem dX9_isAnyDone_1 : decode cX9_isAnyDone 1 = .ok (.istore_n 1, 1) := by decide +kernel
theorem dX9_isAnyDone_2 : decode cX9_isAnyDone 2 = .ok (.iload_n 1, 1) := by decide +kernel
theorem dX9_isAnyDone_3 : decode cX9_isAnyDone 3 = .ok (.bipush 10, 2) := by decide +kernel
theorem dX9_isAnyDone_5 : decode cX9_isAnyDone 5 = .ok (.aload_n 0, 1) := by decide +kernel
theorem dX9_isAnyDone_6 : decode cX9_isAnyDone 6 = .ok (.getfield 156, 3) := by decide +kernel
theorem dX9_isAnyDone_9 : decode cX9_isAnyDone 9 = .ok (.iadd, 1) := by decide +kernel
theorem dX9_isAnyDone_10 : decode cX9_isAnyDone 10 = .ok (.if_icmp .ge 37, 3) := by decide +kernel
theorem dX9_isAnyDone_13 : decode cX9_isAnyDone 13 = .ok (.iload_n 1, 1) := by decide +kernel
theorem dX9_isAnyDone_14 : decode cX9_isAnyDone 14 = .ok (.bipush 10, 2) := by decide +kernel
theorem dX9_isAnyDone_16 : decode cX9_isAnyDone 16 = .ok (.if_icmp .lt 15, 3) := by decide +kernel
theorem dX9_isAnyDone_19 : decode cX9_isAnyDone 19 = .ok (.aload_n 0, 1) := by decide +kernel
theorem dX9_isAnyDone_20 : decode cX9_isAnyDone 20 = .ok (.getfield 61, 3) := by decide +kernel
theorem dX9_isAnyDone_23 : decode cX9_isAnyDone 23 = .ok (.iload_n 1, 1) := by decide +kernel
theorem dX9_isAnyDone_24 : decode cX9_isAnyDone 24 = .ok (.bipush 10, 2) := by decide +kernel
theorem dX9_isAnyDone_26 : decode cX9_isAnyDone 26 = .ok (.isub, 1) := by decide +kernel
theorem dX9_isAnyDone_27 : decode cX9_isAnyDone 27 = .ok (.iaload, 1) := by decide +kernel
theorem dX9_isAnyDone_28 : decode cX9_isAnyDone 28 = .ok (.ifCond .ne 13, 3) := by decide +kernel
theorem dX9_isAnyDone_31 : decode cX9_isAnyDone 31 = .ok (.aload_n 0, 1) := by decide +kernel
theorem dX9_isAnyDone_32 : decode cX9_isAnyDone 32 = .ok (.iload_n 1, 1) := by decide +kernel
theorem dX9_isAnyDone_33 : decode cX9_isAnyDone 33 = .ok (.invokevirtual 159, 3) := by decide +kernel
theorem dX9_isAnyDone_36 : decode cX9_isAnyDone 36 = .ok (.ifCond .eq 5, 3) := by decide +kernel
theorem dX9_isAnyDone_39 : decode cX9_isAnyDone 39 = .ok (.iconst 1, 1) := by decide +kernel
theorem dX9_isAnyDone_40 : decode cX9_isAnyDone 40 = .ok (.ireturn, 1) := by decide +kernel
theorem dX9_isAnyDone_41 : decode cX9_isAnyDone 41 = .ok (.iinc 1 1, 3) := by decide +kernel
theorem dX9_isAnyDone_44 : decode cX9_isAnyDone 44 = .ok (.goto (-42), 3) := by decide +kernel
theorem dX9_isAnyDone_47 : decode cX9_isAnyDone 47 = .ok (.iconst 0, 1) := by decide +kernel
theorem dX9_isAnyDone_48 : decode cX9_isAnyDone 48 = .ok (.ireturn, 1) := by decide +kernel
theorem dX9_proves_0 : decode cX9_proves 0 = .ok (.aload_n 0, 1) := by decide +kernel
theorem dX9_proves_1 : decode cX9_proves 1 = .ok (.iload_n 1, 1) := by decide +kernel
theorem dX9_proves_2 : decode cX9_proves 2 = .ok (.putfield 102, 3) := by decide +kernel
theorem dX9_proves_5 : decode cX9_proves 5 = .ok (.aload_n 0, 1) := by decide +kernel
theorem dX9_proves_6 : decode cX9_proves 6 = .ok (.getfield 22, 3) := by decide +kernel
theorem dX9_proves_9 : decode cX9_proves 9 = .ok (.aload_n 0, 1) := by decide +kernel
theorem dX9_proves_10 : decode cX9_proves 10 = .ok (.getfield 102, 3) := by decide +kernel
theorem dX9_proves_13 : decode cX9_proves 13 = .ok (.iconst 0, 1) := by decide +kernel
theorem dX9_proves_14 : decode cX9_proves 14 = .ok (.iastore, 1) := by decide +kernel
theorem dX9_proves_15 : decode cX9_proves 15 = .ok (.iconst 0, 1) := by decide +kernel
theorem dX9_proves_16 : decode cX9_proves 16 = .ok (.istore_n 2, 1) := by decide +kernel
theorem dX9_proves_17 : decode cX9_proves 17 = .ok (.iload_n 2, 1) := by decide +kernel
theorem dX9_proves_18 : decode cX9_proves 18 = .ok (.aload_n 0, 1) := by decide +kernel
theorem dX9_proves_19 : decode cX9_proves 19 = .ok (.getfield 7, 3) := by decide +kernel
theorem dX9_proves_22 : decode cX9_proves 22 = .ok (.aload_n 0, 1) := by decide +kernel
theorem dX9_proves_23 : decode cX9_proves 23 = .ok (.getfield 102, 3) := by decide +kernel
theorem dX9_proves_26 : decode cX9_proves 26 = .ok (.iaload, 1) := by decide +kernel
theorem dX9_proves_27 : decode cX9_proves 27 = .ok (.if_icmp .ge 19, 3) := by decide +kernel
theorem dX9_proves_30 : decode cX9_proves 30 = .ok (.aload_n 0, 1) := by decide +kernel
theorem dX9_proves_31 : decode cX9_proves 31 = .ok (.getfield 85, 3) := by decide +kernel
theorem dX9_proves_34 : decode cX9_proves 34 = .ok (.iload_n 2, 1) := by decide +kernel
theorem dX9_proves_35 : decode cX9_proves 35 = .ok (.aload_n 0, 1) := by decide +kernel
theorem dX9_proves_36 : decode cX9_proves 36 = .ok (.invokevirtual 163, 3) := by decide +kernel
theorem dX9_proves_39 : decode cX9_proves 39 = .ok (.iastore, 1) := by decide +kernel
theorem dX9_proves_40 : decode cX9_proves 40 = .ok (.iinc 2 1, 3) := by decide +kernel
theorem dX9_proves_43 : decode cX9_proves 43 = .ok (.goto (-26), 3) := by decide +kernel
theorem dX9_proves_46 : decode cX9_proves 46 = .ok (.iconst 0, 1) := by decide +kernel
theorem dX9_proves_47 : decode cX9_proves 47 = .ok (.istore_n 2, 1) := by decide +kernel
theorem dX9_proves_48 : decode cX9_proves 48 = .ok (.iload_n 2, 1) := by decide +kernel
theorem dX9_proves_49 : decode cX9_proves 49 = .ok (.ifCond .ne 18, 3) := by decide +kernel
theorem dX9_proves_52 : decode cX9_proves 52 = .ok (.aload_n 0, 1) := by decide +kernel
theorem dX9_proves_53 : decode cX9_proves 53 = .ok (.invokevirtual 167, 3) := by decide +kernel
theorem dX9_proves_56 : decode cX9_proves 56 = .ok (.ifCond .eq 11, 3) := by decide +kernel
theorem dX9_proves_59 : decode cX9_proves 59 = .ok (.aload_n 0, 1) := by decide +kernel
theorem dX9_proves_60 : decode cX9_proves 60 = .ok (.invokevirtual 171, 3) := by decide +kernel
theorem dX9_proves_63 : decode cX9_proves 63 = .ok (.istore_n 2, 1) := by decide +kernel
theorem dX9_proves_64 : decode cX9_proves 64 = .ok (.goto (-16), 3) := by decide +kernel
theorem dX9_proves_67 : decode cX9_proves 67 = .ok (.iconst 1, 1) := by decide +kernel
theorem dX9_proves_68 : decode cX9_proves 68 = .ok (.istore_n 3, 1) := by decide +kernel
theorem dX9_proves_69 : decode cX9_proves 69 = .ok (.iconst 0, 1) := by decide +kernel
theorem dX9_proves_70 : decode cX9_proves 70 = .ok (.istore 4, 2) := by decide +kernel
theorem dX9_proves_72 : decode cX9_proves 72 = .ok (.iload 4, 2) := by decide +kernel
theorem dX9_proves_74 : decode cX9_proves 74 = .ok (.aload_n 0, 1) := by decide +kernel
theorem dX9_proves_75 : decode cX9_proves 75 = .ok (.getfield 7, 3) := by decide +kernel
theorem dX9_proves_78 : decode cX9_proves 78 = .ok (.aload_n 0, 1) := by decide +kernel
theorem dX9_proves_79 : decode cX9_proves 79 = .ok (.getfield 102, 3) := by decide +kernel
theorem dX9_proves_82 : decode cX9_proves 82 = .ok (.iaload, 1) := by decide +kernel
theorem dX9_proves_83 : decode cX9_proves 83 = .ok (.if_icmp .ge 33, 3) := by decide +kernel
theorem dX9_proves_86 : decode cX9_proves 86 = .ok (.iload_n 3, 1) := by decide +kernel
theorem dX9_proves_87 : decode cX9_proves 87 = .ok (.ifCond .eq 21, 3) := by decide +kernel
theorem dX9_proves_90 : decode cX9_proves 90 = .ok (.aload_n 0, 1) := by decide +kernel
theorem dX9_proves_91 : decode cX9_proves 91 = .ok (.getfield 85, 3) := by decide +kernel
theorem dX9_proves_94 : decode cX9_proves 94 = .ok (.iload 4, 2) := by decide +kernel
theorem dX9_proves_96 : decode cX9_proves 96 = .ok (.iaload, 1) := by decide +kernel
theorem dX9_proves_97 : decode cX9_proves 97 = .ok (.invokestatic 105, 3) := by decide +kernel
theorem dX9_proves_100 : decode cX9_proves 100 = .ok (.iconst 1, 1) := by decide +kernel
theorem dX9_proves_101 : decode cX9_proves 101 = .ok (.if_icmp .ne 7, 3) := by decide +kernel
theorem dX9_proves_104 : decode cX9_proves 104 = .ok (.iconst 1, 1) := by decide +kernel
theorem dX9_proves_105 : decode cX9_proves 105 = .ok (.goto 4, 3) := by decide +kernel
theorem dX9_proves_108 : decode cX9_proves 108 = .ok (.iconst 0, 1) := by decide +kernel
theorem dX9_proves_109 : decode cX9_proves 109 = .ok (.istore_n 3, 1) := by decide +kernel
theorem dX9_proves_110 : decode cX9_proves 110 = .ok (.iinc 4 1, 3) := by decide +kernel
theorem dX9_proves_113 : decode cX9_proves 113 = .ok (.goto (-41), 3) := by decide +kernel
theorem dX9_proves_116 : decode cX9_proves 116 = .ok (.aload_n 0, 1) := by decide +kernel
theorem dX9_proves_117 : decode cX9_proves 117 = .ok (.getfield 19, 3) := by decide +kernel
theorem dX9_proves_120 : decode cX9_proves 120 = .ok (.aload_n 0, 1) := by decide +kernel
theorem dX9_proves_121 : decode cX9_proves 121 = .ok (.getfield 102, 3) := by decide +kernel
theorem dX9_proves_124 : decode cX9_proves 124 = .ok (.iload_n 2, 1) := by decide +kernel
theorem dX9_proves_125 : decode cX9_proves 125 = .ok (.ifCond .eq 7, 3) := by decide +kernel
theorem dX9_proves_128 : decode cX9_proves 128 = .ok (.iconst 3, 1) := by decide +kernel
theorem dX9_proves_129 : decode cX9_proves 129 = .ok (.goto 12, 3) := by decide +kernel
theorem dX9_proves_132 : decode cX9_proves 132 = .ok (.iload_n 3, 1) := by decide +kernel
theorem dX9_proves_133 : decode cX9_proves 133 = .ok (.ifCond .eq 7, 3) := by decide +kernel
theorem dX9_proves_136 : decode cX9_proves 136 = .ok (.iconst 1, 1) := by decide +kernel
theorem dX9_proves_137 : decode cX9_proves 137 = .ok (.goto 4, 3) := by decide +kernel
theorem dX9_proves_140 : decode cX9_proves 140 = .ok (.iconst 2, 1) := by decide +kernel
theorem dX9_proves_141 : decode cX9_proves 141 = .ok (.iastore, 1) := by decide +kernel
theorem dX9_proves_142 : decode cX9_proves 142 = .ok (.aload_n 0, 1) := by decide +kernel
theorem dX9_proves_143 : decode cX9_proves 143 = .ok (.getfield 19, 3) := by decide +kernel
theorem dX9_proves_146 : decode cX9_proves 146 = .ok (.aload_n 0, 1) := by decide +kernel
theorem dX9_proves_147 : decode cX9_proves 147 = .ok (.getfield 102, 3) := by decide +kernel
theorem dX9_proves_150 : decode cX9_proves 150 = .ok (.iaload, 1) := by decide +kernel
theorem dX9_proves_151 : decode cX9_proves 151 = .ok (.ireturn, 1) := by decide +kernel
theorem dX9_leans_0 : decode cX9_leans 0 = .ok (.iconst 0, 1) := by decide +kernel
theorem dX9_leans_1 : decode cX9_leans 1 = .ok (.istore_n 3, 1) := by decide +kernel
theorem dX9_leans_2 : decode cX9_leans 2 = .ok (.iconst 0, 1) := by decide +kernel
theorem dX9_leans_3 : decode cX9_leans 3 = .ok (.istore 4, 2) := by decide +kernel
theorem dX9_leans_5 : decode cX9_leans 5 = .ok (.iload 4, 2) := by decide +kernel
theorem dX9_leans_7 : decode cX9_leans 7 = .ok (.aload_n 0, 1) := by decide +kernel
theorem dX9_leans_8 : decode cX9_leans 8 = .ok (.getfield 22, 3) := by decide +kernel
theorem dX9_leans_11 : decode cX9_leans 11 = .ok (.iload_n 1, 1) := by decide +kernel
theorem dX9_leans_12 : decode cX9_leans 12 = .ok (.iaload, 1) := by decide +kernel
theorem dX9_leans_13 : decode cX9_leans 13 = .ok (.if_icmp .ge 44, 3) := by decide +kernel
theorem dX9_leans_16 : decode cX9_leans 16 = .ok (.aload_n 0, 1) := by decide +kernel
theorem dX9_leans_17 : decode cX9_leans 17 = .ok (.getfield 19, 3) := by decide +kernel
theorem dX9_leans_20 : decode cX9_leans 20 = .ok (.iload_n 1, 1) := by decide +kernel
theorem dX9_leans_21 : decode cX9_leans 21 = .ok (.iaload, 1) := by decide +kernel
theorem dX9_leans_22 : decode cX9_leans 22 = .ok (.ifCond .eq 35, 3) := by decide +kernel
theorem dX9_leans_25 : decode cX9_leans 25 = .ok (.iload_n 3, 1) := by decide +kernel
theorem dX9_leans_26 : decode cX9_leans 26 = .ok (.ifCond .ne 19, 3) := by decide +kernel
theorem dX9_leans_29 : decode cX9_leans 29 = .ok (.aload_n 0, 1) := by decide +kernel
theorem dX9_leans_30 : decode cX9_leans 30 = .ok (.getfield 40, 3) := by decide +kernel
theorem dX9_leans_33 : decode cX9_leans 33 = .ok (.bipush 36, 2) := by decide +kernel
theorem dX9_leans_35 : decode cX9_leans 35 = .ok (.iload_n 1, 1) := by decide +kernel
theorem dX9_leans_36 : decode cX9_leans 36 = .ok (.imul, 1) := by decide +kernel
theorem dX9_leans_37 : decode cX9_leans 37 = .ok (.iload 4, 2) := by decide +kernel
theorem dX9_leans_39 : decode cX9_leans 39 = .ok (.iadd, 1) := by decide +kernel
theorem dX9_leans_40 : decode cX9_leans 40 = .ok (.iaload, 1) := by decide +kernel
theorem dX9_leans_41 : decode cX9_leans 41 = .ok (.iload_n 2, 1) := by decide +kernel
theorem dX9_leans_42 : decode cX9_leans 42 = .ok (.if_icmp .ne 7, 3) := by decide +kernel
theorem dX9_leans_45 : decode cX9_leans 45 = .ok (.iconst 1, 1) := by decide +kernel
theorem dX9_leans_46 : decode cX9_leans 46 = .ok (.goto 4, 3) := by decide +kernel
theorem dX9_leans_49 : decode cX9_leans 49 = .ok (.iconst 0, 1) := by decide +kernel
theorem dX9_leans_50 : decode cX9_leans 50 = .ok (.istore_n 3, 1) := by decide +kernel
theorem dX9_leans_51 : decode cX9_leans 51 = .ok (.iinc 4 1, 3) := by decide +kernel
theorem dX9_leans_54 : decode cX9_leans 54 = .ok (.goto (-49), 3) := by decide +kernel
theorem dX9_leans_57 : decode cX9_leans 57 = .ok (.iload_n 3, 1) := by decide +kernel
theorem dX9_leans_58 : decode cX9_leans 58 = .ok (.ireturn, 1) := by decide +kernel
theorem dX9_fits_0 : decode cX9_fits 0 = .ok (.aload_n 0, 1) := by decide +kernel
theorem dX9_fits_1 : decode cX9_fits 1 = .ok (.getfield 88, 3) := by decide +kernel
theorem dX9_fits_4 : decode cX9_fits 4 = .ok (.aload_n 0, 1) := by decide +kernel
theorem dX9_fits_5 : decode cX9_fits 5 = .ok (.getfield 31, 3) := by decide +kernel
theorem dX9_fits_8 : decode cX9_fits 8 = .ok (.iload_n 1, 1) := by decide +kernel
theorem dX9_fits_9 : decode cX9_fits 9 = .ok (.iaload, 1) := by decide +kernel
theorem dX9_fits_10 : decode cX9_fits 10 = .ok (.iaload, 1) := by decide +kernel
theorem dX9_fits_11 : decode cX9_fits 11 = .ok (.istore_n 2, 1) := by decide +kernel
theorem dX9_fits_12 : decode cX9_fits 12 = .ok (.aload_n 0, 1) := by decide +kernel
theorem dX9_fits_13 : decode cX9_fits 13 = .ok (.getfield 28, 3) := by decide +kernel
theorem dX9_fits_16 : decode cX9_fits 16 = .ok (.iload_n 1, 1) := by decide +kernel
theorem dX9_fits_17 : decode cX9_fits 17 = .ok (.iaload, 1) := by decide +kernel
theorem dX9_fits_18 : decode cX9_fits 18 = .ok (.bipush 112, 2) := by decide +kernel
theorem dX9_fits_20 : decode cX9_fits 20 = .ok (.if_icmp .eq 14, 3) := by decide +kernel
theorem dX9_fits_23 : decode cX9_fits 23 = .ok (.aload_n 0, 1) := by decide +kernel
theorem dX9_fits_24 : decode cX9_fits 24 = .ok (.getfield 28, 3) := by decide +kernel
theorem dX9_fits_27 : decode cX9_fits 27 = .ok (.iload_n 1, 1) := by decide +kernel
theorem dX9_fits_28 : decode cX9_fits 28 = .ok (.iaload, 1) := by decide +kernel
theorem dX9_fits_29 : decode cX9_fits 29 = .ok (.bipush 120, 2) := by decide +kernel
theorem dX9_fits_31 : decode cX9_fits 31 = .ok (.if_icmp .ne 12, 3) := by decide +kernel
theorem dX9_fits_34 : decode cX9_fits 34 = .ok (.aload_n 0, 1) := by decide +kernel
theorem dX9_fits_35 : decode cX9_fits 35 = .ok (.getfield 34, 3) := by decide +kernel
theorem dX9_fits_38 : decode cX9_fits 38 = .ok (.iload_n 1, 1) := by decide +kernel
theorem dX9_fits_39 : decode cX9_fits 39 = .ok (.iaload, 1) := by decide +kernel
theorem dX9_fits_40 : decode cX9_fits 40 = .ok (.goto 14, 3) := by decide +kernel
theorem dX9_fits_43 : decode cX9_fits 43 = .ok (.aload_n 0, 1) := by decide +kernel
theorem dX9_fits_44 : decode cX9_fits 44 = .ok (.getfield 88, 3) := by decide +kernel
theorem dX9_fits_47 : decode cX9_fits 47 = .ok (.aload_n 0, 1) := by decide +kernel
theorem dX9_fits_48 : decode cX9_fits 48 = .ok (.getfield 34, 3) := by decide +kernel
theorem dX9_fits_51 : decode cX9_fits 51 = .ok (.iload_n 1, 1) := by decide +kernel
theorem dX9_fits_52 : decode cX9_fits 52 = .ok (.iaload, 1) := by decide +kernel
theorem dX9_fits_53 : decode cX9_fits 53 = .ok (.iaload, 1) := by decide +kernel
theorem dX9_fits_54 : decode cX9_fits 54 = .ok (.istore_n 3, 1) := by decide +kernel
theorem dX9_fits_55 : decode cX9_fits 55 = .ok (.aload_n 0, 1) := by decide +kernel
theorem dX9_fits_56 : decode cX9_fits 56 = .ok (.getfield 28, 3) := by decide +kernel
theorem dX9_fits_59 : decode cX9_fits 59 = .ok (.iload_n 1, 1) := by decide +kernel
theorem dX9_fits_60 : decode cX9_fits 60 = .ok (.iaload, 1) := by decide +kernel
theorem dX9_fits_61 : decode cX9_fits 61 = .ok (.lookupswitch 155 #[(98, 81), (100, 125), (108, 112), (110, 92), (112, 59), (120, 70)], 59) := by decide +kernel
theorem dX9_fits_120 : decode cX9_fits 120 = .ok (.iload_n 2, 1) := by decide +kernel
theorem dX9_fits_121 : decode cX9_fits 121 = .ok (.iload_n 3, 1) := by decide +kernel
theorem dX9_fits_122 : decode cX9_fits 122 = .ok (.if_icmp .ne 7, 3) := by decide +kernel
theorem dX9_fits_125 : decode cX9_fits 125 = .ok (.iconst 1, 1) := by decide +kernel
theorem dX9_fits_126 : decode cX9_fits 126 = .ok (.goto 4, 3) := by decide +kernel
theorem dX9_fits_129 : decode cX9_fits 129 = .ok (.iconst 0, 1) := by decide +kernel
theorem dX9_fits_130 : decode cX9_fits 130 = .ok (.ireturn, 1) := by decide +kernel
theorem dX9_fits_131 : decode cX9_fits 131 = .ok (.iload_n 2, 1) := by decide +kernel
theorem dX9_fits_132 : decode cX9_fits 132 = .ok (.iload_n 3, 1) := by decide +kernel
theorem dX9_fits_133 : decode cX9_fits 133 = .ok (.if_icmp .eq 7, 3) := by decide +kernel
theorem dX9_fits_136 : decode cX9_fits 136 = .ok (.iconst 1, 1) := by decide +kernel
theorem dX9_fits_137 : decode cX9_fits 137 = .ok (.goto 4, 3) := by decide +kernel
theorem dX9_fits_140 : decode cX9_fits 140 = .ok (.iconst 0, 1) := by decide +kernel
theorem dX9_fits_141 : decode cX9_fits 141 = .ok (.ireturn, 1) := by decide +kernel
theorem dX9_fits_142 : decode cX9_fits 142 = .ok (.iload_n 2, 1) := by decide +kernel
theorem dX9_fits_143 : decode cX9_fits 143 = .ok (.iload_n 3, 1) := by decide +kernel
theorem dX9_fits_144 : decode cX9_fits 144 = .ok (.if_icmp .ge 7, 3) := by decide +kernel
theorem dX9_fits_147 : decode cX9_fits 147 = .ok (.iconst 1, 1) := by decide +kernel
theorem dX9_fits_148 : decode cX9_fits 148 = .ok (.goto 4, 3) := by decide +kernel
theorem dX9_fits_151 : decode cX9_fits 151 = .ok (.iconst 0, 1) := by decide +kernel
theorem dX9_fits_152 : decode cX9_fits 152 = .ok (.ireturn, 1) := by decide +kernel
theorem dX9_fits_153 : decode cX9_fits 153 = .ok (.iload_n 2, 1) := by decide +kernel
theorem dX9_fits_154 : decode cX9_fits 154 = .ok (.iload_n 3, 1) := by decide +kernel
theorem dX9_fits_155 : decode cX9_fits 155 = .ok (.isub, 1) := by decide +kernel
theorem dX9_fits_156 : decode cX9_fits 156 = .ok (.iconst 1, 1) := by decide +kernel
theorem dX9_fits_157 : decode cX9_fits 157 = .ok (.if_icmp .eq 10, 3) := by decide +kernel
theorem dX9_fits_160 : decode cX9_fits 160 = .ok (.iload_n 3, 1) := by decide +kernel
theorem dX9_fits_161 : decode cX9_fits 161 = .ok (.iload_n 2, 1) := by decide +kernel
theorem dX9_fits_162 : decode cX9_fits 162 = .ok (.isub, 1) := by decide +kernel
theorem dX9_fits_163 : decode cX9_fits 163 = .ok (.iconst 1, 1) := by decide +kernel
theorem dX9_fits_164 : decode cX9_fits 164 = .ok (.if_icmp .ne 7, 3) := by decide +kernel
theorem dX9_fits_167 : decode cX9_fits 167 = .ok (.iconst 1, 1) := by decide +kernel
theorem dX9_fits_168 : decode cX9_fits 168 = .ok (.goto 4, 3) := by decide +kernel
theorem dX9_fits_171 : decode cX9_fits 171 = .ok (.iconst 0, 1) := by decide +kernel
theorem dX9_fits_172 : decode cX9_fits 172 = .ok (.ireturn, 1) := by decide +kernel
theorem dX9_fits_173 : decode cX9_fits 173 = .ok (.iload_n 3, 1) := by decide +kernel
theorem dX9_fits_174 : decode cX9_fits 174 = .ok (.iload_n 2, 1) := by decide +kernel
theorem dX9_fits_175 : decode cX9_fits 175 = .ok (.isub, 1) := by decide +kernel
theorem dX9_fits_176 : decode cX9_fits 176 = .ok (.iconst 1, 1) := by decide +kernel
theorem dX9_fits_177 : decode cX9_fits 177 = .ok (.if_icmp .ne 7, 3) := by decide +kernel
theorem dX9_fits_180 : decode cX9_fits 180 = .ok (.iconst 1, 1) := by decide +kernel
theorem dX9_fits_181 : decode cX9_fits 181 = .ok (.goto 4, 3) := by decide +kernel
theorem dX9_fits_184 : decode cX9_fits 184 = .ok (.iconst 0, 1) := by decide +kernel
theorem dX9_fits_185 : decode cX9_fits 185 = .ok (.ireturn, 1) := by decide +kernel
theorem dX9_fits_186 : decode cX9_fits 186 = .ok (.iload_n 2, 1) := by decide +kernel
theorem dX9_fits_187 : decode cX9_fits 187 = .ok (.iload_n 3, 1) := by decide +kernel
theorem dX9_fits_188 : decode cX9_fits 188 = .ok (.isub, 1) := by decide +kernel
theorem dX9_fits_189 : decode cX9_fits 189 = .ok (.aload_n 0, 1) := by decide +kernel
theorem dX9_fits_190 : decode cX9_fits 190 = .ok (.getfield 37, 3) := by decide +kernel
theorem dX9_fits_193 : decode cX9_fits 193 = .ok (.iload_n 1, 1) := by decide +kernel
theorem dX9_fits_194 : decode cX9_fits 194 = .ok (.iaload, 1) := by decide +kernel
theorem dX9_fits_195 : decode cX9_fits 195 = .ok (.if_icmp .eq 15, 3) := by decide +kernel
theorem dX9_fits_198 : decode cX9_fits 198 = .ok (.iload_n 3, 1) := by decide +kernel
theorem dX9_fits_199 : decode cX9_fits 199 = .ok (.iload_n 2, 1) := by decide +kernel
theorem dX9_fits_200 : decode cX9_fits 200 = .ok (.isub, 1) := by decide +kernel
theorem dX9_fits_201 : decode cX9_fits 201 = .ok (.aload_n 0, 1) := by decide +kernel
theorem dX9_fits_202 : decode cX9_fits 202 = .ok (.getfield 37, 3) := by decide +kernel
theorem dX9_fits_205 : decode cX9_fits 205 = .ok (.iload_n 1, 1) := by decide +kernel
theorem dX9_fits_206 : decode cX9_fits 206 = .ok (.iaload, 1) := by decide +kernel
theorem dX9_fits_207 : decode cX9_fits 207 = .ok (.if_icmp .ne 7, 3) := by decide +kernel
theorem dX9_fits_210 : decode cX9_fits 210 = .ok (.iconst 1, 1) := by decide +kernel
theorem dX9_fits_211 : decode cX9_fits 211 = .ok (.goto 4, 3) := by decide +kernel
theorem dX9_fits_214 : decode cX9_fits 214 = .ok (.iconst 0, 1) := by decide +kernel
theorem dX9_fits_215 : decode cX9_fits 215 = .ok (.ireturn, 1) := by decide +kernel
theorem dX9_fits_216 : decode cX9_fits 216 = .ok (.iload_n 2, 1) := by decide +kernel
theorem dX9_fits_217 : decode cX9_fits 217 = .ok (.aload_n 0, 1) := by decide +kernel
theorem dX9_fits_218 : decode cX9_fits 218 = .ok (.getfield 88, 3) := by decide +kernel
theorem dX9_fits_221 : decode cX9_fits 221 = .ok (.aload_n 0, 1) := by decide +kernel
theorem dX9_fits_222 : decode cX9_fits 222 = .ok (.getfield 37, 3) := by decide +kernel
theorem dX9_fits_225 : decode cX9_fits 225 = .ok (.iload_n 1, 1) := by decide +kernel
theorem dX9_fits_226 : decode cX9_fits 226 = .ok (.iaload, 1) := by decide +kernel
theorem dX9_fits_227 : decode cX9_fits 227 = .ok (.iaload, 1) := by decide +kernel
theorem dX9_fits_228 : decode cX9_fits 228 = .ok (.if_icmp .ge 18, 3) := by decide +kernel
theorem dX9_fits_231 : decode cX9_fits 231 = .ok (.aload_n 0, 1) := by decide +kernel
theorem dX9_fits_232 : decode cX9_fits 232 = .ok (.getfield 88, 3) := by decide +kernel
theorem dX9_fits_235 : decode cX9_fits 235 = .ok (.aload_n 0, 1) := by decide +kernel
theorem dX9_fits_236 : decode cX9_fits 236 = .ok (.getfield 37, 3) := by decide +kernel
theorem dX9_fits_239 : decode cX9_fits 239 = .ok (.iload_n 1, 1) := by decide +kernel
theorem dX9_fits_240 : decode cX9_fits 240 = .ok (.iaload, 1) := by decide +kernel
theorem dX9_fits_241 : decode cX9_fits 241 = .ok (.iaload, 1) := by decide +kernel
theorem dX9_fits_242 : decode cX9_fits 242 = .ok (.iload_n 3, 1) := by decide +kernel
theorem dX9_fits_243 : decode cX9_fits 243 = .ok (.if_icmp .lt 33, 3) := by decide +kernel
theorem dX9_fits_246 : decode cX9_fits 246 = .ok (.iload_n 3, 1) := by decide +kernel
theorem dX9_fits_247 : decode cX9_fits 247 = .ok (.aload_n 0, 1) := by decide +kernel
theorem dX9_fits_248 : decode cX9_fits 248 = .ok (.getfield 88, 3) := by decide +kernel
theorem dX9_fits_251 : decode cX9_fits 251 = .ok (.aload_n 0, 1) := by decide +kernel
theorem dX9_fits_252 : decode cX9_fits 252 = .ok (.getfield 37, 3) := by decide +kernel
theorem dX9_fits_255 : decode cX9_fits 255 = .ok (.iload_n 1, 1) := by decide +kernel
theorem dX9_fits_256 : decode cX9_fits 256 = .ok (.iaload, 1) := by decide +kernel
theorem dX9_fits_257 : decode cX9_fits 257 = .ok (.iaload, 1) := by decide +kernel
theorem dX9_fits_258 : decode cX9_fits 258 = .ok (.if_icmp .ge 22, 3) := by decide +kernel
theorem dX9_fits_261 : decode cX9_fits 261 = .ok (.aload_n 0, 1) := by decide +kernel
theorem dX9_fits_262 : decode cX9_fits 262 = .ok (.getfield 88, 3) := by decide +kernel
theorem dX9_fits_265 : decode cX9_fits 265 = .ok (.aload_n 0, 1) := by decide +kernel
theorem dX9_fits_266 : decode cX9_fits 266 = .ok (.getfield 37, 3) := by decide +kernel
theorem dX9_fits_269 : decode cX9_fits 269 = .ok (.iload_n 1, 1) := by decide +kernel
theorem dX9_fits_270 : decode cX9_fits 270 = .ok (.iaload, 1) := by decide +kernel
theorem dX9_fits_271 : decode cX9_fits 271 = .ok (.iaload, 1) := by decide +kernel
theorem dX9_fits_272 : decode cX9_fits 272 = .ok (.iload_n 2, 1) := by decide +kernel
theorem dX9_fits_273 : decode cX9_fits 273 = .ok (.if_icmp .ge 7, 3) := by decide +kernel
theorem dX9_fits_276 : decode cX9_fits 276 = .ok (.iconst 1, 1) := by decide +kernel
theorem dX9_fits_277 : decode cX9_fits 277 = .ok (.goto 4, 3) := by decide +kernel
theorem dX9_fits_280 : decode cX9_fits 280 = .ok (.iconst 0, 1) := by decide +kernel
theorem dX9_fits_281 : decode cX9_fits 281 = .ok (.ireturn, 1) := by decide +kernel
theorem dX9_begins_0 : decode cX9_begins 0 = .ok (.iconst 0, 1) := by decide +kernel
theorem dX9_begins_1 : decode cX9_begins 1 = .ok (.istore_n 2, 1) := by decide +kernel
theorem dX9_begins_2 : decode cX9_begins 2 = .ok (.iload_n 2, 1) := by decide +kernel
theorem dX9_begins_3 : decode cX9_begins 3 = .ok (.iload_n 1, 1) := by decide +kernel
theorem dX9_begins_4 : decode cX9_begins 4 = .ok (.if_icmp .ge 16, 3) := by decide +kernel
theorem dX9_begins_7 : decode cX9_begins 7 = .ok (.aload_n 0, 1) := by decide +kernel
theorem dX9_begins_8 : decode cX9_begins 8 = .ok (.getfield 88, 3) := by decide +kernel
theorem dX9_begins_11 : decode cX9_begins 11 = .ok (.iload_n 2, 1) := by decide +kernel
theorem dX9_begins_12 : decode cX9_begins 12 = .ok (.iload_n 2, 1) := by decide +kernel
theorem dX9_begins_13 : decode cX9_begins 13 = .ok (.iastore, 1) := by decide +kernel
theorem dX9_begins_14 : decode cX9_begins 14 = .ok (.iinc 2 1, 3) := by decide +kernel
theorem dX9_begins_17 : decode cX9_begins 17 = .ok (.goto (-15), 3) := by decide +kernel
theorem dX9_begins_20 : decode cX9_begins 20 = .ok (.return_, 1) := by decide +kernel
theorem dX9_goesOn_0 : decode cX9_goesOn 0 = .ok (.iload_n 1, 1) := by decide +kernel
theorem dX9_goesOn_1 : decode cX9_goesOn 1 = .ok (.iconst 2, 1) := by decide +kernel
theorem dX9_goesOn_2 : decode cX9_goesOn 2 = .ok (.isub, 1) := by decide +kernel
theorem dX9_goesOn_3 : decode cX9_goesOn 3 = .ok (.istore_n 2, 1) := by decide +kernel
theorem dX9_goesOn_4 : decode cX9_goesOn 4 = .ok (.iload_n 2, 1) := by decide +kernel
theorem dX9_goesOn_5 : decode cX9_goesOn 5 = .ok (.ifCond .lt 26, 3) := by decide +kernel
theorem dX9_goesOn_8 : decode cX9_goesOn 8 = .ok (.aload_n 0, 1) := by decide +kernel
theorem dX9_goesOn_9 : decode cX9_goesOn 9 = .ok (.getfield 88, 3) := by decide +kernel
theorem dX9_goesOn_12 : decode cX9_goesOn 12 = .ok (.iload_n 2, 1) := by decide +kernel
theorem dX9_goesOn_13 : decode cX9_goesOn 13 = .ok (.iaload, 1) := by decide +kernel
theorem dX9_goesOn_14 : decode cX9_goesOn 14 = .ok (.aload_n 0, 1) := by decide +kernel
theorem dX9_goesOn_15 : decode cX9_goesOn 15 = .ok (.getfield 88, 3) := by decide +kernel
theorem dX9_goesOn_18 : decode cX9_goesOn 18 = .ok (.iload_n 2, 1) := by decide +kernel
theorem dX9_goesOn_19 : decode cX9_goesOn 19 = .ok (.iconst 1, 1) := by decide +kernel
theorem dX9_goesOn_20 : decode cX9_goesOn 20 = .ok (.iadd, 1) := by decide +kernel
theorem dX9_goesOn_21 : decode cX9_goesOn 21 = .ok (.iaload, 1) := by decide +kernel
theorem dX9_goesOn_22 : decode cX9_goesOn 22 = .ok (.if_icmp .le 9, 3) := by decide +kernel
theorem dX9_goesOn_25 : decode cX9_goesOn 25 = .ok (.iinc 2 (-1), 3) := by decide +kernel
theorem dX9_goesOn_28 : decode cX9_goesOn 28 = .ok (.goto (-24), 3) := by decide +kernel
theorem dX9_goesOn_31 : decode cX9_goesOn 31 = .ok (.iload_n 2, 1) := by decide +kernel
theorem dX9_goesOn_32 : decode cX9_goesOn 32 = .ok (.ifCond .ge 5, 3) := by decide +kernel
theorem dX9_goesOn_35 : decode cX9_goesOn 35 = .ok (.iconst 0, 1) := by decide +kernel
theorem dX9_goesOn_36 : decode cX9_goesOn 36 = .ok (.ireturn, 1) := by decide +kernel
theorem dX9_goesOn_37 : decode cX9_goesOn 37 = .ok (.iload_n 1, 1) := by decide +kernel
theorem dX9_goesOn_38 : decode cX9_goesOn 38 = .ok (.iconst 1, 1) := by decide +kernel
theorem dX9_goesOn_39 : decode cX9_goesOn 39 = .ok (.isub, 1) := by decide +kernel
theorem dX9_goesOn_40 : decode cX9_goesOn 40 = .ok (.istore_n 3, 1) := by decide +kernel
theorem dX9_goesOn_41 : decode cX9_goesOn 41 = .ok (.aload_n 0, 1) := by decide +kernel
theorem dX9_goesOn_42 : decode cX9_goesOn 42 = .ok (.getfield 88, 3) := by decide +kernel
theorem dX9_goesOn_45 : decode cX9_goesOn 45 = .ok (.iload_n 3, 1) := by decide +kernel
theorem dX9_goesOn_46 : decode cX9_goesOn 46 = .ok (.iaload, 1) := by decide +kernel
theorem dX9_goesOn_47 : decode cX9_goesOn 47 = .ok (.aload_n 0, 1) := by decide +kernel
theorem dX9_goesOn_48 : decode cX9_goesOn 48 = .ok (.getfield 88, 3) := by decide +kernel
theorem dX9_goesOn_51 : decode cX9_goesOn 51 = .ok (.iload_n 2, 1) := by decide +kernel
theorem dX9_goesOn_52 : decode cX9_goesOn 52 = .ok (.iaload, 1) := by decide +kernel
theorem dX9_goesOn_53 : decode cX9_goesOn 53 = .ok (.if_icmp .ge 9, 3) := by decide +kernel
theorem dX9_goesOn_56 : decode cX9_goesOn 56 = .ok (.iinc 3 (-1), 3) := by decide +kernel
theorem dX9_goesOn_59 : decode cX9_goesOn 59 = .ok (.goto (-18), 3) := by decide +kernel
theorem dX9_goesOn_62 : decode cX9_goesOn 62 = .ok (.aload_n 0, 1) := by decide +kernel
theorem dX9_goesOn_63 : decode cX9_goesOn 63 = .ok (.iload_n 2, 1) := by decide +kernel
theorem dX9_goesOn_64 : decode cX9_goesOn 64 = .ok (.iload_n 3, 1) := by decide +kernel
theorem dX9_goesOn_65 : decode cX9_goesOn 65 = .ok (.invokevirtual 174, 3) := by decide +kernel
theorem dX9_goesOn_68 : decode cX9_goesOn 68 = .ok (.iload_n 2, 1) := by decide +kernel
theorem dX9_goesOn_69 : decode cX9_goesOn 69 = .ok (.iconst 1, 1) := by decide +kernel
theorem dX9_goesOn_70 : decode cX9_goesOn 70 = .ok (.iadd, 1) := by decide +kernel
theorem dX9_goesOn_71 : decode cX9_goesOn 71 = .ok (.istore 4, 2) := by decide +kernel
theorem dX9_goesOn_73 : decode cX9_goesOn 73 = .ok (.iload_n 1, 1) := by decide +kernel
theorem dX9_goesOn_74 : decode cX9_goesOn 74 = .ok (.iconst 1, 1) := by decide +kernel
theorem dX9_goesOn_75 : decode cX9_goesOn 75 = .ok (.isub, 1) := by decide +kernel
theorem dX9_goesOn_76 : decode cX9_goesOn 76 = .ok (.istore 5, 2) := by decide +kernel
theorem dX9_goesOn_78 : decode cX9_goesOn 78 = .ok (.iload 4, 2) := by decide +kernel
theorem dX9_goesOn_80 : decode cX9_goesOn 80 = .ok (.iload 5, 2) := by decide +kernel
theorem dX9_goesOn_82 : decode cX9_goesOn 82 = .ok (.if_icmp .ge 20, 3) := by decide +kernel
theorem dX9_goesOn_85 : decode cX9_goesOn 85 = .ok (.aload_n 0, 1) := by decide +kernel
theorem dX9_goesOn_86 : decode cX9_goesOn 86 = .ok (.iload 4, 2) := by decide +kernel
theorem dX9_goesOn_88 : decode cX9_goesOn 88 = .ok (.iload 5, 2) := by decide +kernel
theorem dX9_goesOn_90 : decode cX9_goesOn 90 = .ok (.invokevirtual 174, 3) := by decide +kernel
theorem dX9_goesOn_93 : decode cX9_goesOn 93 = .ok (.iinc 4 1, 3) := by decide +kernel
theorem dX9_goesOn_96 : decode cX9_goesOn 96 = .ok (.iinc 5 (-1), 3) := by decide +kernel
theorem dX9_goesOn_99 : decode cX9_goesOn 99 = .ok (.goto (-21), 3) := by decide +kernel
theorem dX9_goesOn_102 : decode cX9_goesOn 102 = .ok (.iconst 1, 1) := by decide +kernel
theorem dX9_goesOn_103 : decode cX9_goesOn 103 = .ok (.ireturn, 1) := by decide +kernel
theorem dX9_swaps_0 : decode cX9_swaps 0 = .ok (.aload_n 0, 1) := by decide +kernel
theorem dX9_swaps_1 : decode cX9_swaps 1 = .ok (.getfield 88, 3) := by decide +kernel
theorem dX9_swaps_4 : decode cX9_swaps 4 = .ok (.iload_n 1, 1) := by decide +kernel
theorem dX9_swaps_5 : decode cX9_swaps 5 = .ok (.iaload, 1) := by decide +kernel
theorem dX9_swaps_6 : decode cX9_swaps 6 = .ok (.istore_n 3, 1) := by decide +kernel
theorem dX9_swaps_7 : decode cX9_swaps 7 = .ok (.aload_n 0, 1) := by decide +kernel
theorem dX9_swaps_8 : decode cX9_swaps 8 = .ok (.getfield 88, 3) := by decide +kernel
theorem dX9_swaps_11 : decode cX9_swaps 11 = .ok (.iload_n 1, 1) := by decide +kernel
theorem dX9_swaps_12 : decode cX9_swaps 12 = .ok (.aload_n 0, 1) := by decide +kernel
theorem dX9_swaps_13 : decode cX9_swaps 13 = .ok (.getfield 88, 3) := by decide +kernel
theorem dX9_swaps_16 : decode cX9_swaps 16 = .ok (.iload_n 2, 1) := by decide +kernel
theorem dX9_swaps_17 : decode cX9_swaps 17 = .ok (.iaload, 1) := by decide +kernel
theorem dX9_swaps_18 : decode cX9_swaps 18 = .ok (.iastore, 1) := by decide +kernel
theorem dX9_swaps_19 : decode cX9_swaps 19 = .ok (.aload_n 0, 1) := by decide +kernel
theorem dX9_swaps_20 : decode cX9_swaps 20 = .ok (.getfield 88, 3) := by decide +kernel
theorem dX9_swaps_23 : decode cX9_swaps 23 = .ok (.iload_n 2, 1) := by decide +kernel
theorem dX9_swaps_24 : decode cX9_swaps 24 = .ok (.iload_n 3, 1) := by decide +kernel
theorem dX9_swaps_25 : decode cX9_swaps 25 = .ok (.iastore, 1) := by decide +kernel
theorem dX9_swaps_26 : decode cX9_swaps 26 = .ok (.return_, 1) := by decide +kernel
theorem dX9_fitsAll_0 : decode cX9_fitsAll 0 = .ok (.iconst 1, 1) := by decide +kernel
theorem dX9_fitsAll_1 : decode cX9_fitsAll 1 = .ok (.istore_n 1, 1) := by decide +kernel
theorem dX9_fitsAll_2 : decode cX9_fitsAll 2 = .ok (.iconst 0, 1) := by decide +kernel
theorem dX9_fitsAll_3 : decode cX9_fitsAll 3 = .ok (.istore_n 2, 1) := by decide +kernel
theorem dX9_fitsAll_4 : decode cX9_fitsAll 4 = .ok (.iload_n 2, 1) := by decide +kernel
theorem dX9_fitsAll_5 : decode cX9_fitsAll 5 = .ok (.aload_n 0, 1) := by decide +kernel
theorem dX9_fitsAll_6 : decode cX9_fitsAll 6 = .ok (.getfield 13, 3) := by decide +kernel
theorem dX9_fitsAll_9 : decode cX9_fitsAll 9 = .ok (.aload_n 0, 1) := by decide +kernel
theorem dX9_fitsAll_10 : decode cX9_fitsAll 10 = .ok (.getfield 102, 3) := by decide +kernel
theorem dX9_fitsAll_13 : decode cX9_fitsAll 13 = .ok (.iaload, 1) := by decide +kernel
theorem dX9_fitsAll_14 : decode cX9_fitsAll 14 = .ok (.if_icmp .ge 35, 3) := by decide +kernel
theorem dX9_fitsAll_17 : decode cX9_fitsAll 17 = .ok (.iload_n 1, 1) := by decide +kernel
theorem dX9_fitsAll_18 : decode cX9_fitsAll 18 = .ok (.ifCond .eq 23, 3) := by decide +kernel
theorem dX9_fitsAll_21 : decode cX9_fitsAll 21 = .ok (.aload_n 0, 1) := by decide +kernel
theorem dX9_fitsAll_22 : decode cX9_fitsAll 22 = .ok (.bipush 8, 2) := by decide +kernel
theorem dX9_fitsAll_24 : decode cX9_fitsAll 24 = .ok (.aload_n 0, 1) := by decide +kernel
theorem dX9_fitsAll_25 : decode cX9_fitsAll 25 = .ok (.getfield 102, 3) := by decide +kernel
theorem dX9_fitsAll_28 : decode cX9_fitsAll 28 = .ok (.imul, 1) := by decide +kernel
theorem dX9_fitsAll_29 : decode cX9_fitsAll 29 = .ok (.iload_n 2, 1) := by decide +kernel
theorem dX9_fitsAll_30 : decode cX9_fitsAll 30 = .ok (.iadd, 1) := by decide +kernel
theorem dX9_fitsAll_31 : decode cX9_fitsAll 31 = .ok (.invokevirtual 178, 3) := by decide +kernel
theorem dX9_fitsAll_34 : decode cX9_fitsAll 34 = .ok (.ifCond .eq 7, 3) := by decide +kernel
theorem dX9_fitsAll_37 : decode cX9_fitsAll 37 = .ok (.iconst 1, 1) := by decide +kernel
theorem dX9_fitsAll_38 : decode cX9_fitsAll 38 = .ok (.goto 4, 3) := by decide +kernel
theorem dX9_fitsAll_41 : decode cX9_fitsAll 41 = .ok (.iconst 0, 1) := by decide +kernel
theorem dX9_fitsAll_42 : decode cX9_fitsAll 42 = .ok (.istore_n 1, 1) := by decide +kernel
theorem dX9_fitsAll_43 : decode cX9_fitsAll 43 = .ok (.iinc 2 1, 3) := by decide +kernel
theorem dX9_fitsAll_46 : decode cX9_fitsAll 46 = .ok (.goto (-42), 3) := by decide +kernel
theorem dX9_fitsAll_49 : decode cX9_fitsAll 49 = .ok (.iload_n 1, 1) := by decide +kernel
theorem dX9_fitsAll_50 : decode cX9_fitsAll 50 = .ok (.ireturn, 1) := by decide +kernel
theorem dX9_answersOf_0 : decode cX9_answersOf 0 = .ok (.aload_n 0, 1) := by decide +kernel
theorem dX9_answersOf_1 : decode cX9_answersOf 1 = .ok (.iload_n 1, 1) := by decide +kernel
theorem dX9_answersOf_2 : decode cX9_answersOf 2 = .ok (.putfield 102, 3) := by decide +kernel
theorem dX9_answersOf_5 : decode cX9_answersOf 5 = .ok (.aload_n 0, 1) := by decide +kernel
theorem dX9_answersOf_6 : decode cX9_answersOf 6 = .ok (.iconst 0, 1) := by decide +kernel
theorem dX9_answersOf_7 : decode cX9_answersOf 7 = .ok (.putfield 181, 3) := by decide +kernel
theorem dX9_answersOf_10 : decode cX9_answersOf 10 = .ok (.aload_n 0, 1) := by decide +kernel
theorem dX9_answersOf_11 : decode cX9_answersOf 11 = .ok (.aload_n 0, 1) := by decide +kernel
theorem dX9_answersOf_12 : decode cX9_answersOf 12 = .ok (.getfield 7, 3) := by decide +kernel
theorem dX9_answersOf_15 : decode cX9_answersOf 15 = .ok (.aload_n 0, 1) := by decide +kernel
theorem dX9_answersOf_16 : decode cX9_answersOf 16 = .ok (.getfield 102, 3) := by decide +kernel
theorem dX9_answersOf_19 : decode cX9_answersOf 19 = .ok (.iaload, 1) := by decide +kernel
theorem dX9_answersOf_20 : decode cX9_answersOf 20 = .ok (.invokevirtual 184, 3) := by decide +kernel
theorem dX9_answersOf_23 : decode cX9_answersOf 23 = .ok (.iconst 1, 1) := by decide +kernel
theorem dX9_answersOf_24 : decode cX9_answersOf 24 = .ok (.istore_n 2, 1) := by decide +kernel
theorem dX9_answersOf_25 : decode cX9_answersOf 25 = .ok (.iload_n 2, 1) := by decide +kernel
theorem dX9_answersOf_26 : decode cX9_answersOf 26 = .ok (.ifCond .eq 91, 3) := by decide +kernel
theorem dX9_answersOf_29 : decode cX9_answersOf 29 = .ok (.aload_n 0, 1) := by decide +kernel
theorem dX9_answersOf_30 : decode cX9_answersOf 30 = .ok (.invokevirtual 188, 3) := by decide +kernel
theorem dX9_answersOf_33 : decode cX9_answersOf 33 = .ok (.istore_n 3, 1) := by decide +kernel
theorem dX9_answersOf_34 : decode cX9_answersOf 34 = .ok (.iconst 0, 1) := by decide +kernel
theorem dX9_answersOf_35 : decode cX9_answersOf 35 = .ok (.istore 4, 2) := by decide +kernel
theorem dX9_answersOf_37 : decode cX9_answersOf 37 = .ok (.iload_n 3, 1) := by decide +kernel
theorem dX9_answersOf_38 : decode cX9_answersOf 38 = .ok (.ifCond .eq 44, 3) := by decide +kernel
theorem dX9_answersOf_41 : decode cX9_answersOf 41 = .ok (.aload_n 0, 1) := by decide +kernel
theorem dX9_answersOf_42 : decode cX9_answersOf 42 = .ok (.getfield 181, 3) := by decide +kernel
theorem dX9_answersOf_45 : decode cX9_answersOf 45 = .ok (.ifCond .ne 37, 3) := by decide +kernel
theorem dX9_answersOf_48 : decode cX9_answersOf 48 = .ok (.iload 4, 2) := by decide +kernel
theorem dX9_answersOf_50 : decode cX9_answersOf 50 = .ok (.aload_n 0, 1) := by decide +kernel
theorem dX9_answersOf_51 : decode cX9_answersOf 51 = .ok (.getfield 7, 3) := by decide +kernel
theorem dX9_answersOf_54 : decode cX9_answersOf 54 = .ok (.aload_n 0, 1) := by decide +kernel
theorem dX9_answersOf_55 : decode cX9_answersOf 55 = .ok (.getfield 102, 3) := by decide +kernel
theorem dX9_answersOf_58 : decode cX9_answersOf 58 = .ok (.iaload, 1) := by decide +kernel
theorem dX9_answersOf_59 : decode cX9_answersOf 59 = .ok (.if_icmp .ge 23, 3) := by decide +kernel
theorem dX9_answersOf_62 : decode cX9_answersOf 62 = .ok (.aload_n 0, 1) := by decide +kernel
theorem dX9_answersOf_63 : decode cX9_answersOf 63 = .ok (.getfield 91, 3) := by decide +kernel
theorem dX9_answersOf_66 : decode cX9_answersOf 66 = .ok (.iload 4, 2) := by decide +kernel
theorem dX9_answersOf_68 : decode cX9_answersOf 68 = .ok (.aload_n 0, 1) := by decide +kernel
theorem dX9_answersOf_69 : decode cX9_answersOf 69 = .ok (.getfield 88, 3) := by decide +kernel
theorem dX9_answersOf_72 : decode cX9_answersOf 72 = .ok (.iload 4, 2) := by decide +kernel
theorem dX9_answersOf_74 : decode cX9_answersOf 74 = .ok (.iaload, 1) := by decide +kernel
theorem dX9_answersOf_75 : decode cX9_answersOf 75 = .ok (.iastore, 1) := by decide +kernel
theorem dX9_answersOf_76 : decode cX9_answersOf 76 = .ok (.iinc 4 1, 3) := by decide +kernel
theorem dX9_answersOf_79 : decode cX9_answersOf 79 = .ok (.goto (-42), 3) := by decide +kernel
theorem dX9_answersOf_82 : decode cX9_answersOf 82 = .ok (.aload_n 0, 1) := by decide +kernel
theorem dX9_answersOf_83 : decode cX9_answersOf 83 = .ok (.dup, 1) := by decide +kernel
theorem dX9_answersOf_84 : decode cX9_answersOf 84 = .ok (.getfield 181, 3) := by decide +kernel
theorem dX9_answersOf_87 : decode cX9_answersOf 87 = .ok (.iload_n 3, 1) := by decide +kernel
theorem dX9_answersOf_88 : decode cX9_answersOf 88 = .ok (.ifCond .eq 7, 3) := by decide +kernel
theorem dX9_answersOf_91 : decode cX9_answersOf 91 = .ok (.iconst 1, 1) := by decide +kernel
theorem dX9_answersOf_92 : decode cX9_answersOf 92 = .ok (.goto 4, 3) := by decide +kernel
theorem dX9_answersOf_95 : decode cX9_answersOf 95 = .ok (.iconst 0, 1) := by decide +kernel
theorem dX9_answersOf_96 : decode cX9_answersOf 96 = .ok (.iadd, 1) := by decide +kernel
theorem dX9_answersOf_97 : decode cX9_answersOf 97 = .ok (.putfield 181, 3) := by decide +kernel
theorem dX9_answersOf_100 : decode cX9_answersOf 100 = .ok (.aload_n 0, 1) := by decide +kernel
theorem dX9_answersOf_101 : decode cX9_answersOf 101 = .ok (.aload_n 0, 1) := by decide +kernel
theorem dX9_answersOf_102 : decode cX9_answersOf 102 = .ok (.getfield 7, 3) := by decide +kernel
theorem dX9_answersOf_105 : decode cX9_answersOf 105 = .ok (.aload_n 0, 1) := by decide +kernel
theorem dX9_answersOf_106 : decode cX9_answersOf 106 = .ok (.getfield 102, 3) := by decide +kernel
theorem dX9_answersOf_109 : decode cX9_answersOf 109 = .ok (.iaload, 1) := by decide +kernel
theorem dX9_answersOf_110 : decode cX9_answersOf 110 = .ok (.invokevirtual 191, 3) := by decide +kernel
theorem dX9_answersOf_113 : decode cX9_answersOf 113 = .ok (.istore_n 2, 1) := by decide +kernel
theorem dX9_answersOf_114 : decode cX9_answersOf 114 = .ok (.goto (-89), 3) := by decide +kernel
theorem dX9_answersOf_117 : decode cX9_answersOf 117 = .ok (.aload_n 0, 1) := by decide +kernel
theorem dX9_answersOf_118 : decode cX9_answersOf 118 = .ok (.getfield 181, 3) := by decide +kernel
theorem dX9_answersOf_121 : decode cX9_answersOf 121 = .ok (.ireturn, 1) := by decide +kernel
theorem dX9_isAgainst_0 : decode cX9_isAgainst 0 = .ok (.aload_n 0, 1) := by decide +kernel
theorem dX9_isAgainst_1 : decode cX9_isAgainst 1 = .ok (.getfield 88, 3) := by decide +kernel
theorem dX9_isAgainst_4 : decode cX9_isAgainst 4 = .ok (.iconst 0, 1) := by decide +kernel
theorem dX9_isAgainst_5 : decode cX9_isAgainst 5 = .ok (.iaload, 1) := by decide +kernel
theorem dX9_isAgainst_6 : decode cX9_isAgainst 6 = .ok (.istore_n 3, 1) := by decide +kernel
theorem dX9_isAgainst_7 : decode cX9_isAgainst 7 = .ok (.aload_n 0, 1) := by decide +kernel
theorem dX9_isAgainst_8 : decode cX9_isAgainst 8 = .ok (.getfield 88, 3) := by decide +kernel
theorem dX9_isAgainst_11 : decode cX9_isAgainst 11 = .ok (.iconst 1, 1) := by decide +kernel
theorem dX9_isAgainst_12 : decode cX9_isAgainst 12 = .ok (.iaload, 1) := by decide +kernel
theorem dX9_isAgainst_13 : decode cX9_isAgainst 13 = .ok (.istore 4, 2) := by decide +kernel
theorem dX9_isAgainst_15 : decode cX9_isAgainst 15 = .ok (.aload_n 0, 1) := by decide +kernel
theorem dX9_isAgainst_16 : decode cX9_isAgainst 16 = .ok (.getfield 49, 3) := by decide +kernel
theorem dX9_isAgainst_19 : decode cX9_isAgainst 19 = .ok (.iload_n 1, 1) := by decide +kernel
theorem dX9_isAgainst_20 : decode cX9_isAgainst 20 = .ok (.iaload, 1) := by decide +kernel
theorem dX9_isAgainst_21 : decode cX9_isAgainst 21 = .ok (.bipush 98, 2) := by decide +kernel
theorem dX9_isAgainst_23 : decode cX9_isAgainst 23 = .ok (.if_icmp .ne 17, 3) := by decide +kernel
theorem dX9_isAgainst_26 : decode cX9_isAgainst 26 = .ok (.iload_n 3, 1) := by decide +kernel
theorem dX9_isAgainst_27 : decode cX9_isAgainst 27 = .ok (.iload 4, 2) := by decide +kernel
theorem dX9_isAgainst_29 : decode cX9_isAgainst 29 = .ok (.if_icmp .ge 7, 3) := by decide +kernel
theorem dX9_isAgainst_32 : decode cX9_isAgainst 32 = .ok (.iconst 1, 1) := by decide +kernel
theorem dX9_isAgainst_33 : decode cX9_isAgainst 33 = .ok (.goto 116, 3) := by decide +kernel
theorem dX9_isAgainst_36 : decode cX9_isAgainst 36 = .ok (.iconst 0, 1) := by decide +kernel
theorem dX9_isAgainst_37 : decode cX9_isAgainst 37 = .ok (.goto 112, 3) := by decide +kernel
theorem dX9_isAgainst_40 : decode cX9_isAgainst 40 = .ok (.aload_n 0, 1) := by decide +kernel
theorem dX9_isAgainst_41 : decode cX9_isAgainst 41 = .ok (.getfield 49, 3) := by decide +kernel
theorem dX9_isAgainst_44 : decode cX9_isAgainst 44 = .ok (.iload_n 1, 1) := by decide +kernel
theorem dX9_isAgainst_45 : decode cX9_isAgainst 45 = .ok (.iaload, 1) := by decide +kernel
theorem dX9_isAgainst_46 : decode cX9_isAgainst 46 = .ok (.bipush 110, 2) := by decide +kernel
theorem dX9_isAgainst_48 : decode cX9_isAgainst 48 = .ok (.if_icmp .ne 27, 3) := by decide +kernel
theorem dX9_isAgainst_51 : decode cX9_isAgainst 51 = .ok (.iload_n 3, 1) := by decide +kernel
theorem dX9_isAgainst_52 : decode cX9_isAgainst 52 = .ok (.iload 4, 2) := by decide +kernel
theorem dX9_isAgainst_54 : decode cX9_isAgainst 54 = .ok (.isub, 1) := by decide +kernel
theorem dX9_isAgainst_55 : decode cX9_isAgainst 55 = .ok (.iconst 1, 1) := by decide +kernel
theorem dX9_isAgainst_56 : decode cX9_isAgainst 56 = .ok (.if_icmp .eq 11, 3) := by decide +kernel
theorem dX9_isAgainst_59 : decode cX9_isAgainst 59 = .ok (.iload 4, 2) := by decide +kernel
theorem dX9_isAgainst_61 : decode cX9_isAgainst 61 = .ok (.iload_n 3, 1) := by decide +kernel
theorem dX9_isAgainst_62 : decode cX9_isAgainst 62 = .ok (.isub, 1) := by decide +kernel
theorem dX9_isAgainst_63 : decode cX9_isAgainst 63 = .ok (.iconst 1, 1) := by decide +kernel
theorem dX9_isAgainst_64 : decode cX9_isAgainst 64 = .ok (.if_icmp .ne 7, 3) := by decide +kernel
theorem dX9_isAgainst_67 : decode cX9_isAgainst 67 = .ok (.iconst 1, 1) := by decide +kernel
theorem dX9_isAgainst_68 : decode cX9_isAgainst 68 = .ok (.goto 81, 3) := by decide +kernel
theorem dX9_isAgainst_71 : decode cX9_isAgainst 71 = .ok (.iconst 0, 1) := by decide +kernel
theorem dX9_isAgainst_72 : decode cX9_isAgainst 72 = .ok (.goto 77, 3) := by decide +kernel
theorem dX9_isAgainst_75 : decode cX9_isAgainst 75 = .ok (.aload_n 0, 1) := by decide +kernel
theorem dX9_isAgainst_76 : decode cX9_isAgainst 76 = .ok (.getfield 49, 3) := by decide +kernel
theorem dX9_isAgainst_79 : decode cX9_isAgainst 79 = .ok (.iload_n 1, 1) := by decide +kernel
theorem dX9_isAgainst_80 : decode cX9_isAgainst 80 = .ok (.iaload, 1) := by decide +kernel
theorem dX9_isAgainst_81 : decode cX9_isAgainst 81 = .ok (.bipush 108, 2) := by decide +kernel
theorem dX9_isAgainst_83 : decode cX9_isAgainst 83 = .ok (.if_icmp .ne 19, 3) := by decide +kernel
theorem dX9_isAgainst_86 : decode cX9_isAgainst 86 = .ok (.iload 4, 2) := by decide +kernel
theorem dX9_isAgainst_88 : decode cX9_isAgainst 88 = .ok (.iload_n 3, 1) := by decide +kernel
theorem dX9_isAgainst_89 : decode cX9_isAgainst 89 = .ok (.isub, 1) := by decide +kernel
theorem dX9_isAgainst_90 : decode cX9_isAgainst 90 = .ok (.iconst 1, 1) := by decide +kernel
theorem dX9_isAgainst_91 : decode cX9_isAgainst 91 = .ok (.if_icmp .ne 7, 3) := by decide +kernel
theorem dX9_isAgainst_94 : decode cX9_isAgainst 94 = .ok (.iconst 1, 1) := by decide +kernel
theorem dX9_isAgainst_95 : decode cX9_isAgainst 95 = .ok (.goto 54, 3) := by decide +kernel
theorem dX9_isAgainst_98 : decode cX9_isAgainst 98 = .ok (.iconst 0, 1) := by decide +kernel
theorem dX9_isAgainst_99 : decode cX9_isAgainst 99 = .ok (.goto 50, 3) := by decide +kernel
theorem dX9_isAgainst_102 : decode cX9_isAgainst 102 = .ok (.iload_n 3, 1) := by decide +kernel
theorem dX9_isAgainst_103 : decode cX9_isAgainst 103 = .ok (.aload_n 0, 1) := by decide +kernel
theorem dX9_isAgainst_104 : decode cX9_isAgainst 104 = .ok (.getfield 88, 3) := by decide +kernel
theorem dX9_isAgainst_107 : decode cX9_isAgainst 107 = .ok (.iconst 2, 1) := by decide +kernel
theorem dX9_isAgainst_108 : decode cX9_isAgainst 108 = .ok (.iaload, 1) := by decide +kernel
theorem dX9_isAgainst_109 : decode cX9_isAgainst 109 = .ok (.if_icmp .ge 14, 3) := by decide +kernel
theorem dX9_isAgainst_112 : decode cX9_isAgainst 112 = .ok (.aload_n 0, 1) := by decide +kernel
theorem dX9_isAgainst_113 : decode cX9_isAgainst 113 = .ok (.getfield 88, 3) := by decide +kernel
theorem dX9_isAgainst_116 : decode cX9_isAgainst 116 = .ok (.iconst 2, 1) := by decide +kernel
theorem dX9_isAgainst_117 : decode cX9_isAgainst 117 = .ok (.iaload, 1) := by decide +kernel
theorem dX9_isAgainst_118 : decode cX9_isAgainst 118 = .ok (.iload 4, 2) := by decide +kernel
theorem dX9_isAgainst_120 : decode cX9_isAgainst 120 = .ok (.if_icmp .lt 24, 3) := by decide +kernel
theorem dX9_isAgainst_123 : decode cX9_isAgainst 123 = .ok (.iload 4, 2) := by decide +kernel
theorem dX9_isAgainst_125 : decode cX9_isAgainst 125 = .ok (.aload_n 0, 1) := by decide +kernel
theorem dX9_isAgainst_126 : decode cX9_isAgainst 126 = .ok (.getfield 88, 3) := by decide +kernel
theorem dX9_isAgainst_129 : decode cX9_isAgainst 129 = .ok (.iconst 2, 1) := by decide +kernel
theorem dX9_isAgainst_130 : decode cX9_isAgainst 130 = .ok (.iaload, 1) := by decide +kernel
theorem dX9_isAgainst_131 : decode cX9_isAgainst 131 = .ok (.if_icmp .ge 17, 3) := by decide +kernel
theorem dX9_isAgainst_134 : decode cX9_isAgainst 134 = .ok (.aload_n 0, 1) := by decide +kernel
theorem dX9_isAgainst_135 : decode cX9_isAgainst 135 = .ok (.getfield 88, 3) := by decide +kernel
theorem dX9_isAgainst_138 : decode cX9_isAgainst 138 = .ok (.iconst 2, 1) := by decide +kernel
theorem dX9_isAgainst_139 : decode cX9_isAgainst 139 = .ok (.iaload, 1) := by decide +kernel
theorem dX9_isAgainst_140 : decode cX9_isAgainst 140 = .ok (.iload_n 3, 1) := by decide +kernel
theorem dX9_isAgainst_141 : decode cX9_isAgainst 141 = .ok (.if_icmp .ge 7, 3) := by decide +kernel
theorem dX9_isAgainst_144 : decode cX9_isAgainst 144 = .ok (.iconst 1, 1) := by decide +kernel
theorem dX9_isAgainst_145 : decode cX9_isAgainst 145 = .ok (.goto 4, 3) := by decide +kernel
theorem dX9_isAgainst_148 : decode cX9_isAgainst 148 = .ok (.iconst 0, 1) := by decide +kernel
theorem dX9_isAgainst_149 : decode cX9_isAgainst 149 = .ok (.istore 5, 2) := by decide +kernel
theorem dX9_isAgainst_151 : decode cX9_isAgainst 151 = .ok (.aload_n 0, 1) := by decide +kernel
theorem dX9_isAgainst_152 : decode cX9_isAgainst 152 = .ok (.getfield 88, 3) := by decide +kernel
theorem dX9_isAgainst_155 : decode cX9_isAgainst 155 = .ok (.aload_n 0, 1) := by decide +kernel
theorem dX9_isAgainst_156 : decode cX9_isAgainst 156 = .ok (.getfield 52, 3) := by decide +kernel
theorem dX9_isAgainst_159 : decode cX9_isAgainst 159 = .ok (.iload_n 1, 1) := by decide +kernel
theorem dX9_isAgainst_160 : decode cX9_isAgainst 160 = .ok (.iaload, 1) := by decide +kernel
theorem dX9_isAgainst_161 : decode cX9_isAgainst 161 = .ok (.bipush 97, 2) := by decide +kernel
theorem dX9_isAgainst_163 : decode cX9_isAgainst 163 = .ok (.isub, 1) := by decide +kernel
theorem dX9_isAgainst_164 : decode cX9_isAgainst 164 = .ok (.iaload, 1) := by decide +kernel
theorem dX9_isAgainst_165 : decode cX9_isAgainst 165 = .ok (.istore 6, 2) := by decide +kernel
theorem dX9_isAgainst_167 : decode cX9_isAgainst 167 = .ok (.iload 5, 2) := by decide +kernel
theorem dX9_isAgainst_169 : decode cX9_isAgainst 169 = .ok (.ifCond .eq 44, 3) := by decide +kernel
theorem dX9_isAgainst_172 : decode cX9_isAgainst 172 = .ok (.aload_n 0, 1) := by decide +kernel
theorem dX9_isAgainst_173 : decode cX9_isAgainst 173 = .ok (.getfield 55, 3) := by decide +kernel
theorem dX9_isAgainst_176 : decode cX9_isAgainst 176 = .ok (.iload_n 1, 1) := by decide +kernel
theorem dX9_isAgainst_177 : decode cX9_isAgainst 177 = .ok (.iaload, 1) := by decide +kernel
theorem dX9_isAgainst_178 : decode cX9_isAgainst 178 = .ok (.iconst 1, 1) := by decide +kernel
theorem dX9_isAgainst_179 : decode cX9_isAgainst 179 = .ok (.if_icmp .ne 17, 3) := by decide +kernel
theorem dX9_isAgainst_182 : decode cX9_isAgainst 182 = .ok (.iload 6, 2) := by decide +kernel
theorem dX9_isAgainst_184 : decode cX9_isAgainst 184 = .ok (.aload_n 0, 1) := by decide +kernel
theorem dX9_isAgainst_185 : decode cX9_isAgainst 185 = .ok (.getfield 58, 3) := by decide +kernel
theorem dX9_isAgainst_188 : decode cX9_isAgainst 188 = .ok (.iload_n 1, 1) := by decide +kernel
theorem dX9_isAgainst_189 : decode cX9_isAgainst 189 = .ok (.iaload, 1) := by decide +kernel
theorem dX9_isAgainst_190 : decode cX9_isAgainst 190 = .ok (.if_icmp .ge 23, 3) := by decide +kernel
theorem dX9_isAgainst_193 : decode cX9_isAgainst 193 = .ok (.goto 16, 3) := by decide +kernel
theorem dX9_isAgainst_196 : decode cX9_isAgainst 196 = .ok (.iload 6, 2) := by decide +kernel
theorem dX9_isAgainst_198 : decode cX9_isAgainst 198 = .ok (.iload_n 2, 1) := by decide +kernel
theorem dX9_isAgainst_199 : decode cX9_isAgainst 199 = .ok (.aload_n 0, 1) := by decide +kernel
theorem dX9_isAgainst_200 : decode cX9_isAgainst 200 = .ok (.getfield 58, 3) := by decide +kernel
theorem dX9_isAgainst_203 : decode cX9_isAgainst 203 = .ok (.iload_n 1, 1) := by decide +kernel
theorem dX9_isAgainst_204 : decode cX9_isAgainst 204 = .ok (.iaload, 1) := by decide +kernel
theorem dX9_isAgainst_205 : decode cX9_isAgainst 205 = .ok (.isub, 1) := by decide +kernel
theorem dX9_isAgainst_206 : decode cX9_isAgainst 206 = .ok (.if_icmp .lt 7, 3) := by decide +kernel
theorem dX9_isAgainst_209 : decode cX9_isAgainst 209 = .ok (.iconst 1, 1) := by decide +kernel
theorem dX9_isAgainst_210 : decode cX9_isAgainst 210 = .ok (.goto 4, 3) := by decide +kernel
theorem dX9_isAgainst_213 : decode cX9_isAgainst 213 = .ok (.iconst 0, 1) := by decide +kernel
theorem dX9_isAgainst_214 : decode cX9_isAgainst 214 = .ok (.ireturn, 1) := by decide +kernel
theorem dX9_against_0 : decode cX9_against 0 = .ok (.aload_n 0, 1) := by decide +kernel
theorem dX9_against_1 : decode cX9_against 1 = .ok (.iload_n 2, 1) := by decide +kernel
theorem dX9_against_2 : decode cX9_against 2 = .ok (.invokevirtual 184, 3) := by decide +kernel
theorem dX9_against_5 : decode cX9_against 5 = .ok (.iconst 1, 1) := by decide +kernel
theorem dX9_against_6 : decode cX9_against 6 = .ok (.istore_n 3, 1) := by decide +kernel
theorem dX9_against_7 : decode cX9_against 7 = .ok (.iload_n 3, 1) := by decide +kernel
theorem dX9_against_8 : decode cX9_against 8 = .ok (.ifCond .eq 21, 3) := by decide +kernel
theorem dX9_against_11 : decode cX9_against 11 = .ok (.aload_n 0, 1) := by decide +kernel
theorem dX9_against_12 : decode cX9_against 12 = .ok (.iload_n 1, 1) := by decide +kernel
theorem dX9_against_13 : decode cX9_against 13 = .ok (.iload_n 2, 1) := by decide +kernel
theorem dX9_against_14 : decode cX9_against 14 = .ok (.invokevirtual 194, 3) := by decide +kernel
theorem dX9_against_17 : decode cX9_against 17 = .ok (.ifCond .ne 12, 3) := by decide +kernel
theorem dX9_against_20 : decode cX9_against 20 = .ok (.aload_n 0, 1) := by decide +kernel
theorem dX9_against_21 : decode cX9_against 21 = .ok (.iload_n 2, 1) := by decide +kernel
theorem dX9_against_22 : decode cX9_against 22 = .ok (.invokevirtual 191, 3) := by decide +kernel
theorem dX9_against_25 : decode cX9_against 25 = .ok (.istore_n 3, 1) := by decide +kernel
theorem dX9_against_26 : decode cX9_against 26 = .ok (.goto (-19), 3) := by decide +kernel
theorem dX9_against_29 : decode cX9_against 29 = .ok (.iload_n 2, 1) := by decide +kernel
theorem dX9_against_30 : decode cX9_against 30 = .ok (.istore 4, 2) := by decide +kernel
theorem dX9_against_32 : decode cX9_against 32 = .ok (.iconst 0, 1) := by decide +kernel
theorem dX9_against_33 : decode cX9_against 33 = .ok (.istore 5, 2) := by decide +kernel
theorem dX9_against_35 : decode cX9_against 35 = .ok (.iload 5, 2) := by decide +kernel
theorem dX9_against_37 : decode cX9_against 37 = .ok (.iload_n 2, 1) := by decide +kernel
theorem dX9_against_38 : decode cX9_against 38 = .ok (.if_icmp .ge 24, 3) := by decide +kernel
theorem dX9_against_41 : decode cX9_against 41 = .ok (.bipush 10, 2) := by decide +kernel
theorem dX9_against_43 : decode cX9_against 43 = .ok (.iload 4, 2) := by decide +kernel
theorem dX9_against_45 : decode cX9_against 45 = .ok (.imul, 1) := by decide +kernel
theorem dX9_against_46 : decode cX9_against 46 = .ok (.aload_n 0, 1) := by decide +kernel
theorem dX9_against_47 : decode cX9_against 47 = .ok (.getfield 88, 3) := by decide +kernel
theorem dX9_against_50 : decode cX9_against 50 = .ok (.iload 5, 2) := by decide +kernel
theorem dX9_against_52 : decode cX9_against 52 = .ok (.iaload, 1) := by decide +kernel
theorem dX9_against_53 : decode cX9_against 53 = .ok (.iadd, 1) := by decide +kernel
theorem dX9_against_54 : decode cX9_against 54 = .ok (.istore 4, 2) := by decide +kernel
theorem dX9_against_56 : decode cX9_against 56 = .ok (.iinc 5 1, 3) := by decide +kernel
theorem dX9_against_59 : decode cX9_against 59 = .ok (.goto (-24), 3) := by decide +kernel
theorem dX9_against_62 : decode cX9_against 62 = .ok (.iload_n 3, 1) := by decide +kernel
theorem dX9_against_63 : decode cX9_against 63 = .ok (.ifCond .eq 8, 3) := by decide +kernel
theorem dX9_against_66 : decode cX9_against 66 = .ok (.iload 4, 2) := by decide +kernel
theorem dX9_against_68 : decode cX9_against 68 = .ok (.goto 4, 3) := by decide +kernel
theorem dX9_against_71 : decode cX9_against 71 = .ok (.iconst 0, 1) := by decide +kernel
theorem dX9_against_72 : decode cX9_against 72 = .ok (.ireturn, 1) := by decide +kernel
theorem dX9_leastAgainst_0 : decode cX9_leastAgainst 0 = .ok (.iconst 0, 1) := by decide +kernel
theorem dX9_leastAgainst_1 : decode cX9_leastAgainst 1 = .ok (.istore_n 2, 1) := by decide +kernel
theorem dX9_leastAgainst_2 : decode cX9_leastAgainst 2 = .ok (.iconst 3, 1) := by decide +kernel
theorem dX9_leastAgainst_3 : decode cX9_leastAgainst 3 = .ok (.istore_n 3, 1) := by decide +kernel
theorem dX9_leastAgainst_4 : decode cX9_leastAgainst 4 = .ok (.iload_n 3, 1) := by decide +kernel
theorem dX9_leastAgainst_5 : decode cX9_leastAgainst 5 = .ok (.bipush 6, 2) := by decide +kernel
theorem dX9_leastAgainst_7 : decode cX9_leastAgainst 7 = .ok (.if_icmp .gt 20, 3) := by decide +kernel
theorem dX9_leastAgainst_10 : decode cX9_leastAgainst 10 = .ok (.iload_n 2, 1) := by decide +kernel
theorem dX9_leastAgainst_11 : decode cX9_leastAgainst 11 = .ok (.ifCond .ne 16, 3) := by decide +kernel
theorem dX9_leastAgainst_14 : decode cX9_leastAgainst 14 = .ok (.aload_n 0, 1) := by decide +kernel
theorem dX9_leastAgainst_15 : decode cX9_leastAgainst 15 = .ok (.iload_n 1, 1) := by decide +kernel
theorem dX9_leastAgainst_16 : decode cX9_leastAgainst 16 = .ok (.iload_n 3, 1) := by decide +kernel
theorem dX9_leastAgainst_17 : decode cX9_leastAgainst 17 = .ok (.invokevirtual 197, 3) := by decide +kernel
theorem dX9_leastAgainst_20 : decode cX9_leastAgainst 20 = .ok (.istore_n 2, 1) := by decide +kernel
theorem dX9_leastAgainst_21 : decode cX9_leastAgainst 21 = .ok (.iinc 3 1, 3) := by decide +kernel
theorem dX9_leastAgainst_24 : decode cX9_leastAgainst 24 = .ok (.goto (-20), 3) := by decide +kernel
theorem dX9_leastAgainst_27 : decode cX9_leastAgainst 27 = .ok (.iload_n 2, 1) := by decide +kernel
theorem dX9_leastAgainst_28 : decode cX9_leastAgainst 28 = .ok (.ireturn, 1) := by decide +kernel
theorem dX9_isRiddle_0 : decode cX9_isRiddle 0 = .ok (.iload_n 1, 1) := by decide +kernel
theorem dX9_isRiddle_1 : decode cX9_isRiddle 1 = .ok (.iconst 0, 1) := by decide +kernel
theorem dX9_isRiddle_2 : decode cX9_isRiddle 2 = .ok (.aload_n 0, 1) := by decide +kernel
theorem dX9_isRiddle_3 : decode cX9_isRiddle 3 = .ok (.getfield 200, 3) := by decide +kernel
theorem dX9_isRiddle_6 : decode cX9_isRiddle 6 = .ok (.iconst 1, 1) := by decide +kernel
theorem dX9_isRiddle_7 : decode cX9_isRiddle 7 = .ok (.isub, 1) := by decide +kernel
theorem dX9_isRiddle_8 : decode cX9_isRiddle 8 = .ok (.invokestatic 203, 3) := by decide +kernel
theorem dX9_isRiddle_11 : decode cX9_isRiddle 11 = .ok (.ireturn, 1) := by decide +kernel
theorem dX9_riddle_0 : decode cX9_riddle 0 = .ok (.iload_n 1, 1) := by decide +kernel
theorem dX9_riddle_1 : decode cX9_riddle 1 = .ok (.iconst 3, 1) := by decide +kernel
theorem dX9_riddle_2 : decode cX9_riddle 2 = .ok (.bipush 6, 2) := by decide +kernel
theorem dX9_riddle_4 : decode cX9_riddle 4 = .ok (.invokestatic 203, 3) := by decide +kernel
theorem dX9_riddle_7 : decode cX9_riddle 7 = .ok (.ifCond .ne 9, 3) := by decide +kernel
theorem dX9_riddle_10 : decode cX9_riddle 10 = .ok (.aload_n 0, 1) := by decide +kernel
theorem dX9_riddle_11 : decode cX9_riddle 11 = .ok (.iconst 1, 1) := by decide +kernel
theorem dX9_riddle_12 : decode cX9_riddle 12 = .ok (.invokevirtual 206, 3) := by decide +kernel
theorem dX9_riddle_15 : decode cX9_riddle 15 = .ok (.ireturn, 1) := by decide +kernel
theorem dX9_riddle_16 : decode cX9_riddle 16 = .ok (.aload_n 0, 1) := by decide +kernel
theorem dX9_riddle_17 : decode cX9_riddle 17 = .ok (.getfield 200, 3) := by decide +kernel
theorem dX9_riddle_20 : decode cX9_riddle 20 = .ok (.bipush 20, 2) := by decide +kernel
theorem dX9_riddle_22 : decode cX9_riddle 22 = .ok (.if_icmp .ne 9, 3) := by decide +kernel
theorem dX9_riddle_25 : decode cX9_riddle 25 = .ok (.aload_n 0, 1) := by decide +kernel
theorem dX9_riddle_26 : decode cX9_riddle 26 = .ok (.iconst 2, 1) := by decide +kernel
theorem dX9_riddle_27 : decode cX9_riddle 27 = .ok (.invokevirtual 206, 3) := by decide +kernel
theorem dX9_riddle_30 : decode cX9_riddle 30 = .ok (.ireturn, 1) := by decide +kernel
theorem dX9_riddle_31 : decode cX9_riddle 31 = .ok (.aload_n 0, 1) := by decide +kernel
theorem dX9_riddle_32 : decode cX9_riddle 32 = .ok (.getfield 7, 3) := by decide +kernel
theorem dX9_riddle_35 : decode cX9_riddle 35 = .ok (.aload_n 0, 1) := by decide +kernel
theorem dX9_riddle_36 : decode cX9_riddle 36 = .ok (.getfield 200, 3) := by decide +kernel
theorem dX9_riddle_39 : decode cX9_riddle 39 = .ok (.iload_n 1, 1) := by decide +kernel
theorem dX9_riddle_40 : decode cX9_riddle 40 = .ok (.iastore, 1) := by decide +kernel
theorem dX9_riddle_41 : decode cX9_riddle 41 = .ok (.aload_n 0, 1) := by decide +kernel
theorem dX9_riddle_42 : decode cX9_riddle 42 = .ok (.getfield 16, 3) := by decide +kernel
theorem dX9_riddle_45 : decode cX9_riddle 45 = .ok (.aload_n 0, 1) := by decide +kernel
theorem dX9_riddle_46 : decode cX9_riddle 46 = .ok (.getfield 200, 3) := by decide +kernel
theorem dX9_riddle_49 : decode cX9_riddle 49 = .ok (.bipush 111, 2) := by decide +kernel
theorem dX9_riddle_51 : decode cX9_riddle 51 = .ok (.iastore, 1) := by decide +kernel
theorem dX9_riddle_52 : decode cX9_riddle 52 = .ok (.aload_n 0, 1) := by decide +kernel
theorem dX9_riddle_53 : decode cX9_riddle 53 = .ok (.getfield 25, 3) := by decide +kernel
theorem dX9_riddle_56 : decode cX9_riddle 56 = .ok (.aload_n 0, 1) := by decide +kernel
theorem dX9_riddle_57 : decode cX9_riddle 57 = .ok (.getfield 200, 3) := by decide +kernel
theorem dX9_riddle_60 : decode cX9_riddle 60 = .ok (.iconst (-1), 1) := by decide +kernel
theorem dX9_riddle_61 : decode cX9_riddle 61 = .ok (.iastore, 1) := by decide +kernel
theorem dX9_riddle_62 : decode cX9_riddle 62 = .ok (.aload_n 0, 1) := by decide +kernel
theorem dX9_riddle_63 : decode cX9_riddle 63 = .ok (.dup, 1) := by decide +kernel
theorem dX9_riddle_64 : decode cX9_riddle 64 = .ok (.getfield 200, 3) := by decide +kernel
theorem dX9_riddle_67 : decode cX9_riddle 67 = .ok (.iconst 1, 1) := by decide +kernel
theorem dX9_riddle_68 : decode cX9_riddle 68 = .ok (.iadd, 1) := by decide +kernel
theorem dX9_riddle_69 : decode cX9_riddle 69 = .ok (.putfield 200, 3) := by decide +kernel
theorem dX9_riddle_72 : decode cX9_riddle 72 = .ok (.aload_n 0, 1) := by decide +kernel
theorem dX9_riddle_73 : decode cX9_riddle 73 = .ok (.aload_n 0, 1) := by decide +kernel
theorem dX9_riddle_74 : decode cX9_riddle 74 = .ok (.getfield 200, 3) := by decide +kernel
theorem dX9_riddle_77 : decode cX9_riddle 77 = .ok (.iconst 1, 1) := by decide +kernel
theorem dX9_riddle_78 : decode cX9_riddle 78 = .ok (.isub, 1) := by decide +kernel
theorem dX9_riddle_79 : decode cX9_riddle 79 = .ok (.invokevirtual 209, 3) := by decide +kernel
theorem dX9_riddle_82 : decode cX9_riddle 82 = .ok (.ireturn, 1) := by decide +kernel
theorem dX9_isClue_0 : decode cX9_isClue 0 = .ok (.aload_n 0, 1) := by decide +kernel
theorem dX9_isClue_1 : decode cX9_isClue 1 = .ok (.getfield 7, 3) := by decide +kernel
theorem dX9_isClue_4 : decode cX9_isClue 4 = .ok (.iload_n 1, 1) := by decide +kernel
theorem dX9_isClue_5 : decode cX9_isClue 5 = .ok (.iaload, 1) := by decide +kernel
theorem dX9_isClue_6 : decode cX9_isClue 6 = .ok (.iconst 1, 1) := by decide +kernel
theorem dX9_isClue_7 : decode cX9_isClue 7 = .ok (.isub, 1) := by decide +kernel
theorem dX9_isClue_8 : decode cX9_isClue 8 = .ok (.istore 6, 2) := by decide +kernel
theorem dX9_isClue_10 : decode cX9_isClue 10 = .ok (.iload_n 3, 1) := by decide +kernel
theorem dX9_isClue_11 : decode cX9_isClue 11 = .ok (.iconst 0, 1) := by decide +kernel
theorem dX9_isClue_12 : decode cX9_isClue 12 = .ok (.iload 6, 2) := by decide +kernel
theorem dX9_isClue_14 : decode cX9_isClue 14 = .ok (.invokestatic 203, 3) := by decide +kernel
theorem dX9_isClue_17 : decode cX9_isClue 17 = .ok (.ifCond .eq 14, 3) := by decide +kernel
theorem dX9_isClue_20 : decode cX9_isClue 20 = .ok (.iload 4, 2) := by decide +kernel
theorem dX9_isClue_22 : decode cX9_isClue 22 = .ok (.iconst 0, 1) := by decide +kernel
theorem dX9_isClue_23 : decode cX9_isClue 23 = .ok (.iload 6, 2) := by decide +kernel
theorem dX9_isClue_25 : decode cX9_isClue 25 = .ok (.invokestatic 203, 3) := by decide +kernel
theorem dX9_isClue_28 : decode cX9_isClue 28 = .ok (.ifCond .ne 5, 3) := by decide +kernel
theorem dX9_isClue_31 : decode cX9_isClue 31 = .ok (.iconst 0, 1) := by decide +kernel
theorem dX9_isClue_32 : decode cX9_isClue 32 = .ok (.ireturn, 1) := by decide +kernel
theorem dX9_isClue_33 : decode cX9_isClue 33 = .ok (.iload_n 2, 1) := by decide +kernel
theorem dX9_isClue_34 : decode cX9_isClue 34 = .ok (.bipush 112, 2) := by decide +kernel
theorem dX9_isClue_36 : decode cX9_isClue 36 = .ok (.if_icmp .eq 9, 3) := by decide +kernel
theorem dX9_isClue_39 : decode cX9_isClue 39 = .ok (.iload_n 2, 1) := by decide +kernel
theorem dX9_isClue_40 : decode cX9_isClue 40 = .ok (.bipush 120, 2) := by decide +kernel
theorem dX9_isClue_42 : decode cX9_isClue 42 = .ok (.if_icmp .ne 5, 3) := by decide +kernel
theorem dX9_isClue_45 : decode cX9_isClue 45 = .ok (.iconst 1, 1) := by decide +kernel
theorem dX9_isClue_46 : decode cX9_isClue 46 = .ok (.ireturn, 1) := by decide +kernel
theorem dX9_isClue_47 : decode cX9_isClue 47 = .ok (.iload_n 3, 1) := by decide +kernel
theorem dX9_isClue_48 : decode cX9_isClue 48 = .ok (.iload 4, 2) := by decide +kernel
theorem dX9_isClue_50 : decode cX9_isClue 50 = .ok (.if_icmp .ne 5, 3) := by decide +kernel
theorem dX9_isClue_53 : decode cX9_isClue 53 = .ok (.iconst 0, 1) := by decide +kernel
theorem dX9_isClue_54 : decode cX9_isClue 54 = .ok (.ireturn, 1) := by decide +kernel
theorem dX9_isClue_55 : decode cX9_isClue 55 = .ok (.iload_n 2, 1) := by decide +kernel
theorem dX9_isClue_56 : decode cX9_isClue 56 = .ok (.bipush 100, 2) := by decide +kernel
theorem dX9_isClue_58 : decode cX9_isClue 58 = .ok (.if_icmp .ne 11, 3) := by decide +kernel
theorem dX9_isClue_61 : decode cX9_isClue 61 = .ok (.iload 5, 2) := by decide +kernel
theorem dX9_isClue_63 : decode cX9_isClue 63 = .ok (.iconst 1, 1) := by decide +kernel
theorem dX9_isClue_64 : decode cX9_isClue 64 = .ok (.iconst 5, 1) := by decide +kernel
theorem dX9_isClue_65 : decode cX9_isClue 65 = .ok (.invokestatic 203, 3) := by decide +kernel
theorem dX9_isClue_68 : decode cX9_isClue 68 = .ok (.ireturn, 1) := by decide +kernel
theorem dX9_isClue_69 : decode cX9_isClue 69 = .ok (.iload_n 2, 1) := by decide +kernel
theorem dX9_isClue_70 : decode cX9_isClue 70 = .ok (.bipush 109, 2) := by decide +kernel
theorem dX9_isClue_72 : decode cX9_isClue 72 = .ok (.if_icmp .ne 33, 3) := by decide +kernel
theorem dX9_isClue_75 : decode cX9_isClue 75 = .ok (.iload 5, 2) := by decide +kernel
theorem dX9_isClue_77 : decode cX9_isClue 77 = .ok (.iconst 0, 1) := by decide +kernel
theorem dX9_isClue_78 : decode cX9_isClue 78 = .ok (.iload 6, 2) := by decide +kernel
theorem dX9_isClue_80 : decode cX9_isClue 80 = .ok (.invokestatic 203, 3) := by decide +kernel
theorem dX9_isClue_83 : decode cX9_isClue 83 = .ok (.ifCond .eq 20, 3) := by decide +kernel
theorem dX9_isClue_86 : decode cX9_isClue 86 = .ok (.iload 5, 2) := by decide +kernel
theorem dX9_isClue_88 : decode cX9_isClue 88 = .ok (.iload_n 3, 1) := by decide +kernel
theorem dX9_isClue_89 : decode cX9_isClue 89 = .ok (.if_icmp .eq 14, 3) := by decide +kernel
theorem dX9_isClue_92 : decode cX9_isClue 92 = .ok (.iload 5, 2) := by decide +kernel
theorem dX9_isClue_94 : decode cX9_isClue 94 = .ok (.iload 4, 2) := by decide +kernel
theorem dX9_isClue_96 : decode cX9_isClue 96 = .ok (.if_icmp .eq 7, 3) := by decide +kernel
theorem dX9_isClue_99 : decode cX9_isClue 99 = .ok (.iconst 1, 1) := by decide +kernel
theorem dX9_isClue_100 : decode cX9_isClue 100 = .ok (.goto 4, 3) := by decide +kernel
theorem dX9_isClue_103 : decode cX9_isClue 103 = .ok (.iconst 0, 1) := by decide +kernel
theorem dX9_isClue_104 : decode cX9_isClue 104 = .ok (.ireturn, 1) := by decide +kernel
theorem dX9_isClue_105 : decode cX9_isClue 105 = .ok (.iload_n 2, 1) := by decide +kernel
theorem dX9_isClue_106 : decode cX9_isClue 106 = .ok (.bipush 98, 2) := by decide +kernel
theorem dX9_isClue_108 : decode cX9_isClue 108 = .ok (.if_icmp .eq 15, 3) := by decide +kernel
theorem dX9_isClue_111 : decode cX9_isClue 111 = .ok (.iload_n 2, 1) := by decide +kernel
theorem dX9_isClue_112 : decode cX9_isClue 112 = .ok (.bipush 110, 2) := by decide +kernel
theorem dX9_isClue_114 : decode cX9_isClue 114 = .ok (.if_icmp .eq 9, 3) := by decide +kernel
theorem dX9_isClue_117 : decode cX9_isClue 117 = .ok (.iload_n 2, 1) := by decide +kernel
theorem dX9_isClue_118 : decode cX9_isClue 118 = .ok (.bipush 108, 2) := by decide +kernel
theorem dX9_isClue_120 : decode cX9_isClue 120 = .ok (.if_icmp .ne 7, 3) := by decide +kernel
theorem dX9_isClue_123 : decode cX9_isClue 123 = .ok (.iconst 1, 1) := by decide +kernel
theorem dX9_isClue_124 : decode cX9_isClue 124 = .ok (.goto 4, 3) := by decide +kernel
theorem dX9_isClue_127 : decode cX9_isClue 127 = .ok (.iconst 0, 1) := by decide +kernel
theorem dX9_isClue_128 : decode cX9_isClue 128 = .ok (.ireturn, 1) := by decide +kernel
theorem dX9_clue_0 : decode cX9_clue 0 = .ok (.aload_n 0, 1) := by decide +kernel
theorem dX9_clue_1 : decode cX9_clue 1 = .ok (.iload_n 1, 1) := by decide +kernel
theorem dX9_clue_2 : decode cX9_clue 2 = .ok (.invokevirtual 212, 3) := by decide +kernel
theorem dX9_clue_5 : decode cX9_clue 5 = .ok (.ifCond .ne 9, 3) := by decide +kernel
theorem dX9_clue_8 : decode cX9_clue 8 = .ok (.aload_n 0, 1) := by decide +kernel
theorem dX9_clue_9 : decode cX9_clue 9 = .ok (.iconst 1, 1) := by decide +kernel
theorem dX9_clue_10 : decode cX9_clue 10 = .ok (.invokevirtual 206, 3) := by decide +kernel
theorem dX9_clue_13 : decode cX9_clue 13 = .ok (.ireturn, 1) := by decide +kernel
theorem dX9_clue_14 : decode cX9_clue 14 = .ok (.aload_n 0, 1) := by decide +kernel
theorem dX9_clue_15 : decode cX9_clue 15 = .ok (.iload_n 1, 1) := by decide +kernel
theorem dX9_clue_16 : decode cX9_clue 16 = .ok (.iload_n 2, 1) := by decide +kernel
theorem dX9_clue_17 : decode cX9_clue 17 = .ok (.iload_n 3, 1) := by decide +kernel
theorem dX9_clue_18 : decode cX9_clue 18 = .ok (.iload 4, 2) := by decide +kernel
theorem dX9_clue_20 : decode cX9_clue 20 = .ok (.iload 5, 2) := by decide +kernel
theorem dX9_clue_22 : decode cX9_clue 22 = .ok (.invokevirtual 215, 3) := by decide +kernel
theorem dX9_clue_25 : decode cX9_clue 25 = .ok (.ifCond .ne 9, 3) := by decide +kernel
theorem dX9_clue_28 : decode cX9_clue 28 = .ok (.aload_n 0, 1) := by decide +kernel
theorem dX9_clue_29 : decode cX9_clue 29 = .ok (.iconst 2, 1) := by decide +kernel
theorem dX9_clue_30 : decode cX9_clue 30 = .ok (.invokevirtual 206, 3) := by decide +kernel
theorem dX9_clue_33 : decode cX9_clue 33 = .ok (.ireturn, 1) := by decide +kernel
theorem dX9_clue_34 : decode cX9_clue 34 = .ok (.aload_n 0, 1) := by decide +kernel
theorem dX9_clue_35 : decode cX9_clue 35 = .ok (.getfield 19, 3) := by decide +kernel
theorem dX9_clue_38 : decode cX9_clue 38 = .ok (.iload_n 1, 1) := by decide +kernel
theorem dX9_clue_39 : decode cX9_clue 39 = .ok (.iaload, 1) := by decide +kernel
theorem dX9_clue_40 : decode cX9_clue 40 = .ok (.ifCond .eq 9, 3) := by decide +kernel
theorem dX9_clue_43 : decode cX9_clue 43 = .ok (.aload_n 0, 1) := by decide +kernel
theorem dX9_clue_44 : decode cX9_clue 44 = .ok (.iconst 3, 1) := by decide +kernel
theorem dX9_clue_45 : decode cX9_clue 45 = .ok (.invokevirtual 206, 3) := by decide +kernel
theorem dX9_clue_48 : decode cX9_clue 48 = .ok (.ireturn, 1) := by decide +kernel
theorem dX9_clue_49 : decode cX9_clue 49 = .ok (.aload_n 0, 1) := by decide +kernel
theorem dX9_clue_50 : decode cX9_clue 50 = .ok (.getfield 13, 3) := by decide +kernel
theorem dX9_clue_53 : decode cX9_clue 53 = .ok (.iload_n 1, 1) := by decide +kernel
theorem dX9_clue_54 : decode cX9_clue 54 = .ok (.iaload, 1) := by decide +kernel
theorem dX9_clue_55 : decode cX9_clue 55 = .ok (.bipush 8, 2) := by decide +kernel
theorem dX9_clue_57 : decode cX9_clue 57 = .ok (.if_icmp .ne 9, 3) := by decide +kernel
theorem dX9_clue_60 : decode cX9_clue 60 = .ok (.aload_n 0, 1) := by decide +kernel
theorem dX9_clue_61 : decode cX9_clue 61 = .ok (.iconst 4, 1) := by decide +kernel
theorem dX9_clue_62 : decode cX9_clue 62 = .ok (.invokevirtual 206, 3) := by decide +kernel
theorem dX9_clue_65 : decode cX9_clue 65 = .ok (.ireturn, 1) := by decide +kernel
theorem dX9_clue_66 : decode cX9_clue 66 = .ok (.bipush 8, 2) := by decide +kernel
theorem dX9_clue_68 : decode cX9_clue 68 = .ok (.iload_n 1, 1) := by decide +kernel
theorem dX9_clue_69 : decode cX9_clue 69 = .ok (.imul, 1) := by decide +kernel
theorem dX9_clue_70 : decode cX9_clue 70 = .ok (.aload_n 0, 1) := by decide +kernel
theorem dX9_clue_71 : decode cX9_clue 71 = .ok (.getfield 13, 3) := by decide +kernel
theorem dX9_clue_74 : decode cX9_clue 74 = .ok (.iload_n 1, 1) := by decide +kernel
theorem dX9_clue_75 : decode cX9_clue 75 = .ok (.iaload, 1) := by decide +kernel
theorem dX9_clue_76 : decode cX9_clue 76 = .ok (.iadd, 1) := by decide +kernel
theorem dX9_clue_77 : decode cX9_clue 77 = .ok (.istore 6, 2) := by decide +kernel
theorem dX9_clue_79 : decode cX9_clue 79 = .ok (.aload_n 0, 1) := by decide +kernel
theorem dX9_clue_80 : decode cX9_clue 80 = .ok (.getfield 28, 3) := by decide +kernel
theorem dX9_clue_83 : decode cX9_clue 83 = .ok (.iload 6, 2) := by decide +kernel
theorem dX9_clue_85 : decode cX9_clue 85 = .ok (.iload_n 2, 1) := by decide +kernel
theorem dX9_clue_86 : decode cX9_clue 86 = .ok (.iastore, 1) := by decide +kernel
theorem dX9_clue_87 : decode cX9_clue 87 = .ok (.aload_n 0, 1) := by decide +kernel
theorem dX9_clue_88 : decode cX9_clue 88 = .ok (.getfield 31, 3) := by decide +kernel
theorem dX9_clue_91 : decode cX9_clue 91 = .ok (.iload 6, 2) := by decide +kernel
theorem dX9_clue_93 : decode cX9_clue 93 = .ok (.iload_n 3, 1) := by decide +kernel
theorem dX9_clue_94 : decode cX9_clue 94 = .ok (.iastore, 1) := by decide +kernel
theorem dX9_clue_95 : decode cX9_clue 95 = .ok (.aload_n 0, 1) := by decide +kernel
theorem dX9_clue_96 : decode cX9_clue 96 = .ok (.getfield 34, 3) := by decide +kernel
theorem dX9_clue_99 : decode cX9_clue 99 = .ok (.iload 6, 2) := by decide +kernel
theorem dX9_clue_101 : decode cX9_clue 101 = .ok (.iload 4, 2) := by decide +kernel
theorem dX9_clue_103 : decode cX9_clue 103 = .ok (.iastore, 1) := by decide +kernel
theorem dX9_clue_104 : decode cX9_clue 104 = .ok (.aload_n 0, 1) := by decide +kernel
theorem dX9_clue_105 : decode cX9_clue 105 = .ok (.getfield 37, 3) := by decide +kernel
theorem dX9_clue_108 : decode cX9_clue 108 = .ok (.iload 6, 2) := by decide +kernel
theorem dX9_clue_110 : decode cX9_clue 110 = .ok (.iload 5, 2) := by decide +kernel
theorem dX9_clue_112 : decode cX9_clue 112 = .ok (.iastore, 1) := by decide +kernel
theorem dX9_clue_113 : decode cX9_clue 113 = .ok (.aload_n 0, 1) := by decide +kernel
theorem dX9_clue_114 : decode cX9_clue 114 = .ok (.getfield 13, 3) := by decide +kernel
theorem dX9_clue_117 : decode cX9_clue 117 = .ok (.iload_n 1, 1) := by decide +kernel
theorem dX9_clue_118 : decode cX9_clue 118 = .ok (.dup2, 1) := by decide +kernel
theorem dX9_clue_119 : decode cX9_clue 119 = .ok (.iaload, 1) := by decide +kernel
theorem dX9_clue_120 : decode cX9_clue 120 = .ok (.iconst 1, 1) := by decide +kernel
theorem dX9_clue_121 : decode cX9_clue 121 = .ok (.iadd, 1) := by decide +kernel
theorem dX9_clue_122 : decode cX9_clue 122 = .ok (.iastore, 1) := by decide +kernel
theorem dX9_clue_123 : decode cX9_clue 123 = .ok (.aload_n 0, 1) := by decide +kernel
theorem dX9_clue_124 : decode cX9_clue 124 = .ok (.aload_n 0, 1) := by decide +kernel
theorem dX9_clue_125 : decode cX9_clue 125 = .ok (.getfield 13, 3) := by decide +kernel
theorem dX9_clue_128 : decode cX9_clue 128 = .ok (.iload_n 1, 1) := by decide +kernel
theorem dX9_clue_129 : decode cX9_clue 129 = .ok (.iaload, 1) := by decide +kernel
theorem dX9_clue_130 : decode cX9_clue 130 = .ok (.invokevirtual 209, 3) := by decide +kernel
theorem dX9_clue_133 : decode cX9_clue 133 = .ok (.ireturn, 1) := by decide +kernel
theorem dX9_answers_0 : decode cX9_answers 0 = .ok (.aload_n 0, 1) := by decide +kernel
theorem dX9_answers_1 : decode cX9_answers 1 = .ok (.iload_n 1, 1) := by decide +kernel
theorem dX9_answers_2 : decode cX9_answers 2 = .ok (.invokevirtual 212, 3) := by decide +kernel
theorem dX9_answers_5 : decode cX9_answers 5 = .ok (.ifCond .eq 15, 3) := by decide +kernel
theorem dX9_answers_8 : decode cX9_answers 8 = .ok (.aload_n 0, 1) := by decide +kernel
theorem dX9_answers_9 : decode cX9_answers 9 = .ok (.aload_n 0, 1) := by decide +kernel
theorem dX9_answers_10 : decode cX9_answers 10 = .ok (.iload_n 1, 1) := by decide +kernel
theorem dX9_answers_11 : decode cX9_answers 11 = .ok (.invokevirtual 219, 3) := by decide +kernel
theorem dX9_answers_14 : decode cX9_answers 14 = .ok (.invokevirtual 209, 3) := by decide +kernel
theorem dX9_answers_17 : decode cX9_answers 17 = .ok (.goto 8, 3) := by decide +kernel
theorem dX9_answers_20 : decode cX9_answers 20 = .ok (.aload_n 0, 1) := by decide +kernel
theorem dX9_answers_21 : decode cX9_answers 21 = .ok (.iconst 1, 1) := by decide +kernel
theorem dX9_answers_22 : decode cX9_answers 22 = .ok (.invokevirtual 206, 3) := by decide +kernel
theorem dX9_answers_25 : decode cX9_answers 25 = .ok (.ireturn, 1) := by decide +kernel
theorem dX9_answer_0 : decode cX9_answer 0 = .ok (.aload_n 0, 1) := by decide +kernel
theorem dX9_answer_1 : decode cX9_answer 1 = .ok (.iload_n 1, 1) := by decide +kernel
theorem dX9_answer_2 : decode cX9_answer 2 = .ok (.invokevirtual 212, 3) := by decide +kernel
theorem dX9_answer_5 : decode cX9_answer 5 = .ok (.ifCond .eq 19, 3) := by decide +kernel
theorem dX9_answer_8 : decode cX9_answer 8 = .ok (.iload_n 2, 1) := by decide +kernel
theorem dX9_answer_9 : decode cX9_answer 9 = .ok (.iconst 0, 1) := by decide +kernel
theorem dX9_answer_10 : decode cX9_answer 10 = .ok (.aload_n 0, 1) := by decide +kernel
theorem dX9_answer_11 : decode cX9_answer 11 = .ok (.getfield 7, 3) := by decide +kernel
theorem dX9_answer_14 : decode cX9_answer 14 = .ok (.iload_n 1, 1) := by decide +kernel
theorem dX9_answer_15 : decode cX9_answer 15 = .ok (.iaload, 1) := by decide +kernel
theorem dX9_answer_16 : decode cX9_answer 16 = .ok (.iconst 1, 1) := by decide +kernel
theorem dX9_answer_17 : decode cX9_answer 17 = .ok (.isub, 1) := by decide +kernel
theorem dX9_answer_18 : decode cX9_answer 18 = .ok (.invokestatic 203, 3) := by decide +kernel
theorem dX9_answer_21 : decode cX9_answer 21 = .ok (.ifCond .ne 9, 3) := by decide +kernel
theorem dX9_answer_24 : decode cX9_answer 24 = .ok (.aload_n 0, 1) := by decide +kernel
theorem dX9_answer_25 : decode cX9_answer 25 = .ok (.iconst 1, 1) := by decide +kernel
theorem dX9_answer_26 : decode cX9_answer 26 = .ok (.invokevirtual 206, 3) := by decide +kernel
theorem dX9_answer_29 : decode cX9_answer 29 = .ok (.ireturn, 1) := by decide +kernel
theorem dX9_answer_30 : decode cX9_answer 30 = .ok (.aload_n 0, 1) := by decide +kernel
theorem dX9_answer_31 : decode cX9_answer 31 = .ok (.iload_n 1, 1) := by decide +kernel
theorem dX9_answer_32 : decode cX9_answer 32 = .ok (.invokevirtual 219, 3) := by decide +kernel
theorem dX9_answer_35 : decode cX9_answer 35 = .ok (.ifCond .ne 11, 3) := by decide +kernel
theorem dX9_answer_38 : decode cX9_answer 38 = .ok (.aload_n 0, 1) := by decide +kernel
theorem dX9_answer_39 : decode cX9_answer 39 = .ok (.iconst 2, 1) := by decide +kernel
theorem dX9_answer_40 : decode cX9_answer 40 = .ok (.invokevirtual 206, 3) := by decide +kernel
theorem dX9_answer_43 : decode cX9_answer 43 = .ok (.goto 13, 3) := by decide +kernel
theorem dX9_answer_46 : decode cX9_answer 46 = .ok (.aload_n 0, 1) := by decide +kernel
theorem dX9_answer_47 : decode cX9_answer 47 = .ok (.aload_n 0, 1) := by decide +kernel
theorem dX9_answer_48 : decode cX9_answer 48 = .ok (.getfield 91, 3) := by decide +kernel
theorem dX9_answer_51 : decode cX9_answer 51 = .ok (.iload_n 2, 1) := by decide +kernel
theorem dX9_answer_52 : decode cX9_answer 52 = .ok (.iaload, 1) := by decide +kernel
theorem dX9_answer_53 : decode cX9_answer 53 = .ok (.invokevirtual 209, 3) := by decide +kernel
theorem dX9_answer_56 : decode cX9_answer 56 = .ok (.ireturn, 1) := by decide +kernel
theorem dX9_prove_0 : decode cX9_prove 0 = .ok (.aload_n 0, 1) := by decide +kernel
theorem dX9_prove_1 : decode cX9_prove 1 = .ok (.iload_n 1, 1) := by decide +kernel
theorem dX9_prove_2 : decode cX9_prove 2 = .ok (.invokevirtual 212, 3) := by decide +kernel
theorem dX9_prove_5 : decode cX9_prove 5 = .ok (.ifCond .ne 9, 3) := by decide +kernel
theorem dX9_prove_8 : decode cX9_prove 8 = .ok (.aload_n 0, 1) := by decide +kernel
theorem dX9_prove_9 : decode cX9_prove 9 = .ok (.iconst 1, 1) := by decide +kernel
theorem dX9_prove_10 : decode cX9_prove 10 = .ok (.invokevirtual 222, 3) := by decide +kernel
theorem dX9_prove_13 : decode cX9_prove 13 = .ok (.ireturn, 1) := by decide +kernel
theorem dX9_prove_14 : decode cX9_prove 14 = .ok (.aload_n 0, 1) := by decide +kernel
theorem dX9_prove_15 : decode cX9_prove 15 = .ok (.getfield 16, 3) := by decide +kernel
theorem dX9_prove_18 : decode cX9_prove 18 = .ok (.iload_n 1, 1) := by decide +kernel
theorem dX9_prove_19 : decode cX9_prove 19 = .ok (.iaload, 1) := by decide +kernel
theorem dX9_prove_20 : decode cX9_prove 20 = .ok (.bipush 105, 2) := by decide +kernel
theorem dX9_prove_22 : decode cX9_prove 22 = .ok (.if_icmp .eq 25, 3) := by decide +kernel
theorem dX9_prove_25 : decode cX9_prove 25 = .ok (.aload_n 0, 1) := by decide +kernel
theorem dX9_prove_26 : decode cX9_prove 26 = .ok (.getfield 16, 3) := by decide +kernel
theorem dX9_prove_29 : decode cX9_prove 29 = .ok (.iload_n 1, 1) := by decide +kernel
theorem dX9_prove_30 : decode cX9_prove 30 = .ok (.iaload, 1) := by decide +kernel
theorem dX9_prove_31 : decode cX9_prove 31 = .ok (.bipush 115, 2) := by decide +kernel
theorem dX9_prove_33 : decode cX9_prove 33 = .ok (.if_icmp .eq 14, 3) := by decide +kernel
theorem dX9_prove_36 : decode cX9_prove 36 = .ok (.aload_n 0, 1) := by decide +kernel
theorem dX9_prove_37 : decode cX9_prove 37 = .ok (.getfield 16, 3) := by decide +kernel
theorem dX9_prove_40 : decode cX9_prove 40 = .ok (.iload_n 1, 1) := by decide +kernel
theorem dX9_prove_41 : decode cX9_prove 41 = .ok (.iaload, 1) := by decide +kernel
theorem dX9_prove_42 : decode cX9_prove 42 = .ok (.bipush 98, 2) := by decide +kernel
theorem dX9_prove_44 : decode cX9_prove 44 = .ok (.if_icmp .ne 9, 3) := by decide +kernel
theorem dX9_prove_47 : decode cX9_prove 47 = .ok (.aload_n 0, 1) := by decide +kernel
theorem dX9_prove_48 : decode cX9_prove 48 = .ok (.iconst 2, 1) := by decide +kernel
theorem dX9_prove_49 : decode cX9_prove 49 = .ok (.invokevirtual 222, 3) := by decide +kernel
theorem dX9_prove_52 : decode cX9_prove 52 = .ok (.ireturn, 1) := by decide +kernel
theorem dX9_prove_53 : decode cX9_prove 53 = .ok (.aload_n 0, 1) := by decide +kernel
theorem dX9_prove_54 : decode cX9_prove 54 = .ok (.iload_n 1, 1) := by decide +kernel
theorem dX9_prove_55 : decode cX9_prove 55 = .ok (.invokevirtual 226, 3) := by decide +kernel
theorem dX9_prove_58 : decode cX9_prove 58 = .ok (.istore_n 2, 1) := by decide +kernel
theorem dX9_prove_59 : decode cX9_prove 59 = .ok (.aload_n 0, 1) := by decide +kernel
theorem dX9_prove_60 : decode cX9_prove 60 = .ok (.getfield 16, 3) := by decide +kernel
theorem dX9_prove_63 : decode cX9_prove 63 = .ok (.iload_n 1, 1) := by decide +kernel
theorem dX9_prove_64 : decode cX9_prove 64 = .ok (.iload_n 2, 1) := by decide +kernel
theorem dX9_prove_65 : decode cX9_prove 65 = .ok (.iconst 1, 1) := by decide +kernel
theorem dX9_prove_66 : decode cX9_prove 66 = .ok (.if_icmp .ne 8, 3) := by decide +kernel
theorem dX9_prove_69 : decode cX9_prove 69 = .ok (.bipush 119, 2) := by decide +kernel
theorem dX9_prove_71 : decode cX9_prove 71 = .ok (.goto 21, 3) := by decide +kernel
theorem dX9_prove_74 : decode cX9_prove 74 = .ok (.aload_n 0, 1) := by decide +kernel
theorem dX9_prove_75 : decode cX9_prove 75 = .ok (.getfield 16, 3) := by decide +kernel
theorem dX9_prove_78 : decode cX9_prove 78 = .ok (.iload_n 1, 1) := by decide +kernel
theorem dX9_prove_79 : decode cX9_prove 79 = .ok (.iaload, 1) := by decide +kernel
theorem dX9_prove_80 : decode cX9_prove 80 = .ok (.bipush 104, 2) := by decide +kernel
theorem dX9_prove_82 : decode cX9_prove 82 = .ok (.if_icmp .ne 8, 3) := by decide +kernel
theorem dX9_prove_85 : decode cX9_prove 85 = .ok (.bipush 104, 2) := by decide +kernel
theorem dX9_prove_87 : decode cX9_prove 87 = .ok (.goto 5, 3) := by decide +kernel
theorem dX9_prove_90 : decode cX9_prove 90 = .ok (.bipush 111, 2) := by decide +kernel
theorem dX9_prove_92 : decode cX9_prove 92 = .ok (.iastore, 1) := by decide +kernel
theorem dX9_prove_93 : decode cX9_prove 93 = .ok (.aload_n 0, 1) := by decide +kernel
theorem dX9_prove_94 : decode cX9_prove 94 = .ok (.iload_n 2, 1) := by decide +kernel
theorem dX9_prove_95 : decode cX9_prove 95 = .ok (.iconst 1, 1) := by decide +kernel
theorem dX9_prove_96 : decode cX9_prove 96 = .ok (.if_icmp .ne 8, 3) := by decide +kernel
theorem dX9_prove_99 : decode cX9_prove 99 = .ok (.bipush 119, 2) := by decide +kernel
theorem dX9_prove_101 : decode cX9_prove 101 = .ok (.goto 15, 3) := by decide +kernel
theorem dX9_prove_104 : decode cX9_prove 104 = .ok (.iload_n 2, 1) := by decide +kernel
theorem dX9_prove_105 : decode cX9_prove 105 = .ok (.iconst 2, 1) := by decide +kernel
theorem dX9_prove_106 : decode cX9_prove 106 = .ok (.if_icmp .ne 8, 3) := by decide +kernel
theorem dX9_prove_109 : decode cX9_prove 109 = .ok (.bipush 110, 2) := by decide +kernel
theorem dX9_prove_111 : decode cX9_prove 111 = .ok (.goto 5, 3) := by decide +kernel
theorem dX9_prove_114 : decode cX9_prove 114 = .ok (.bipush 102, 2) := by decide +kernel
theorem dX9_prove_116 : decode cX9_prove 116 = .ok (.invokevirtual 229, 3) := by decide +kernel
theorem dX9_prove_119 : decode cX9_prove 119 = .ok (.ireturn, 1) := by decide +kernel
theorem dX9_steps_0 : decode cX9_steps 0 = .ok (.aload_n 0, 1) := by decide +kernel
theorem dX9_steps_1 : decode cX9_steps 1 = .ok (.iload_n 1, 1) := by decide +kernel
theorem dX9_steps_2 : decode cX9_steps 2 = .ok (.invokevirtual 212, 3) := by decide +kernel
theorem dX9_steps_5 : decode cX9_steps 5 = .ok (.ifCond .ne 9, 3) := by decide +kernel
theorem dX9_steps_8 : decode cX9_steps 8 = .ok (.aload_n 0, 1) := by decide +kernel
theorem dX9_steps_9 : decode cX9_steps 9 = .ok (.iconst 1, 1) := by decide +kernel
theorem dX9_steps_10 : decode cX9_steps 10 = .ok (.invokevirtual 206, 3) := by decide +kernel
theorem dX9_steps_13 : decode cX9_steps 13 = .ok (.ireturn, 1) := by decide +kernel
theorem dX9_steps_14 : decode cX9_steps 14 = .ok (.aload_n 0, 1) := by decide +kernel
theorem dX9_steps_15 : decode cX9_steps 15 = .ok (.getfield 19, 3) := by decide +kernel
theorem dX9_steps_18 : decode cX9_steps 18 = .ok (.iload_n 1, 1) := by decide +kernel
theorem dX9_steps_19 : decode cX9_steps 19 = .ok (.iaload, 1) := by decide +kernel
theorem dX9_steps_20 : decode cX9_steps 20 = .ok (.ifCond .ne 11, 3) := by decide +kernel
theorem dX9_steps_23 : decode cX9_steps 23 = .ok (.aload_n 0, 1) := by decide +kernel
theorem dX9_steps_24 : decode cX9_steps 24 = .ok (.iconst 2, 1) := by decide +kernel
theorem dX9_steps_25 : decode cX9_steps 25 = .ok (.invokevirtual 206, 3) := by decide +kernel
theorem dX9_steps_28 : decode cX9_steps 28 = .ok (.goto 13, 3) := by decide +kernel
theorem dX9_steps_31 : decode cX9_steps 31 = .ok (.aload_n 0, 1) := by decide +kernel
theorem dX9_steps_32 : decode cX9_steps 32 = .ok (.aload_n 0, 1) := by decide +kernel
theorem dX9_steps_33 : decode cX9_steps 33 = .ok (.getfield 22, 3) := by decide +kernel
theorem dX9_steps_36 : decode cX9_steps 36 = .ok (.iload_n 1, 1) := by decide +kernel
theorem dX9_steps_37 : decode cX9_steps 37 = .ok (.iaload, 1) := by decide +kernel
theorem dX9_steps_38 : decode cX9_steps 38 = .ok (.invokevirtual 209, 3) := by decide +kernel
theorem dX9_steps_41 : decode cX9_steps 41 = .ok (.ireturn, 1) := by decide +kernel
theorem dX9_stepOf_0 : decode cX9_stepOf 0 = .ok (.aload_n 0, 1) := by decide +kernel
theorem dX9_stepOf_1 : decode cX9_stepOf 1 = .ok (.aload_n 0, 1) := by decide +kernel
theorem dX9_stepOf_2 : decode cX9_stepOf 2 = .ok (.iload_n 1, 1) := by decide +kernel
theorem dX9_stepOf_3 : decode cX9_stepOf 3 = .ok (.invokevirtual 212, 3) := by decide +kernel
theorem dX9_stepOf_6 : decode cX9_stepOf 6 = .ok (.ifCond .ne 7, 3) := by decide +kernel
theorem dX9_stepOf_9 : decode cX9_stepOf 9 = .ok (.iconst 1, 1) := by decide +kernel
theorem dX9_stepOf_10 : decode cX9_stepOf 10 = .ok (.goto 33, 3) := by decide +kernel
theorem dX9_stepOf_13 : decode cX9_stepOf 13 = .ok (.aload_n 0, 1) := by decide +kernel
theorem dX9_stepOf_14 : decode cX9_stepOf 14 = .ok (.getfield 19, 3) := by decide +kernel
theorem dX9_stepOf_17 : decode cX9_stepOf 17 = .ok (.iload_n 1, 1) := by decide +kernel
theorem dX9_stepOf_18 : decode cX9_stepOf 18 = .ok (.iaload, 1) := by decide +kernel
theorem dX9_stepOf_19 : decode cX9_stepOf 19 = .ok (.ifCond .eq 19, 3) := by decide +kernel
theorem dX9_stepOf_22 : decode cX9_stepOf 22 = .ok (.iload_n 2, 1) := by decide +kernel
theorem dX9_stepOf_23 : decode cX9_stepOf 23 = .ok (.iconst 0, 1) := by decide +kernel
theorem dX9_stepOf_24 : decode cX9_stepOf 24 = .ok (.aload_n 0, 1) := by decide +kernel
theorem dX9_stepOf_25 : decode cX9_stepOf 25 = .ok (.getfield 22, 3) := by decide +kernel
theorem dX9_stepOf_28 : decode cX9_stepOf 28 = .ok (.iload_n 1, 1) := by decide +kernel
theorem dX9_stepOf_29 : decode cX9_stepOf 29 = .ok (.iaload, 1) := by decide +kernel
theorem dX9_stepOf_30 : decode cX9_stepOf 30 = .ok (.iconst 1, 1) := by decide +kernel
theorem dX9_stepOf_31 : decode cX9_stepOf 31 = .ok (.isub, 1) := by decide +kernel
theorem dX9_stepOf_32 : decode cX9_stepOf 32 = .ok (.invokestatic 203, 3) := by decide +kernel
theorem dX9_stepOf_35 : decode cX9_stepOf 35 = .ok (.ifCond .ne 7, 3) := by decide +kernel
theorem dX9_stepOf_38 : decode cX9_stepOf 38 = .ok (.iconst 2, 1) := by decide +kernel
theorem dX9_stepOf_39 : decode cX9_stepOf 39 = .ok (.goto 4, 3) := by decide +kernel
theorem dX9_stepOf_42 : decode cX9_stepOf 42 = .ok (.iconst 0, 1) := by decide +kernel
theorem dX9_stepOf_43 : decode cX9_stepOf 43 = .ok (.putfield 94, 3) := by decide +kernel
theorem dX9_stepOf_46 : decode cX9_stepOf 46 = .ok (.aload_n 0, 1) := by decide +kernel
theorem dX9_stepOf_47 : decode cX9_stepOf 47 = .ok (.getfield 94, 3) := by decide +kernel
theorem dX9_stepOf_50 : decode cX9_stepOf 50 = .ok (.ifCond .ne 12, 3) := by decide +kernel
theorem dX9_stepOf_53 : decode cX9_stepOf 53 = .ok (.bipush 36, 2) := by decide +kernel
theorem dX9_stepOf_55 : decode cX9_stepOf 55 = .ok (.iload_n 1, 1) := by decide +kernel
theorem dX9_stepOf_56 : decode cX9_stepOf 56 = .ok (.imul, 1) := by decide +kernel
theorem dX9_stepOf_57 : decode cX9_stepOf 57 = .ok (.iload_n 2, 1) := by decide +kernel
theorem dX9_stepOf_58 : decode cX9_stepOf 58 = .ok (.iadd, 1) := by decide +kernel
theorem dX9_stepOf_59 : decode cX9_stepOf 59 = .ok (.goto 4, 3) := by decide +kernel
theorem dX9_stepOf_62 : decode cX9_stepOf 62 = .ok (.iconst (-1), 1) := by decide +kernel
theorem dX9_stepOf_63 : decode cX9_stepOf 63 = .ok (.ireturn, 1) := by decide +kernel
theorem dX9_ruleAt_0 : decode cX9_ruleAt 0 = .ok (.aload_n 0, 1) := by decide +kernel
theorem dX9_ruleAt_1 : decode cX9_ruleAt 1 = .ok (.iload_n 1, 1) := by decide +kernel
theorem dX9_ruleAt_2 : decode cX9_ruleAt 2 = .ok (.iload_n 2, 1) := by decide +kernel
theorem dX9_ruleAt_3 : decode cX9_ruleAt 3 = .ok (.invokevirtual 232, 3) := by decide +kernel
theorem dX9_ruleAt_6 : decode cX9_ruleAt 6 = .ok (.istore_n 3, 1) := by decide +kernel
theorem dX9_ruleAt_7 : decode cX9_ruleAt 7 = .ok (.iload_n 3, 1) := by decide +kernel
theorem dX9_ruleAt_8 : decode cX9_ruleAt 8 = .ok (.iconst (-1), 1) := by decide +kernel
theorem dX9_ruleAt_9 : decode cX9_ruleAt 9 = .ok (.if_icmp .ne 7, 3) := by decide +kernel
theorem dX9_ruleAt_12 : decode cX9_ruleAt 12 = .ok (.iconst 0, 1) := by decide +kernel
theorem dX9_ruleAt_13 : decode cX9_ruleAt 13 = .ok (.goto 9, 3) := by decide +kernel
theorem dX9_ruleAt_16 : decode cX9_ruleAt 16 = .ok (.aload_n 0, 1) := by decide +kernel
theorem dX9_ruleAt_17 : decode cX9_ruleAt 17 = .ok (.getfield 40, 3) := by decide +kernel
theorem dX9_ruleAt_20 : decode cX9_ruleAt 20 = .ok (.iload_n 3, 1) := by decide +kernel
theorem dX9_ruleAt_21 : decode cX9_ruleAt 21 = .ok (.iaload, 1) := by decide +kernel
theorem dX9_ruleAt_22 : decode cX9_ruleAt 22 = .ok (.ireturn, 1) := by decide +kernel
theorem dX9_causeAt_0 : decode cX9_causeAt 0 = .ok (.aload_n 0, 1) := by decide +kernel
theorem dX9_causeAt_1 : decode cX9_causeAt 1 = .ok (.iload_n 1, 1) := by decide +kernel
theorem dX9_causeAt_2 : decode cX9_causeAt 2 = .ok (.iload_n 2, 1) := by decide +kernel
theorem dX9_causeAt_3 : decode cX9_causeAt 3 = .ok (.invokevirtual 232, 3) := by decide +kernel
theorem dX9_causeAt_6 : decode cX9_causeAt 6 = .ok (.istore_n 3, 1) := by decide +kernel
theorem dX9_causeAt_7 : decode cX9_causeAt 7 = .ok (.iload_n 3, 1) := by decide +kernel
theorem dX9_causeAt_8 : decode cX9_causeAt 8 = .ok (.iconst (-1), 1) := by decide +kernel
theorem dX9_causeAt_9 : decode cX9_causeAt 9 = .ok (.if_icmp .ne 7, 3) := by decide +kernel
theorem dX9_causeAt_12 : decode cX9_causeAt 12 = .ok (.iconst 0, 1) := by decide +kernel
theorem dX9_causeAt_13 : decode cX9_causeAt 13 = .ok (.goto 9, 3) := by decide +kernel
theorem dX9_causeAt_16 : decode cX9_causeAt 16 = .ok (.aload_n 0, 1) := by decide +kernel
theorem dX9_causeAt_17 : decode cX9_causeAt 17 = .ok (.getfield 43, 3) := by decide +kernel
theorem dX9_causeAt_20 : decode cX9_causeAt 20 = .ok (.iload_n 3, 1) := by decide +kernel
theorem dX9_causeAt_21 : decode cX9_causeAt 21 = .ok (.iaload, 1) := by decide +kernel
theorem dX9_causeAt_22 : decode cX9_causeAt 22 = .ok (.ireturn, 1) := by decide +kernel
theorem dX9_takenAt_0 : decode cX9_takenAt 0 = .ok (.aload_n 0, 1) := by decide +kernel
theorem dX9_takenAt_1 : decode cX9_takenAt 1 = .ok (.iload_n 1, 1) := by decide +kernel
theorem dX9_takenAt_2 : decode cX9_takenAt 2 = .ok (.iload_n 2, 1) := by decide +kernel
theorem dX9_takenAt_3 : decode cX9_takenAt 3 = .ok (.invokevirtual 232, 3) := by decide +kernel
theorem dX9_takenAt_6 : decode cX9_takenAt 6 = .ok (.istore_n 3, 1) := by decide +kernel
theorem dX9_takenAt_7 : decode cX9_takenAt 7 = .ok (.iload_n 3, 1) := by decide +kernel
theorem dX9_takenAt_8 : decode cX9_takenAt 8 = .ok (.iconst (-1), 1) := by decide +kernel
theorem dX9_takenAt_9 : decode cX9_takenAt 9 = .ok (.if_icmp .ne 7, 3) := by decide +kernel
theorem dX9_takenAt_12 : decode cX9_takenAt 12 = .ok (.iconst 0, 1) := by decide +kernel
theorem dX9_takenAt_13 : decode cX9_takenAt 13 = .ok (.goto 9, 3) := by decide +kernel
theorem dX9_takenAt_16 : decode cX9_takenAt 16 = .ok (.aload_n 0, 1) := by decide +kernel
theorem dX9_takenAt_17 : decode cX9_takenAt 17 = .ok (.getfield 46, 3) := by decide +kernel
theorem dX9_takenAt_20 : decode cX9_takenAt 20 = .ok (.iload_n 3, 1) := by decide +kernel
theorem dX9_takenAt_21 : decode cX9_takenAt 21 = .ok (.iaload, 1) := by decide +kernel
theorem dX9_takenAt_22 : decode cX9_takenAt 22 = .ok (.ireturn, 1) := by decide +kernel
theorem dX9_isRule_0 : decode cX9_isRule 0 = .ok (.iload_n 1, 1) := by decide +kernel
theorem dX9_isRule_1 : decode cX9_isRule 1 = .ok (.iconst 0, 1) := by decide +kernel
theorem dX9_isRule_2 : decode cX9_isRule 2 = .ok (.bipush 9, 2) := by decide +kernel
theorem dX9_isRule_4 : decode cX9_isRule 4 = .ok (.aload_n 0, 1) := by decide +kernel
theorem dX9_isRule_5 : decode cX9_isRule 5 = .ok (.getfield 156, 3) := by decide +kernel
theorem dX9_isRule_8 : decode cX9_isRule 8 = .ok (.iadd, 1) := by decide +kernel
theorem dX9_isRule_9 : decode cX9_isRule 9 = .ok (.invokestatic 203, 3) := by decide +kernel
theorem dX9_isRule_12 : decode cX9_isRule 12 = .ok (.ireturn, 1) := by decide +kernel
theorem dX9_leansOn_0 : decode cX9_leansOn 0 = .ok (.aload_n 0, 1) := by decide +kernel
theorem dX9_leansOn_1 : decode cX9_leansOn 1 = .ok (.iload_n 1, 1) := by decide +kernel
theorem dX9_leansOn_2 : decode cX9_leansOn 2 = .ok (.invokevirtual 212, 3) := by decide +kernel
theorem dX9_leansOn_5 : decode cX9_leansOn 5 = .ok (.ifCond .eq 24, 3) := by decide +kernel
theorem dX9_leansOn_8 : decode cX9_leansOn 8 = .ok (.aload_n 0, 1) := by decide +kernel
theorem dX9_leansOn_9 : decode cX9_leansOn 9 = .ok (.iload_n 2, 1) := by decide +kernel
theorem dX9_leansOn_10 : decode cX9_leansOn 10 = .ok (.invokevirtual 235, 3) := by decide +kernel
theorem dX9_leansOn_13 : decode cX9_leansOn 13 = .ok (.ifCond .eq 16, 3) := by decide +kernel
theorem dX9_leansOn_16 : decode cX9_leansOn 16 = .ok (.aload_n 0, 1) := by decide +kernel
theorem dX9_leansOn_17 : decode cX9_leansOn 17 = .ok (.aload_n 0, 1) := by decide +kernel
theorem dX9_leansOn_18 : decode cX9_leansOn 18 = .ok (.iload_n 1, 1) := by decide +kernel
theorem dX9_leansOn_19 : decode cX9_leansOn 19 = .ok (.iload_n 2, 1) := by decide +kernel
theorem dX9_leansOn_20 : decode cX9_leansOn 20 = .ok (.invokevirtual 238, 3) := by decide +kernel
theorem dX9_leansOn_23 : decode cX9_leansOn 23 = .ok (.invokevirtual 241, 3) := by decide +kernel
theorem dX9_leansOn_26 : decode cX9_leansOn 26 = .ok (.goto 8, 3) := by decide +kernel
theorem dX9_leansOn_29 : decode cX9_leansOn 29 = .ok (.aload_n 0, 1) := by decide +kernel
theorem dX9_leansOn_30 : decode cX9_leansOn 30 = .ok (.iconst 1, 1) := by decide +kernel
theorem dX9_leansOn_31 : decode cX9_leansOn 31 = .ok (.invokevirtual 245, 3) := by decide +kernel
theorem dX9_leansOn_34 : decode cX9_leansOn 34 = .ok (.ireturn, 1) := by decide +kernel
theorem dX9_state_0 : decode cX9_state 0 = .ok (.aload_n 0, 1) := by decide +kernel
theorem dX9_state_1 : decode cX9_state 1 = .ok (.iload_n 1, 1) := by decide +kernel
theorem dX9_state_2 : decode cX9_state 2 = .ok (.invokevirtual 212, 3) := by decide +kernel
theorem dX9_state_5 : decode cX9_state 5 = .ok (.ifCond .eq 16, 3) := by decide +kernel
theorem dX9_state_8 : decode cX9_state 8 = .ok (.aload_n 0, 1) := by decide +kernel
theorem dX9_state_9 : decode cX9_state 9 = .ok (.aload_n 0, 1) := by decide +kernel
theorem dX9_state_10 : decode cX9_state 10 = .ok (.getfield 16, 3) := by decide +kernel
theorem dX9_state_13 : decode cX9_state 13 = .ok (.iload_n 1, 1) := by decide +kernel
theorem dX9_state_14 : decode cX9_state 14 = .ok (.iaload, 1) := by decide +kernel
theorem dX9_state_15 : decode cX9_state 15 = .ok (.invokevirtual 229, 3) := by decide +kernel
theorem dX9_state_18 : decode cX9_state 18 = .ok (.goto 8, 3) := by decide +kernel
theorem dX9_state_21 : decode cX9_state 21 = .ok (.aload_n 0, 1) := by decide +kernel
theorem dX9_state_22 : decode cX9_state 22 = .ok (.iconst 1, 1) := by decide +kernel
theorem dX9_state_23 : decode cX9_state 23 = .ok (.invokevirtual 222, 3) := by decide +kernel
theorem dX9_state_26 : decode cX9_state 26 = .ok (.ireturn, 1) := by decide +kernel
theorem dX9_rule_0 : decode cX9_rule 0 = .ok (.iload_n 1, 1) := by decide +kernel
theorem dX9_rule_1 : decode cX9_rule 1 = .ok (.bipush 98, 2) := by decide +kernel
theorem dX9_rule_3 : decode cX9_rule 3 = .ok (.if_icmp .eq 21, 3) := by decide +kernel
theorem dX9_rule_6 : decode cX9_rule 6 = .ok (.iload_n 1, 1) := by decide +kernel
theorem dX9_rule_7 : decode cX9_rule 7 = .ok (.bipush 110, 2) := by decide +kernel
theorem dX9_rule_9 : decode cX9_rule 9 = .ok (.if_icmp .eq 15, 3) := by decide +kernel
theorem dX9_rule_12 : decode cX9_rule 12 = .ok (.iload_n 1, 1) := by decide +kernel
theorem dX9_rule_13 : decode cX9_rule 13 = .ok (.bipush 108, 2) := by decide +kernel
theorem dX9_rule_15 : decode cX9_rule 15 = .ok (.if_icmp .eq 9, 3) := by decide +kernel
theorem dX9_rule_18 : decode cX9_rule 18 = .ok (.iload_n 1, 1) := by decide +kernel
theorem dX9_rule_19 : decode cX9_rule 19 = .ok (.bipush 109, 2) := by decide +kernel
theorem dX9_rule_21 : decode cX9_rule 21 = .ok (.if_icmp .ne 41, 3) := by decide +kernel
theorem dX9_rule_24 : decode cX9_rule 24 = .ok (.iload_n 2, 1) := by decide +kernel
theorem dX9_rule_25 : decode cX9_rule 25 = .ok (.bipush 97, 2) := by decide +kernel
theorem dX9_rule_27 : decode cX9_rule 27 = .ok (.if_icmp .eq 21, 3) := by decide +kernel
theorem dX9_rule_30 : decode cX9_rule 30 = .ok (.iload_n 2, 1) := by decide +kernel
theorem dX9_rule_31 : decode cX9_rule 31 = .ok (.bipush 98, 2) := by decide +kernel
theorem dX9_rule_33 : decode cX9_rule 33 = .ok (.if_icmp .eq 15, 3) := by decide +kernel
theorem dX9_rule_36 : decode cX9_rule 36 = .ok (.iload_n 2, 1) := by decide +kernel
theorem dX9_rule_37 : decode cX9_rule 37 = .ok (.bipush 99, 2) := by decide +kernel
theorem dX9_rule_39 : decode cX9_rule 39 = .ok (.if_icmp .ne 23, 3) := by decide +kernel
theorem dX9_rule_42 : decode cX9_rule 42 = .ok (.iload_n 1, 1) := by decide +kernel
theorem dX9_rule_43 : decode cX9_rule 43 = .ok (.bipush 109, 2) := by decide +kernel
theorem dX9_rule_45 : decode cX9_rule 45 = .ok (.if_icmp .ne 17, 3) := by decide +kernel
theorem dX9_rule_48 : decode cX9_rule 48 = .ok (.iload 4, 2) := by decide +kernel
theorem dX9_rule_50 : decode cX9_rule 50 = .ok (.iconst 1, 1) := by decide +kernel
theorem dX9_rule_51 : decode cX9_rule 51 = .ok (.iconst 5, 1) := by decide +kernel
theorem dX9_rule_52 : decode cX9_rule 52 = .ok (.invokestatic 203, 3) := by decide +kernel
theorem dX9_rule_55 : decode cX9_rule 55 = .ok (.ifCond .eq 7, 3) := by decide +kernel
theorem dX9_rule_58 : decode cX9_rule 58 = .ok (.iconst 1, 1) := by decide +kernel
theorem dX9_rule_59 : decode cX9_rule 59 = .ok (.goto 4, 3) := by decide +kernel
theorem dX9_rule_62 : decode cX9_rule 62 = .ok (.iconst 0, 1) := by decide +kernel
theorem dX9_rule_63 : decode cX9_rule 63 = .ok (.istore 5, 2) := by decide +kernel
theorem dX9_rule_65 : decode cX9_rule 65 = .ok (.iload 5, 2) := by decide +kernel
theorem dX9_rule_67 : decode cX9_rule 67 = .ok (.ifCond .ne 9, 3) := by decide +kernel
theorem dX9_rule_70 : decode cX9_rule 70 = .ok (.aload_n 0, 1) := by decide +kernel
theorem dX9_rule_71 : decode cX9_rule 71 = .ok (.iconst 1, 1) := by decide +kernel
theorem dX9_rule_72 : decode cX9_rule 72 = .ok (.invokevirtual 206, 3) := by decide +kernel
theorem dX9_rule_75 : decode cX9_rule 75 = .ok (.ireturn, 1) := by decide +kernel
theorem dX9_rule_76 : decode cX9_rule 76 = .ok (.aload_n 0, 1) := by decide +kernel
theorem dX9_rule_77 : decode cX9_rule 77 = .ok (.getfield 156, 3) := by decide +kernel
theorem dX9_rule_80 : decode cX9_rule 80 = .ok (.bipush 6, 2) := by decide +kernel
theorem dX9_rule_82 : decode cX9_rule 82 = .ok (.if_icmp .ne 9, 3) := by decide +kernel
theorem dX9_rule_85 : decode cX9_rule 85 = .ok (.aload_n 0, 1) := by decide +kernel
theorem dX9_rule_86 : decode cX9_rule 86 = .ok (.iconst 2, 1) := by decide +kernel
theorem dX9_rule_87 : decode cX9_rule 87 = .ok (.invokevirtual 206, 3) := by decide +kernel
theorem dX9_rule_90 : decode cX9_rule 90 = .ok (.ireturn, 1) := by decide +kernel
theorem dX9_rule_91 : decode cX9_rule 91 = .ok (.aload_n 0, 1) := by decide +kernel
theorem dX9_rule_92 : decode cX9_rule 92 = .ok (.getfield 49, 3) := by decide +kernel
theorem dX9_rule_95 : decode cX9_rule 95 = .ok (.aload_n 0, 1) := by decide +kernel
theorem dX9_rule_96 : decode cX9_rule 96 = .ok (.getfield 156, 3) := by decide +kernel
theorem dX9_rule_99 : decode cX9_rule 99 = .ok (.iload_n 1, 1) := by decide +kernel
theorem dX9_rule_100 : decode cX9_rule 100 = .ok (.iastore, 1) := by decide +kernel
theorem dX9_rule_101 : decode cX9_rule 101 = .ok (.aload_n 0, 1) := by decide +kernel
theorem dX9_rule_102 : decode cX9_rule 102 = .ok (.getfield 52, 3) := by decide +kernel
theorem dX9_rule_105 : decode cX9_rule 105 = .ok (.aload_n 0, 1) := by decide +kernel
theorem dX9_rule_106 : decode cX9_rule 106 = .ok (.getfield 156, 3) := by decide +kernel
theorem dX9_rule_109 : decode cX9_rule 109 = .ok (.iload_n 2, 1) := by decide +kernel
theorem dX9_rule_110 : decode cX9_rule 110 = .ok (.iastore, 1) := by decide +kernel
theorem dX9_rule_111 : decode cX9_rule 111 = .ok (.aload_n 0, 1) := by decide +kernel
theorem dX9_rule_112 : decode cX9_rule 112 = .ok (.getfield 55, 3) := by decide +kernel
theorem dX9_rule_115 : decode cX9_rule 115 = .ok (.aload_n 0, 1) := by decide +kernel
theorem dX9_rule_116 : decode cX9_rule 116 = .ok (.getfield 156, 3) := by decide +kernel
theorem dX9_rule_119 : decode cX9_rule 119 = .ok (.iload_n 3, 1) := by decide +kernel
theorem dX9_rule_120 : decode cX9_rule 120 = .ok (.ifCond .eq 7, 3) := by decide +kernel
theorem dX9_rule_123 : decode cX9_rule 123 = .ok (.iconst 1, 1) := by decide +kernel
theorem dX9_rule_124 : decode cX9_rule 124 = .ok (.goto 4, 3) := by decide +kernel
theorem dX9_rule_127 : decode cX9_rule 127 = .ok (.iconst 0, 1) := by decide +kernel
theorem dX9_rule_128 : decode cX9_rule 128 = .ok (.iastore, 1) := by decide +kernel
theorem dX9_rule_129 : decode cX9_rule 129 = .ok (.aload_n 0, 1) := by decide +kernel
theorem dX9_rule_130 : decode cX9_rule 130 = .ok (.getfield 58, 3) := by decide +kernel
theorem dX9_rule_133 : decode cX9_rule 133 = .ok (.aload_n 0, 1) := by decide +kernel
theorem dX9_rule_134 : decode cX9_rule 134 = .ok (.getfield 156, 3) := by decide +kernel
theorem dX9_rule_137 : decode cX9_rule 137 = .ok (.iload 4, 2) := by decide +kernel
theorem dX9_rule_139 : decode cX9_rule 139 = .ok (.iastore, 1) := by decide +kernel
theorem dX9_rule_140 : decode cX9_rule 140 = .ok (.aload_n 0, 1) := by decide +kernel
theorem dX9_rule_141 : decode cX9_rule 141 = .ok (.dup, 1) := by decide +kernel
theorem dX9_rule_142 : decode cX9_rule 142 = .ok (.getfield 156, 3) := by decide +kernel
theorem dX9_rule_145 : decode cX9_rule 145 = .ok (.iconst 1, 1) := by decide +kernel
theorem dX9_rule_146 : decode cX9_rule 146 = .ok (.iadd, 1) := by decide +kernel
theorem dX9_rule_147 : decode cX9_rule 147 = .ok (.putfield 156, 3) := by decide +kernel
theorem dX9_rule_150 : decode cX9_rule 150 = .ok (.aload_n 0, 1) := by decide +kernel
theorem dX9_rule_151 : decode cX9_rule 151 = .ok (.bipush 9, 2) := by decide +kernel
theorem dX9_rule_153 : decode cX9_rule 153 = .ok (.aload_n 0, 1) := by decide +kernel
theorem dX9_rule_154 : decode cX9_rule 154 = .ok (.getfield 156, 3) := by decide +kernel
theorem dX9_rule_157 : decode cX9_rule 157 = .ok (.iadd, 1) := by decide +kernel
theorem dX9_rule_158 : decode cX9_rule 158 = .ok (.invokevirtual 209, 3) := by decide +kernel
theorem dX9_rule_161 : decode cX9_rule 161 = .ok (.ireturn, 1) := by decide +kernel
theorem dX9_stands_0 : decode cX9_stands 0 = .ok (.aload_n 0, 1) := by decide +kernel
theorem dX9_stands_1 : decode cX9_stands 1 = .ok (.iload_n 1, 1) := by decide +kernel
theorem dX9_stands_2 : decode cX9_stands 2 = .ok (.invokevirtual 235, 3) := by decide +kernel
theorem dX9_stands_5 : decode cX9_stands 5 = .ok (.ifCond .eq 33, 3) := by decide +kernel
theorem dX9_stands_8 : decode cX9_stands 8 = .ok (.aload_n 0, 1) := by decide +kernel
theorem dX9_stands_9 : decode cX9_stands 9 = .ok (.iload_n 1, 1) := by decide +kernel
theorem dX9_stands_10 : decode cX9_stands 10 = .ok (.bipush 10, 2) := by decide +kernel
theorem dX9_stands_12 : decode cX9_stands 12 = .ok (.if_icmp .lt 15, 3) := by decide +kernel
theorem dX9_stands_15 : decode cX9_stands 15 = .ok (.aload_n 0, 1) := by decide +kernel
theorem dX9_stands_16 : decode cX9_stands 16 = .ok (.getfield 61, 3) := by decide +kernel
theorem dX9_stands_19 : decode cX9_stands 19 = .ok (.iload_n 1, 1) := by decide +kernel
theorem dX9_stands_20 : decode cX9_stands 20 = .ok (.bipush 10, 2) := by decide +kernel
theorem dX9_stands_22 : decode cX9_stands 22 = .ok (.isub, 1) := by decide +kernel
theorem dX9_stands_23 : decode cX9_stands 23 = .ok (.iaload, 1) := by decide +kernel
theorem dX9_stands_24 : decode cX9_stands 24 = .ok (.ifCond .ne 7, 3) := by decide +kernel
theorem dX9_stands_27 : decode cX9_stands 27 = .ok (.iconst 1, 1) := by decide +kernel
theorem dX9_stands_28 : decode cX9_stands 28 = .ok (.goto 4, 3) := by decide +kernel
theorem dX9_stands_31 : decode cX9_stands 31 = .ok (.iconst 0, 1) := by decide +kernel
theorem dX9_stands_32 : decode cX9_stands 32 = .ok (.invokevirtual 241, 3) := by decide +kernel
theorem dX9_stands_35 : decode cX9_stands 35 = .ok (.goto 8, 3) := by decide +kernel
theorem dX9_stands_38 : decode cX9_stands 38 = .ok (.aload_n 0, 1) := by decide +kernel
theorem dX9_stands_39 : decode cX9_stands 39 = .ok (.iconst 1, 1) := by decide +kernel
theorem dX9_stands_40 : decode cX9_stands 40 = .ok (.invokevirtual 245, 3) := by decide +kernel
theorem dX9_stands_43 : decode cX9_stands 43 = .ok (.ireturn, 1) := by decide +kernel
theorem dX9_isOwn_0 : decode cX9_isOwn 0 = .ok (.iload_n 1, 1) := by decide +kernel
theorem dX9_isOwn_1 : decode cX9_isOwn 1 = .ok (.bipush 10, 2) := by decide +kernel
theorem dX9_isOwn_3 : decode cX9_isOwn 3 = .ok (.bipush 9, 2) := by decide +kernel
theorem dX9_isOwn_5 : decode cX9_isOwn 5 = .ok (.aload_n 0, 1) := by decide +kernel
theorem dX9_isOwn_6 : decode cX9_isOwn 6 = .ok (.getfield 156, 3) := by decide +kernel
theorem dX9_isOwn_9 : decode cX9_isOwn 9 = .ok (.iadd, 1) := by decide +kernel
theorem dX9_isOwn_10 : decode cX9_isOwn 10 = .ok (.invokestatic 203, 3) := by decide +kernel
theorem dX9_isOwn_13 : decode cX9_isOwn 13 = .ok (.ireturn, 1) := by decide +kernel
theorem dX9_counterexample_0 : decode cX9_counterexample 0 = .ok (.aload_n 0, 1) := by decide +kernel
theorem dX9_counterexample_1 : decode cX9_counterexample 1 = .ok (.iload_n 1, 1) := by decide +kernel
theorem dX9_counterexample_2 : decode cX9_counterexample 2 = .ok (.invokevirtual 248, 3) := by decide +kernel
theorem dX9_counterexample_5 : decode cX9_counterexample 5 = .ok (.ifCond .ne 9, 3) := by decide +kernel
theorem dX9_counterexample_8 : decode cX9_counterexample 8 = .ok (.aload_n 0, 1) := by decide +kernel
theorem dX9_counterexample_9 : decode cX9_counterexample 9 = .ok (.iconst 1, 1) := by decide +kernel
theorem dX9_counterexample_10 : decode cX9_counterexample 10 = .ok (.invokevirtual 206, 3) := by decide +kernel
theorem dX9_counterexample_13 : decode cX9_counterexample 13 = .ok (.ireturn, 1) := by decide +kernel
theorem dX9_counterexample_14 : decode cX9_counterexample 14 = .ok (.aload_n 0, 1) := by decide +kernel
theorem dX9_counterexample_15 : decode cX9_counterexample 15 = .ok (.iload_n 1, 1) := by decide +kernel
theorem dX9_counterexample_16 : decode cX9_counterexample 16 = .ok (.bipush 10, 2) := by decide +kernel
theorem dX9_counterexample_18 : decode cX9_counterexample 18 = .ok (.isub, 1) := by decide +kernel
theorem dX9_counterexample_19 : decode cX9_counterexample 19 = .ok (.invokevirtual 251, 3) := by decide +kernel
theorem dX9_counterexample_22 : decode cX9_counterexample 22 = .ok (.istore_n 2, 1) := by decide +kernel
theorem dX9_counterexample_23 : decode cX9_counterexample 23 = .ok (.iload_n 2, 1) := by decide +kernel
theorem dX9_counterexample_24 : decode cX9_counterexample 24 = .ok (.ifCond .ne 11, 3) := by decide +kernel
theorem dX9_counterexample_27 : decode cX9_counterexample 27 = .ok (.aload_n 0, 1) := by decide +kernel
theorem dX9_counterexample_28 : decode cX9_counterexample 28 = .ok (.iconst 2, 1) := by decide +kernel
theorem dX9_counterexample_29 : decode cX9_counterexample 29 = .ok (.invokevirtual 206, 3) := by decide +kernel
theorem dX9_counterexample_32 : decode cX9_counterexample 32 = .ok (.goto 8, 3) := by decide +kernel
theorem dX9_counterexample_35 : decode cX9_counterexample 35 = .ok (.aload_n 0, 1) := by decide +kernel
theorem dX9_counterexample_36 : decode cX9_counterexample 36 = .ok (.iload_n 2, 1) := by decide +kernel
theorem dX9_counterexample_37 : decode cX9_counterexample 37 = .ok (.invokevirtual 209, 3) := by decide +kernel
theorem dX9_counterexample_40 : decode cX9_counterexample 40 = .ok (.ireturn, 1) := by decide +kernel
theorem dX9_leansIssue_0 : decode cX9_leansIssue 0 = .ok (.iconst 0, 1) := by decide +kernel
theorem dX9_leansIssue_1 : decode cX9_leansIssue 1 = .ok (.istore_n 3, 1) := by decide +kernel
theorem dX9_leansIssue_2 : decode cX9_leansIssue 2 = .ok (.iconst 0, 1) := by decide +kernel
theorem dX9_leansIssue_3 : decode cX9_leansIssue 3 = .ok (.istore 4, 2) := by decide +kernel
theorem dX9_leansIssue_5 : decode cX9_leansIssue 5 = .ok (.iload 4, 2) := by decide +kernel
theorem dX9_leansIssue_7 : decode cX9_leansIssue 7 = .ok (.aload_n 0, 1) := by decide +kernel
theorem dX9_leansIssue_8 : decode cX9_leansIssue 8 = .ok (.getfield 67, 3) := by decide +kernel
theorem dX9_leansIssue_11 : decode cX9_leansIssue 11 = .ok (.iload_n 1, 1) := by decide +kernel
theorem dX9_leansIssue_12 : decode cX9_leansIssue 12 = .ok (.iaload, 1) := by decide +kernel
theorem dX9_leansIssue_13 : decode cX9_leansIssue 13 = .ok (.if_icmp .ge 38, 3) := by decide +kernel
theorem dX9_leansIssue_16 : decode cX9_leansIssue 16 = .ok (.iload_n 3, 1) := by decide +kernel
theorem dX9_leansIssue_17 : decode cX9_leansIssue 17 = .ok (.ifCond .ne 22, 3) := by decide +kernel
theorem dX9_leansIssue_20 : decode cX9_leansIssue 20 = .ok (.aload_n 0, 1) := by decide +kernel
theorem dX9_leansIssue_21 : decode cX9_leansIssue 21 = .ok (.aload_n 0, 1) := by decide +kernel
theorem dX9_leansIssue_22 : decode cX9_leansIssue 22 = .ok (.getfield 73, 3) := by decide +kernel
theorem dX9_leansIssue_25 : decode cX9_leansIssue 25 = .ok (.iconst 4, 1) := by decide +kernel
theorem dX9_leansIssue_26 : decode cX9_leansIssue 26 = .ok (.iload_n 1, 1) := by decide +kernel
theorem dX9_leansIssue_27 : decode cX9_leansIssue 27 = .ok (.imul, 1) := by decide +kernel
theorem dX9_leansIssue_28 : decode cX9_leansIssue 28 = .ok (.iload 4, 2) := by decide +kernel
theorem dX9_leansIssue_30 : decode cX9_leansIssue 30 = .ok (.iadd, 1) := by decide +kernel
theorem dX9_leansIssue_31 : decode cX9_leansIssue 31 = .ok (.iaload, 1) := by decide +kernel
theorem dX9_leansIssue_32 : decode cX9_leansIssue 32 = .ok (.iload_n 2, 1) := by decide +kernel
theorem dX9_leansIssue_33 : decode cX9_leansIssue 33 = .ok (.invokevirtual 238, 3) := by decide +kernel
theorem dX9_leansIssue_36 : decode cX9_leansIssue 36 = .ok (.ifCond .eq 7, 3) := by decide +kernel
theorem dX9_leansIssue_39 : decode cX9_leansIssue 39 = .ok (.iconst 1, 1) := by decide +kernel
theorem dX9_leansIssue_40 : decode cX9_leansIssue 40 = .ok (.goto 4, 3) := by decide +kernel
theorem dX9_leansIssue_43 : decode cX9_leansIssue 43 = .ok (.iconst 0, 1) := by decide +kernel
theorem dX9_leansIssue_44 : decode cX9_leansIssue 44 = .ok (.istore_n 3, 1) := by decide +kernel
theorem dX9_leansIssue_45 : decode cX9_leansIssue 45 = .ok (.iinc 4 1, 3) := by decide +kernel
theorem dX9_leansIssue_48 : decode cX9_leansIssue 48 = .ok (.goto (-43), 3) := by decide +kernel
theorem dX9_leansIssue_51 : decode cX9_leansIssue 51 = .ok (.iload_n 3, 1) := by decide +kernel
theorem dX9_leansIssue_52 : decode cX9_leansIssue 52 = .ok (.ireturn, 1) := by decide +kernel
theorem dX9_recalls_0 : decode cX9_recalls 0 = .ok (.aload_n 0, 1) := by decide +kernel
theorem dX9_recalls_1 : decode cX9_recalls 1 = .ok (.getfield 64, 3) := by decide +kernel
theorem dX9_recalls_4 : decode cX9_recalls 4 = .ok (.iload_n 1, 1) := by decide +kernel
theorem dX9_recalls_5 : decode cX9_recalls 5 = .ok (.bipush 114, 2) := by decide +kernel
theorem dX9_recalls_7 : decode cX9_recalls 7 = .ok (.iastore, 1) := by decide +kernel
theorem dX9_recalls_8 : decode cX9_recalls 8 = .ok (.iconst 0, 1) := by decide +kernel
theorem dX9_recalls_9 : decode cX9_recalls 9 = .ok (.istore_n 3, 1) := by decide +kernel
theorem dX9_recalls_10 : decode cX9_recalls 10 = .ok (.iload_n 3, 1) := by decide +kernel
theorem dX9_recalls_11 : decode cX9_recalls 11 = .ok (.aload_n 0, 1) := by decide +kernel
theorem dX9_recalls_12 : decode cX9_recalls 12 = .ok (.getfield 254, 3) := by decide +kernel
theorem dX9_recalls_15 : decode cX9_recalls 15 = .ok (.if_icmp .ge 89, 3) := by decide +kernel
theorem dX9_recalls_18 : decode cX9_recalls 18 = .ok (.aload_n 0, 1) := by decide +kernel
theorem dX9_recalls_19 : decode cX9_recalls 19 = .ok (.getfield 82, 3) := by decide +kernel
theorem dX9_recalls_22 : decode cX9_recalls 22 = .ok (.bipush 12, 2) := by decide +kernel
theorem dX9_recalls_24 : decode cX9_recalls 24 = .ok (.iload_n 3, 1) := by decide +kernel
theorem dX9_recalls_25 : decode cX9_recalls 25 = .ok (.imul, 1) := by decide +kernel
theorem dX9_recalls_26 : decode cX9_recalls 26 = .ok (.iload_n 1, 1) := by decide +kernel
theorem dX9_recalls_27 : decode cX9_recalls 27 = .ok (.iadd, 1) := by decide +kernel
theorem dX9_recalls_28 : decode cX9_recalls 28 = .ok (.iaload, 1) := by decide +kernel
theorem dX9_recalls_29 : decode cX9_recalls 29 = .ok (.ifCond .ne 6, 3) := by decide +kernel
theorem dX9_recalls_32 : decode cX9_recalls 32 = .ok (.goto 66, 3) := by decide +kernel
theorem dX9_recalls_35 : decode cX9_recalls 35 = .ok (.aload_n 0, 1) := by decide +kernel
theorem dX9_recalls_36 : decode cX9_recalls 36 = .ok (.getfield 76, 3) := by decide +kernel
theorem dX9_recalls_39 : decode cX9_recalls 39 = .ok (.iload_n 3, 1) := by decide +kernel
theorem dX9_recalls_40 : decode cX9_recalls 40 = .ok (.aload_n 0, 1) := by decide +kernel
theorem dX9_recalls_41 : decode cX9_recalls 41 = .ok (.getfield 76, 3) := by decide +kernel
theorem dX9_recalls_44 : decode cX9_recalls 44 = .ok (.iload_n 3, 1) := by decide +kernel
theorem dX9_recalls_45 : decode cX9_recalls 45 = .ok (.iaload, 1) := by decide +kernel
theorem dX9_recalls_46 : decode cX9_recalls 46 = .ok (.i2l, 1) := by decide +kernel
theorem dX9_recalls_47 : decode cX9_recalls 47 = .ok (.aload_n 0, 1) := by decide +kernel
theorem dX9_recalls_48 : decode cX9_recalls 48 = .ok (.getfield 70, 3) := by decide +kernel
theorem dX9_recalls_51 : decode cX9_recalls 51 = .ok (.iload_n 1, 1) := by decide +kernel
theorem dX9_recalls_52 : decode cX9_recalls 52 = .ok (.iaload, 1) := by decide +kernel
theorem dX9_recalls_53 : decode cX9_recalls 53 = .ok (.i2l, 1) := by decide +kernel
theorem dX9_recalls_54 : decode cX9_recalls 54 = .ok (.ladd, 1) := by decide +kernel
theorem dX9_recalls_55 : decode cX9_recalls 55 = .ok (.ldc2_w 257, 3) := by decide +kernel
theorem dX9_recalls_58 : decode cX9_recalls 58 = .ok (.lcmp, 1) := by decide +kernel
theorem dX9_recalls_59 : decode cX9_recalls 59 = .ok (.ifCond .le 9, 3) := by decide +kernel
theorem dX9_recalls_62 : decode cX9_recalls 62 = .ok (.ldc_w 259, 3) := by decide +kernel
theorem dX9_recalls_65 : decode cX9_recalls 65 = .ok (.goto 16, 3) := by decide +kernel
theorem dX9_recalls_68 : decode cX9_recalls 68 = .ok (.aload_n 0, 1) := by decide +kernel
theorem dX9_recalls_69 : decode cX9_recalls 69 = .ok (.getfield 76, 3) := by decide +kernel
theorem dX9_recalls_72 : decode cX9_recalls 72 = .ok (.iload_n 3, 1) := by decide +kernel
theorem dX9_recalls_73 : decode cX9_recalls 73 = .ok (.iaload, 1) := by decide +kernel
theorem dX9_recalls_74 : decode cX9_recalls 74 = .ok (.aload_n 0, 1) := by decide +kernel
theorem dX9_recalls_75 : decode cX9_recalls 75 = .ok (.getfield 70, 3) := by decide +kernel
theorem dX9_recalls_78 : decode cX9_recalls 78 = .ok (.iload_n 1, 1) := by decide +kernel
theorem dX9_recalls_79 : decode cX9_recalls 79 = .ok (.iaload, 1) := by decide +kernel
theorem dX9_recalls_80 : decode cX9_recalls 80 = .ok (.iadd, 1) := by decide +kernel
theorem dX9_recalls_81 : decode cX9_recalls 81 = .ok (.iastore, 1) := by decide +kernel
theorem dX9_recalls_82 : decode cX9_recalls 82 = .ok (.aload_n 0, 1) := by decide +kernel
theorem dX9_recalls_83 : decode cX9_recalls 83 = .ok (.dup, 1) := by decide +kernel
theorem dX9_recalls_84 : decode cX9_recalls 84 = .ok (.getfield 260, 3) := by decide +kernel
theorem dX9_recalls_87 : decode cX9_recalls 87 = .ok (.aload_n 0, 1) := by decide +kernel
theorem dX9_recalls_88 : decode cX9_recalls 88 = .ok (.getfield 70, 3) := by decide +kernel
theorem dX9_recalls_91 : decode cX9_recalls 91 = .ok (.iload_n 1, 1) := by decide +kernel
theorem dX9_recalls_92 : decode cX9_recalls 92 = .ok (.iaload, 1) := by decide +kernel
theorem dX9_recalls_93 : decode cX9_recalls 93 = .ok (.i2l, 1) := by decide +kernel
theorem dX9_recalls_94 : decode cX9_recalls 94 = .ok (.lsub, 1) := by decide +kernel
theorem dX9_recalls_95 : decode cX9_recalls 95 = .ok (.putfield 260, 3) := by decide +kernel
theorem dX9_recalls_98 : decode cX9_recalls 98 = .ok (.iinc 3 1, 3) := by decide +kernel
theorem dX9_recalls_101 : decode cX9_recalls 101 = .ok (.goto (-91), 3) := by decide +kernel
theorem dX9_recalls_104 : decode cX9_recalls 104 = .ok (.iconst 0, 1) := by decide +kernel
theorem dX9_recalls_105 : decode cX9_recalls 105 = .ok (.istore_n 3, 1) := by decide +kernel
theorem dX9_recalls_106 : decode cX9_recalls 106 = .ok (.iload_n 3, 1) := by decide +kernel
theorem dX9_recalls_107 : decode cX9_recalls 107 = .ok (.aload_n 0, 1) := by decide +kernel
theorem dX9_recalls_108 : decode cX9_recalls 108 = .ok (.getfield 67, 3) := by decide +kernel
theorem dX9_recalls_111 : decode cX9_recalls 111 = .ok (.iload_n 1, 1) := by decide +kernel
theorem dX9_recalls_112 : decode cX9_recalls 112 = .ok (.iaload, 1) := by decide +kernel
theorem dX9_recalls_113 : decode cX9_recalls 113 = .ok (.if_icmp .ge 55, 3) := by decide +kernel
theorem dX9_recalls_116 : decode cX9_recalls 116 = .ok (.aload_n 0, 1) := by decide +kernel
theorem dX9_recalls_117 : decode cX9_recalls 117 = .ok (.getfield 73, 3) := by decide +kernel
theorem dX9_recalls_120 : decode cX9_recalls 120 = .ok (.iconst 4, 1) := by decide +kernel
theorem dX9_recalls_121 : decode cX9_recalls 121 = .ok (.iload_n 1, 1) := by decide +kernel
theorem dX9_recalls_122 : decode cX9_recalls 122 = .ok (.imul, 1) := by decide +kernel
theorem dX9_recalls_123 : decode cX9_recalls 123 = .ok (.iload_n 3, 1) := by decide +kernel
theorem dX9_recalls_124 : decode cX9_recalls 124 = .ok (.iadd, 1) := by decide +kernel
theorem dX9_recalls_125 : decode cX9_recalls 125 = .ok (.iaload, 1) := by decide +kernel
theorem dX9_recalls_126 : decode cX9_recalls 126 = .ok (.istore 4, 2) := by decide +kernel
theorem dX9_recalls_128 : decode cX9_recalls 128 = .ok (.aload_n 0, 1) := by decide +kernel
theorem dX9_recalls_129 : decode cX9_recalls 129 = .ok (.getfield 16, 3) := by decide +kernel
theorem dX9_recalls_132 : decode cX9_recalls 132 = .ok (.iload 4, 2) := by decide +kernel
theorem dX9_recalls_134 : decode cX9_recalls 134 = .ok (.aload_n 0, 1) := by decide +kernel
theorem dX9_recalls_135 : decode cX9_recalls 135 = .ok (.iload 4, 2) := by decide +kernel
theorem dX9_recalls_137 : decode cX9_recalls 137 = .ok (.iload_n 2, 1) := by decide +kernel
theorem dX9_recalls_138 : decode cX9_recalls 138 = .ok (.invokevirtual 238, 3) := by decide +kernel
theorem dX9_recalls_141 : decode cX9_recalls 141 = .ok (.ifCond .eq 13, 3) := by decide +kernel
theorem dX9_recalls_144 : decode cX9_recalls 144 = .ok (.aload_n 0, 1) := by decide +kernel
theorem dX9_recalls_145 : decode cX9_recalls 145 = .ok (.iload 4, 2) := by decide +kernel
theorem dX9_recalls_147 : decode cX9_recalls 147 = .ok (.invokevirtual 226, 3) := by decide +kernel
theorem dX9_recalls_150 : decode cX9_recalls 150 = .ok (.iconst 1, 1) := by decide +kernel
theorem dX9_recalls_151 : decode cX9_recalls 151 = .ok (.if_icmp .ne 8, 3) := by decide +kernel
theorem dX9_recalls_154 : decode cX9_recalls 154 = .ok (.bipush 98, 2) := by decide +kernel
theorem dX9_recalls_156 : decode cX9_recalls 156 = .ok (.goto 5, 3) := by decide +kernel
theorem dX9_recalls_159 : decode cX9_recalls 159 = .ok (.bipush 104, 2) := by decide +kernel
theorem dX9_recalls_161 : decode cX9_recalls 161 = .ok (.iastore, 1) := by decide +kernel
theorem dX9_recalls_162 : decode cX9_recalls 162 = .ok (.iinc 3 1, 3) := by decide +kernel
theorem dX9_recalls_165 : decode cX9_recalls 165 = .ok (.goto (-59), 3) := by decide +kernel
theorem dX9_recalls_168 : decode cX9_recalls 168 = .ok (.return_, 1) := by decide +kernel
theorem dX9_takesOut_0 : decode cX9_takesOut 0 = .ok (.aload_n 0, 1) := by decide +kernel
theorem dX9_takesOut_1 : decode cX9_takesOut 1 = .ok (.getfield 25, 3) := by decide +kernel
theorem dX9_takesOut_4 : decode cX9_takesOut 4 = .ok (.iload_n 1, 1) := by decide +kernel
theorem dX9_takesOut_5 : decode cX9_takesOut 5 = .ok (.iaload, 1) := by decide +kernel
theorem dX9_takesOut_6 : decode cX9_takesOut 6 = .ok (.istore_n 2, 1) := by decide +kernel
theorem dX9_takesOut_7 : decode cX9_takesOut 7 = .ok (.iconst 0, 1) := by decide +kernel
theorem dX9_takesOut_8 : decode cX9_takesOut 8 = .ok (.istore_n 3, 1) := by decide +kernel
theorem dX9_takesOut_9 : decode cX9_takesOut 9 = .ok (.iconst 0, 1) := by decide +kernel
theorem dX9_takesOut_10 : decode cX9_takesOut 10 = .ok (.istore 4, 2) := by decide +kernel
theorem dX9_takesOut_12 : decode cX9_takesOut 12 = .ok (.iload 4, 2) := by decide +kernel
theorem dX9_takesOut_14 : decode cX9_takesOut 14 = .ok (.aload_n 0, 1) := by decide +kernel
theorem dX9_takesOut_15 : decode cX9_takesOut 15 = .ok (.getfield 67, 3) := by decide +kernel
theorem dX9_takesOut_18 : decode cX9_takesOut 18 = .ok (.iload_n 2, 1) := by decide +kernel
theorem dX9_takesOut_19 : decode cX9_takesOut 19 = .ok (.iaload, 1) := by decide +kernel
theorem dX9_takesOut_20 : decode cX9_takesOut 20 = .ok (.if_icmp .ge 46, 3) := by decide +kernel
theorem dX9_takesOut_23 : decode cX9_takesOut 23 = .ok (.aload_n 0, 1) := by decide +kernel
theorem dX9_takesOut_24 : decode cX9_takesOut 24 = .ok (.getfield 73, 3) := by decide +kernel
theorem dX9_takesOut_27 : decode cX9_takesOut 27 = .ok (.iconst 4, 1) := by decide +kernel
theorem dX9_takesOut_28 : decode cX9_takesOut 28 = .ok (.iload_n 2, 1) := by decide +kernel
theorem dX9_takesOut_29 : decode cX9_takesOut 29 = .ok (.imul, 1) := by decide +kernel
theorem dX9_takesOut_30 : decode cX9_takesOut 30 = .ok (.iload 4, 2) := by decide +kernel
theorem dX9_takesOut_32 : decode cX9_takesOut 32 = .ok (.iadd, 1) := by decide +kernel
theorem dX9_takesOut_33 : decode cX9_takesOut 33 = .ok (.iaload, 1) := by decide +kernel
theorem dX9_takesOut_34 : decode cX9_takesOut 34 = .ok (.istore 5, 2) := by decide +kernel
theorem dX9_takesOut_36 : decode cX9_takesOut 36 = .ok (.iload 5, 2) := by decide +kernel
theorem dX9_takesOut_38 : decode cX9_takesOut 38 = .ok (.iload_n 1, 1) := by decide +kernel
theorem dX9_takesOut_39 : decode cX9_takesOut 39 = .ok (.if_icmp .ne 6, 3) := by decide +kernel
theorem dX9_takesOut_42 : decode cX9_takesOut 42 = .ok (.goto 18, 3) := by decide +kernel
theorem dX9_takesOut_45 : decode cX9_takesOut 45 = .ok (.aload_n 0, 1) := by decide +kernel
theorem dX9_takesOut_46 : decode cX9_takesOut 46 = .ok (.getfield 73, 3) := by decide +kernel
theorem dX9_takesOut_49 : decode cX9_takesOut 49 = .ok (.iconst 4, 1) := by decide +kernel
theorem dX9_takesOut_50 : decode cX9_takesOut 50 = .ok (.iload_n 2, 1) := by decide +kernel
theorem dX9_takesOut_51 : decode cX9_takesOut 51 = .ok (.imul, 1) := by decide +kernel
theorem dX9_takesOut_52 : decode cX9_takesOut 52 = .ok (.iload_n 3, 1) := by decide +kernel
theorem dX9_takesOut_53 : decode cX9_takesOut 53 = .ok (.iadd, 1) := by decide +kernel
theorem dX9_takesOut_54 : decode cX9_takesOut 54 = .ok (.iload 5, 2) := by decide +kernel
theorem dX9_takesOut_56 : decode cX9_takesOut 56 = .ok (.iastore, 1) := by decide +kernel
theorem dX9_takesOut_57 : decode cX9_takesOut 57 = .ok (.iinc 3 1, 3) := by decide +kernel
theorem dX9_takesOut_60 : decode cX9_takesOut 60 = .ok (.iinc 4 1, 3) := by decide +kernel
theorem dX9_takesOut_63 : decode cX9_takesOut 63 = .ok (.goto (-51), 3) := by decide +kernel
theorem dX9_takesOut_66 : decode cX9_takesOut 66 = .ok (.aload_n 0, 1) := by decide +kernel
theorem dX9_takesOut_67 : decode cX9_takesOut 67 = .ok (.getfield 67, 3) := by decide +kernel
theorem dX9_takesOut_70 : decode cX9_takesOut 70 = .ok (.iload_n 2, 1) := by decide +kernel
theorem dX9_takesOut_71 : decode cX9_takesOut 71 = .ok (.iload_n 3, 1) := by decide +kernel
theorem dX9_takesOut_72 : decode cX9_takesOut 72 = .ok (.iastore, 1) := by decide +kernel
theorem dX9_takesOut_73 : decode cX9_takesOut 73 = .ok (.return_, 1) := by decide +kernel
theorem dX9_fall_0 : decode cX9_fall 0 = .ok (.aload_n 0, 1) := by decide +kernel
theorem dX9_fall_1 : decode cX9_fall 1 = .ok (.iload_n 1, 1) := by decide +kernel
theorem dX9_fall_2 : decode cX9_fall 2 = .ok (.invokevirtual 248, 3) := by decide +kernel
theorem dX9_fall_5 : decode cX9_fall 5 = .ok (.ifCond .ne 9, 3) := by decide +kernel
theorem dX9_fall_8 : decode cX9_fall 8 = .ok (.aload_n 0, 1) := by decide +kernel
theorem dX9_fall_9 : decode cX9_fall 9 = .ok (.iconst 1, 1) := by decide +kernel
theorem dX9_fall_10 : decode cX9_fall 10 = .ok (.invokevirtual 206, 3) := by decide +kernel
theorem dX9_fall_13 : decode cX9_fall 13 = .ok (.ireturn, 1) := by decide +kernel
theorem dX9_fall_14 : decode cX9_fall 14 = .ok (.aload_n 0, 1) := by decide +kernel
theorem dX9_fall_15 : decode cX9_fall 15 = .ok (.iload_n 1, 1) := by decide +kernel
theorem dX9_fall_16 : decode cX9_fall 16 = .ok (.bipush 10, 2) := by decide +kernel
theorem dX9_fall_18 : decode cX9_fall 18 = .ok (.isub, 1) := by decide +kernel
theorem dX9_fall_19 : decode cX9_fall 19 = .ok (.invokevirtual 251, 3) := by decide +kernel
theorem dX9_fall_22 : decode cX9_fall 22 = .ok (.ifCond .eq 16, 3) := by decide +kernel
theorem dX9_fall_25 : decode cX9_fall 25 = .ok (.aload_n 0, 1) := by decide +kernel
theorem dX9_fall_26 : decode cX9_fall 26 = .ok (.getfield 61, 3) := by decide +kernel
theorem dX9_fall_29 : decode cX9_fall 29 = .ok (.iload_n 1, 1) := by decide +kernel
theorem dX9_fall_30 : decode cX9_fall 30 = .ok (.bipush 10, 2) := by decide +kernel
theorem dX9_fall_32 : decode cX9_fall 32 = .ok (.isub, 1) := by decide +kernel
theorem dX9_fall_33 : decode cX9_fall 33 = .ok (.iaload, 1) := by decide +kernel
theorem dX9_fall_34 : decode cX9_fall 34 = .ok (.iconst 1, 1) := by decide +kernel
theorem dX9_fall_35 : decode cX9_fall 35 = .ok (.if_icmp .ne 9, 3) := by decide +kernel
theorem dX9_fall_38 : decode cX9_fall 38 = .ok (.aload_n 0, 1) := by decide +kernel
theorem dX9_fall_39 : decode cX9_fall 39 = .ok (.iconst 2, 1) := by decide +kernel
theorem dX9_fall_40 : decode cX9_fall 40 = .ok (.invokevirtual 206, 3) := by decide +kernel
theorem dX9_fall_43 : decode cX9_fall 43 = .ok (.ireturn, 1) := by decide +kernel
theorem dX9_fall_44 : decode cX9_fall 44 = .ok (.aload_n 0, 1) := by decide +kernel
theorem dX9_fall_45 : decode cX9_fall 45 = .ok (.getfield 61, 3) := by decide +kernel
theorem dX9_fall_48 : decode cX9_fall 48 = .ok (.iload_n 1, 1) := by decide +kernel
theorem dX9_fall_49 : decode cX9_fall 49 = .ok (.bipush 10, 2) := by decide +kernel
theorem dX9_fall_51 : decode cX9_fall 51 = .ok (.isub, 1) := by decide +kernel
theorem dX9_fall_52 : decode cX9_fall 52 = .ok (.iconst 1, 1) := by decide +kernel
theorem dX9_fall_53 : decode cX9_fall 53 = .ok (.iastore, 1) := by decide +kernel
theorem dX9_fall_54 : decode cX9_fall 54 = .ok (.iconst 0, 1) := by decide +kernel
theorem dX9_fall_55 : decode cX9_fall 55 = .ok (.istore_n 2, 1) := by decide +kernel
theorem dX9_fall_56 : decode cX9_fall 56 = .ok (.iconst 0, 1) := by decide +kernel
theorem dX9_fall_57 : decode cX9_fall 57 = .ok (.istore_n 3, 1) := by decide +kernel
theorem dX9_fall_58 : decode cX9_fall 58 = .ok (.iload_n 3, 1) := by decide +kernel
theorem dX9_fall_59 : decode cX9_fall 59 = .ok (.aload_n 0, 1) := by decide +kernel
theorem dX9_fall_60 : decode cX9_fall 60 = .ok (.getfield 264, 3) := by decide +kernel
theorem dX9_fall_63 : decode cX9_fall 63 = .ok (.if_icmp .ge 41, 3) := by decide +kernel
theorem dX9_fall_66 : decode cX9_fall 66 = .ok (.aload_n 0, 1) := by decide +kernel
theorem dX9_fall_67 : decode cX9_fall 67 = .ok (.getfield 64, 3) := by decide +kernel
theorem dX9_fall_70 : decode cX9_fall 70 = .ok (.iload_n 3, 1) := by decide +kernel
theorem dX9_fall_71 : decode cX9_fall 71 = .ok (.iaload, 1) := by decide +kernel
theorem dX9_fall_72 : decode cX9_fall 72 = .ok (.bipush 115, 2) := by decide +kernel
theorem dX9_fall_74 : decode cX9_fall 74 = .ok (.if_icmp .ne 24, 3) := by decide +kernel
theorem dX9_fall_77 : decode cX9_fall 77 = .ok (.aload_n 0, 1) := by decide +kernel
theorem dX9_fall_78 : decode cX9_fall 78 = .ok (.iload_n 3, 1) := by decide +kernel
theorem dX9_fall_79 : decode cX9_fall 79 = .ok (.iload_n 1, 1) := by decide +kernel
theorem dX9_fall_80 : decode cX9_fall 80 = .ok (.invokevirtual 267, 3) := by decide +kernel
theorem dX9_fall_83 : decode cX9_fall 83 = .ok (.ifCond .ne 6, 3) := by decide +kernel
theorem dX9_fall_86 : decode cX9_fall 86 = .ok (.goto 12, 3) := by decide +kernel
theorem dX9_fall_89 : decode cX9_fall 89 = .ok (.aload_n 0, 1) := by decide +kernel
theorem dX9_fall_90 : decode cX9_fall 90 = .ok (.iload_n 3, 1) := by decide +kernel
theorem dX9_fall_91 : decode cX9_fall 91 = .ok (.iload_n 1, 1) := by decide +kernel
theorem dX9_fall_92 : decode cX9_fall 92 = .ok (.invokevirtual 270, 3) := by decide +kernel
theorem dX9_fall_95 : decode cX9_fall 95 = .ok (.iinc 2 1, 3) := by decide +kernel
theorem dX9_fall_98 : decode cX9_fall 98 = .ok (.iinc 3 1, 3) := by decide +kernel
theorem dX9_fall_101 : decode cX9_fall 101 = .ok (.goto (-43), 3) := by decide +kernel
theorem dX9_fall_104 : decode cX9_fall 104 = .ok (.iconst 0, 1) := by decide +kernel
theorem dX9_fall_105 : decode cX9_fall 105 = .ok (.istore_n 3, 1) := by decide +kernel
theorem dX9_fall_106 : decode cX9_fall 106 = .ok (.iload_n 3, 1) := by decide +kernel
theorem dX9_fall_107 : decode cX9_fall 107 = .ok (.aload_n 0, 1) := by decide +kernel
theorem dX9_fall_108 : decode cX9_fall 108 = .ok (.getfield 200, 3) := by decide +kernel
theorem dX9_fall_111 : decode cX9_fall 111 = .ok (.if_icmp .ge 63, 3) := by decide +kernel
theorem dX9_fall_114 : decode cX9_fall 114 = .ok (.aload_n 0, 1) := by decide +kernel
theorem dX9_fall_115 : decode cX9_fall 115 = .ok (.getfield 16, 3) := by decide +kernel
theorem dX9_fall_118 : decode cX9_fall 118 = .ok (.iload_n 3, 1) := by decide +kernel
theorem dX9_fall_119 : decode cX9_fall 119 = .ok (.iaload, 1) := by decide +kernel
theorem dX9_fall_120 : decode cX9_fall 120 = .ok (.bipush 115, 2) := by decide +kernel
theorem dX9_fall_122 : decode cX9_fall 122 = .ok (.if_icmp .eq 46, 3) := by decide +kernel
theorem dX9_fall_125 : decode cX9_fall 125 = .ok (.aload_n 0, 1) := by decide +kernel
theorem dX9_fall_126 : decode cX9_fall 126 = .ok (.iload_n 3, 1) := by decide +kernel
theorem dX9_fall_127 : decode cX9_fall 127 = .ok (.iload_n 1, 1) := by decide +kernel
theorem dX9_fall_128 : decode cX9_fall 128 = .ok (.invokevirtual 238, 3) := by decide +kernel
theorem dX9_fall_131 : decode cX9_fall 131 = .ok (.ifCond .ne 6, 3) := by decide +kernel
theorem dX9_fall_134 : decode cX9_fall 134 = .ok (.goto 34, 3) := by decide +kernel
theorem dX9_fall_137 : decode cX9_fall 137 = .ok (.aload_n 0, 1) := by decide +kernel
theorem dX9_fall_138 : decode cX9_fall 138 = .ok (.getfield 16, 3) := by decide +kernel
theorem dX9_fall_141 : decode cX9_fall 141 = .ok (.iload_n 3, 1) := by decide +kernel
theorem dX9_fall_142 : decode cX9_fall 142 = .ok (.iaload, 1) := by decide +kernel
theorem dX9_fall_143 : decode cX9_fall 143 = .ok (.bipush 105, 2) := by decide +kernel
theorem dX9_fall_145 : decode cX9_fall 145 = .ok (.if_icmp .ne 8, 3) := by decide +kernel
theorem dX9_fall_148 : decode cX9_fall 148 = .ok (.aload_n 0, 1) := by decide +kernel
theorem dX9_fall_149 : decode cX9_fall 149 = .ok (.iload_n 3, 1) := by decide +kernel
theorem dX9_fall_150 : decode cX9_fall 150 = .ok (.invokevirtual 273, 3) := by decide +kernel
theorem dX9_fall_153 : decode cX9_fall 153 = .ok (.aload_n 0, 1) := by decide +kernel
theorem dX9_fall_154 : decode cX9_fall 154 = .ok (.getfield 19, 3) := by decide +kernel
theorem dX9_fall_157 : decode cX9_fall 157 = .ok (.iload_n 3, 1) := by decide +kernel
theorem dX9_fall_158 : decode cX9_fall 158 = .ok (.iconst 0, 1) := by decide +kernel
theorem dX9_fall_159 : decode cX9_fall 159 = .ok (.iastore, 1) := by decide +kernel
theorem dX9_fall_160 : decode cX9_fall 160 = .ok (.aload_n 0, 1) := by decide +kernel
theorem dX9_fall_161 : decode cX9_fall 161 = .ok (.getfield 16, 3) := by decide +kernel
theorem dX9_fall_164 : decode cX9_fall 164 = .ok (.iload_n 3, 1) := by decide +kernel
theorem dX9_fall_165 : decode cX9_fall 165 = .ok (.bipush 111, 2) := by decide +kernel
theorem dX9_fall_167 : decode cX9_fall 167 = .ok (.iastore, 1) := by decide +kernel
theorem dX9_fall_168 : decode cX9_fall 168 = .ok (.iinc 3 1, 3) := by decide +kernel
theorem dX9_fall_171 : decode cX9_fall 171 = .ok (.goto (-65), 3) := by decide +kernel
theorem dX9_fall_174 : decode cX9_fall 174 = .ok (.aload_n 0, 1) := by decide +kernel
theorem dX9_fall_175 : decode cX9_fall 175 = .ok (.iload_n 2, 1) := by decide +kernel
theorem dX9_fall_176 : decode cX9_fall 176 = .ok (.invokevirtual 209, 3) := by decide +kernel
theorem dX9_fall_179 : decode cX9_fall 179 = .ok (.ireturn, 1) := by decide +kernel
theorem dX9_isIssue_0 : decode cX9_isIssue 0 = .ok (.iload_n 1, 1) := by decide +kernel
theorem dX9_isIssue_1 : decode cX9_isIssue 1 = .ok (.iconst 0, 1) := by decide +kernel
theorem dX9_isIssue_2 : decode cX9_isIssue 2 = .ok (.aload_n 0, 1) := by decide +kernel
theorem dX9_isIssue_3 : decode cX9_isIssue 3 = .ok (.getfield 264, 3) := by decide +kernel
theorem dX9_isIssue_6 : decode cX9_isIssue 6 = .ok (.iconst 1, 1) := by decide +kernel
theorem dX9_isIssue_7 : decode cX9_isIssue 7 = .ok (.isub, 1) := by decide +kernel
theorem dX9_isIssue_8 : decode cX9_isIssue 8 = .ok (.invokestatic 203, 3) := by decide +kernel
theorem dX9_isIssue_11 : decode cX9_isIssue 11 = .ok (.ireturn, 1) := by decide +kernel
theorem dX9_issue_0 : decode cX9_issue 0 = .ok (.aload_n 0, 1) := by decide +kernel
theorem dX9_issue_1 : decode cX9_issue 1 = .ok (.getfield 264, 3) := by decide +kernel
theorem dX9_issue_4 : decode cX9_issue 4 = .ok (.bipush 12, 2) := by decide +kernel
theorem dX9_issue_6 : decode cX9_issue 6 = .ok (.if_icmp .ne 9, 3) := by decide +kernel
theorem dX9_issue_9 : decode cX9_issue 9 = .ok (.aload_n 0, 1) := by decide +kernel
theorem dX9_issue_10 : decode cX9_issue 10 = .ok (.iconst 1, 1) := by decide +kernel
theorem dX9_issue_11 : decode cX9_issue 11 = .ok (.invokevirtual 206, 3) := by decide +kernel
theorem dX9_issue_14 : decode cX9_issue 14 = .ok (.ireturn, 1) := by decide +kernel
theorem dX9_issue_15 : decode cX9_issue 15 = .ok (.aload_n 0, 1) := by decide +kernel
theorem dX9_issue_16 : decode cX9_issue 16 = .ok (.getfield 64, 3) := by decide +kernel
theorem dX9_issue_19 : decode cX9_issue 19 = .ok (.aload_n 0, 1) := by decide +kernel
theorem dX9_issue_20 : decode cX9_issue 20 = .ok (.getfield 264, 3) := by decide +kernel
theorem dX9_issue_23 : decode cX9_issue 23 = .ok (.bipush 109, 2) := by decide +kernel
theorem dX9_issue_25 : decode cX9_issue 25 = .ok (.iastore, 1) := by decide +kernel
theorem dX9_issue_26 : decode cX9_issue 26 = .ok (.aload_n 0, 1) := by decide +kernel
theorem dX9_issue_27 : decode cX9_issue 27 = .ok (.dup, 1) := by decide +kernel
theorem dX9_issue_28 : decode cX9_issue 28 = .ok (.getfield 264, 3) := by decide +kernel
theorem dX9_issue_31 : decode cX9_issue 31 = .ok (.iconst 1, 1) := by decide +kernel
theorem dX9_issue_32 : decode cX9_issue 32 = .ok (.iadd, 1) := by decide +kernel
theorem dX9_issue_33 : decode cX9_issue 33 = .ok (.putfield 264, 3) := by decide +kernel
theorem dX9_issue_36 : decode cX9_issue 36 = .ok (.aload_n 0, 1) := by decide +kernel
theorem dX9_issue_37 : decode cX9_issue 37 = .ok (.aload_n 0, 1) := by decide +kernel
theorem dX9_issue_38 : decode cX9_issue 38 = .ok (.getfield 264, 3) := by decide +kernel
theorem dX9_issue_41 : decode cX9_issue 41 = .ok (.iconst 1, 1) := by decide +kernel
theorem dX9_issue_42 : decode cX9_issue 42 = .ok (.isub, 1) := by decide +kernel
theorem dX9_issue_43 : decode cX9_issue 43 = .ok (.invokevirtual 209, 3) := by decide +kernel
theorem dX9_issue_46 : decode cX9_issue 46 = .ok (.ireturn, 1) := by decide +kernel
theorem dX9_put_0 : decode cX9_put 0 = .ok (.aload_n 0, 1) := by decide +kernel
theorem dX9_put_1 : decode cX9_put 1 = .ok (.iload_n 1, 1) := by decide +kernel
theorem dX9_put_2 : decode cX9_put 2 = .ok (.invokevirtual 276, 3) := by decide +kernel
theorem dX9_put_5 : decode cX9_put 5 = .ok (.ifCond .eq 11, 3) := by decide +kernel
theorem dX9_put_8 : decode cX9_put 8 = .ok (.aload_n 0, 1) := by decide +kernel
theorem dX9_put_9 : decode cX9_put 9 = .ok (.iload_n 2, 1) := by decide +kernel
theorem dX9_put_10 : decode cX9_put 10 = .ok (.invokevirtual 212, 3) := by decide +kernel
theorem dX9_put_13 : decode cX9_put 13 = .ok (.ifCond .ne 9, 3) := by decide +kernel
theorem dX9_put_16 : decode cX9_put 16 = .ok (.aload_n 0, 1) := by decide +kernel
theorem dX9_put_17 : decode cX9_put 17 = .ok (.iconst 1, 1) := by decide +kernel
theorem dX9_put_18 : decode cX9_put 18 = .ok (.invokevirtual 206, 3) := by decide +kernel
theorem dX9_put_21 : decode cX9_put 21 = .ok (.ireturn, 1) := by decide +kernel
theorem dX9_put_22 : decode cX9_put 22 = .ok (.aload_n 0, 1) := by decide +kernel
theorem dX9_put_23 : decode cX9_put 23 = .ok (.getfield 64, 3) := by decide +kernel
theorem dX9_put_26 : decode cX9_put 26 = .ok (.iload_n 1, 1) := by decide +kernel
theorem dX9_put_27 : decode cX9_put 27 = .ok (.iaload, 1) := by decide +kernel
theorem dX9_put_28 : decode cX9_put 28 = .ok (.bipush 109, 2) := by decide +kernel
theorem dX9_put_30 : decode cX9_put 30 = .ok (.if_icmp .ne 25, 3) := by decide +kernel
theorem dX9_put_33 : decode cX9_put 33 = .ok (.aload_n 0, 1) := by decide +kernel
theorem dX9_put_34 : decode cX9_put 34 = .ok (.getfield 16, 3) := by decide +kernel
theorem dX9_put_37 : decode cX9_put 37 = .ok (.iload_n 2, 1) := by decide +kernel
theorem dX9_put_38 : decode cX9_put 38 = .ok (.iaload, 1) := by decide +kernel
theorem dX9_put_39 : decode cX9_put 39 = .ok (.bipush 119, 2) := by decide +kernel
theorem dX9_put_41 : decode cX9_put 41 = .ok (.if_icmp .eq 20, 3) := by decide +kernel
theorem dX9_put_44 : decode cX9_put 44 = .ok (.aload_n 0, 1) := by decide +kernel
theorem dX9_put_45 : decode cX9_put 45 = .ok (.getfield 16, 3) := by decide +kernel
theorem dX9_put_48 : decode cX9_put 48 = .ok (.iload_n 2, 1) := by decide +kernel
theorem dX9_put_49 : decode cX9_put 49 = .ok (.iaload, 1) := by decide +kernel
theorem dX9_put_50 : decode cX9_put 50 = .ok (.bipush 98, 2) := by decide +kernel
theorem dX9_put_52 : decode cX9_put 52 = .ok (.if_icmp .eq 9, 3) := by decide +kernel
theorem dX9_put_55 : decode cX9_put 55 = .ok (.aload_n 0, 1) := by decide +kernel
theorem dX9_put_56 : decode cX9_put 56 = .ok (.iconst 2, 1) := by decide +kernel
theorem dX9_put_57 : decode cX9_put 57 = .ok (.invokevirtual 206, 3) := by decide +kernel
theorem dX9_put_60 : decode cX9_put 60 = .ok (.ireturn, 1) := by decide +kernel
theorem dX9_put_61 : decode cX9_put 61 = .ok (.aload_n 0, 1) := by decide +kernel
theorem dX9_put_62 : decode cX9_put 62 = .ok (.getfield 67, 3) := by decide +kernel
theorem dX9_put_65 : decode cX9_put 65 = .ok (.iload_n 1, 1) := by decide +kernel
theorem dX9_put_66 : decode cX9_put 66 = .ok (.iaload, 1) := by decide +kernel
theorem dX9_put_67 : decode cX9_put 67 = .ok (.iconst 4, 1) := by decide +kernel
theorem dX9_put_68 : decode cX9_put 68 = .ok (.if_icmp .ne 9, 3) := by decide +kernel
theorem dX9_put_71 : decode cX9_put 71 = .ok (.aload_n 0, 1) := by decide +kernel
theorem dX9_put_72 : decode cX9_put 72 = .ok (.iconst 3, 1) := by decide +kernel
theorem dX9_put_73 : decode cX9_put 73 = .ok (.invokevirtual 206, 3) := by decide +kernel
theorem dX9_put_76 : decode cX9_put 76 = .ok (.ireturn, 1) := by decide +kernel
theorem dX9_put_77 : decode cX9_put 77 = .ok (.aload_n 0, 1) := by decide +kernel
theorem dX9_put_78 : decode cX9_put 78 = .ok (.getfield 73, 3) := by decide +kernel
theorem dX9_put_81 : decode cX9_put 81 = .ok (.iconst 4, 1) := by decide +kernel
theorem dX9_put_82 : decode cX9_put 82 = .ok (.iload_n 1, 1) := by decide +kernel
theorem dX9_put_83 : decode cX9_put 83 = .ok (.imul, 1) := by decide +kernel
theorem dX9_put_84 : decode cX9_put 84 = .ok (.aload_n 0, 1) := by decide +kernel
theorem dX9_put_85 : decode cX9_put 85 = .ok (.getfield 67, 3) := by decide +kernel
theorem dX9_put_88 : decode cX9_put 88 = .ok (.iload_n 1, 1) := by decide +kernel
theorem dX9_put_89 : decode cX9_put 89 = .ok (.iaload, 1) := by decide +kernel
theorem dX9_put_90 : decode cX9_put 90 = .ok (.iadd, 1) := by decide +kernel
theorem dX9_put_91 : decode cX9_put 91 = .ok (.iload_n 2, 1) := by decide +kernel
theorem dX9_put_92 : decode cX9_put 92 = .ok (.iastore, 1) := by decide +kernel
theorem dX9_put_93 : decode cX9_put 93 = .ok (.aload_n 0, 1) := by decide +kernel
theorem dX9_put_94 : decode cX9_put 94 = .ok (.getfield 67, 3) := by decide +kernel
theorem dX9_put_97 : decode cX9_put 97 = .ok (.iload_n 1, 1) := by decide +kernel
theorem dX9_put_98 : decode cX9_put 98 = .ok (.dup2, 1) := by decide +kernel
theorem dX9_put_99 : decode cX9_put 99 = .ok (.iaload, 1) := by decide +kernel
theorem dX9_put_100 : decode cX9_put 100 = .ok (.iconst 1, 1) := by decide +kernel
theorem dX9_put_101 : decode cX9_put 101 = .ok (.iadd, 1) := by decide +kernel
theorem dX9_put_102 : decode cX9_put 102 = .ok (.iastore, 1) := by decide +kernel
theorem dX9_put_103 : decode cX9_put 103 = .ok (.aload_n 0, 1) := by decide +kernel
theorem dX9_put_104 : decode cX9_put 104 = .ok (.getfield 16, 3) := by decide +kernel
theorem dX9_put_107 : decode cX9_put 107 = .ok (.iload_n 2, 1) := by decide +kernel
theorem dX9_put_108 : decode cX9_put 108 = .ok (.bipush 105, 2) := by decide +kernel
theorem dX9_put_110 : decode cX9_put 110 = .ok (.iastore, 1) := by decide +kernel
theorem dX9_put_111 : decode cX9_put 111 = .ok (.aload_n 0, 1) := by decide +kernel
theorem dX9_put_112 : decode cX9_put 112 = .ok (.getfield 25, 3) := by decide +kernel
theorem dX9_put_115 : decode cX9_put 115 = .ok (.iload_n 2, 1) := by decide +kernel
theorem dX9_put_116 : decode cX9_put 116 = .ok (.iload_n 1, 1) := by decide +kernel
theorem dX9_put_117 : decode cX9_put 117 = .ok (.iastore, 1) := by decide +kernel
theorem dX9_put_118 : decode cX9_put 118 = .ok (.aload_n 0, 1) := by decide +kernel
theorem dX9_put_119 : decode cX9_put 119 = .ok (.aload_n 0, 1) := by decide +kernel
theorem dX9_put_120 : decode cX9_put 120 = .ok (.getfield 67, 3) := by decide +kernel
theorem dX9_put_123 : decode cX9_put 123 = .ok (.iload_n 1, 1) := by decide +kernel
theorem dX9_put_124 : decode cX9_put 124 = .ok (.iaload, 1) := by decide +kernel
theorem dX9_put_125 : decode cX9_put 125 = .ok (.invokevirtual 209, 3) := by decide +kernel
theorem dX9_put_128 : decode cX9_put 128 = .ok (.ireturn, 1) := by decide +kernel
theorem dX9_gets_0 : decode cX9_gets 0 = .ok (.aload_n 0, 1) := by decide +kernel
theorem dX9_gets_1 : decode cX9_gets 1 = .ok (.getfield 82, 3) := by decide +kernel
theorem dX9_gets_4 : decode cX9_gets 4 = .ok (.bipush 12, 2) := by decide +kernel
theorem dX9_gets_6 : decode cX9_gets 6 = .ok (.iload_n 1, 1) := by decide +kernel
theorem dX9_gets_7 : decode cX9_gets 7 = .ok (.imul, 1) := by decide +kernel
theorem dX9_gets_8 : decode cX9_gets 8 = .ok (.iload_n 2, 1) := by decide +kernel
theorem dX9_gets_9 : decode cX9_gets 9 = .ok (.iadd, 1) := by decide +kernel
theorem dX9_gets_10 : decode cX9_gets 10 = .ok (.iconst 1, 1) := by decide +kernel
theorem dX9_gets_11 : decode cX9_gets 11 = .ok (.iastore, 1) := by decide +kernel
theorem dX9_gets_12 : decode cX9_gets 12 = .ok (.aload_n 0, 1) := by decide +kernel
theorem dX9_gets_13 : decode cX9_gets 13 = .ok (.getfield 76, 3) := by decide +kernel
theorem dX9_gets_16 : decode cX9_gets 16 = .ok (.iload_n 1, 1) := by decide +kernel
theorem dX9_gets_17 : decode cX9_gets 17 = .ok (.dup2, 1) := by decide +kernel
theorem dX9_gets_18 : decode cX9_gets 18 = .ok (.iaload, 1) := by decide +kernel
theorem dX9_gets_19 : decode cX9_gets 19 = .ok (.aload_n 0, 1) := by decide +kernel
theorem dX9_gets_20 : decode cX9_gets 20 = .ok (.getfield 70, 3) := by decide +kernel
theorem dX9_gets_23 : decode cX9_gets 23 = .ok (.iload_n 2, 1) := by decide +kernel
theorem dX9_gets_24 : decode cX9_gets 24 = .ok (.iaload, 1) := by decide +kernel
theorem dX9_gets_25 : decode cX9_gets 25 = .ok (.isub, 1) := by decide +kernel
theorem dX9_gets_26 : decode cX9_gets 26 = .ok (.iastore, 1) := by decide +kernel
theorem dX9_gets_27 : decode cX9_gets 27 = .ok (.aload_n 0, 1) := by decide +kernel
theorem dX9_gets_28 : decode cX9_gets 28 = .ok (.dup, 1) := by decide +kernel
theorem dX9_gets_29 : decode cX9_gets 29 = .ok (.getfield 260, 3) := by decide +kernel
theorem dX9_gets_32 : decode cX9_gets 32 = .ok (.aload_n 0, 1) := by decide +kernel
theorem dX9_gets_33 : decode cX9_gets 33 = .ok (.getfield 70, 3) := by decide +kernel
theorem dX9_gets_36 : decode cX9_gets 36 = .ok (.iload_n 2, 1) := by decide +kernel
theorem dX9_gets_37 : decode cX9_gets 37 = .ok (.iaload, 1) := by decide +kernel
theorem dX9_gets_38 : decode cX9_gets 38 = .ok (.i2l, 1) := by decide +kernel
theorem dX9_gets_39 : decode cX9_gets 39 = .ok (.ladd, 1) := by decide +kernel
theorem dX9_gets_40 : decode cX9_gets 40 = .ok (.putfield 260, 3) := by decide +kernel
theorem dX9_gets_43 : decode cX9_gets 43 = .ok (.return_, 1) := by decide +kernel
theorem dX9_publish_0 : decode cX9_publish 0 = .ok (.aload_n 0, 1) := by decide +kernel
theorem dX9_publish_1 : decode cX9_publish 1 = .ok (.iload_n 1, 1) := by decide +kernel
theorem dX9_publish_2 : decode cX9_publish 2 = .ok (.invokevirtual 276, 3) := by decide +kernel
theorem dX9_publish_5 : decode cX9_publish 5 = .ok (.ifCond .ne 9, 3) := by decide +kernel
theorem dX9_publish_8 : decode cX9_publish 8 = .ok (.aload_n 0, 1) := by decide +kernel
theorem dX9_publish_9 : decode cX9_publish 9 = .ok (.iconst 1, 1) := by decide +kernel
theorem dX9_publish_10 : decode cX9_publish 10 = .ok (.invokevirtual 206, 3) := by decide +kernel
theorem dX9_publish_13 : decode cX9_publish 13 = .ok (.ireturn, 1) := by decide +kernel
theorem dX9_publish_14 : decode cX9_publish 14 = .ok (.iload_n 2, 1) := by decide +kernel
theorem dX9_publish_15 : decode cX9_publish 15 = .ok (.iconst 0, 1) := by decide +kernel
theorem dX9_publish_16 : decode cX9_publish 16 = .ok (.sipush 1000, 3) := by decide +kernel
theorem dX9_publish_19 : decode cX9_publish 19 = .ok (.invokestatic 203, 3) := by decide +kernel
theorem dX9_publish_22 : decode cX9_publish 22 = .ok (.ifCond .ne 9, 3) := by decide +kernel
theorem dX9_publish_25 : decode cX9_publish 25 = .ok (.aload_n 0, 1) := by decide +kernel
theorem dX9_publish_26 : decode cX9_publish 26 = .ok (.iconst 2, 1) := by decide +kernel
theorem dX9_publish_27 : decode cX9_publish 27 = .ok (.invokevirtual 206, 3) := by decide +kernel
theorem dX9_publish_30 : decode cX9_publish 30 = .ok (.ireturn, 1) := by decide +kernel
theorem dX9_publish_31 : decode cX9_publish 31 = .ok (.aload_n 0, 1) := by decide +kernel
theorem dX9_publish_32 : decode cX9_publish 32 = .ok (.getfield 64, 3) := by decide +kernel
theorem dX9_publish_35 : decode cX9_publish 35 = .ok (.iload_n 1, 1) := by decide +kernel
theorem dX9_publish_36 : decode cX9_publish 36 = .ok (.iaload, 1) := by decide +kernel
theorem dX9_publish_37 : decode cX9_publish 37 = .ok (.bipush 109, 2) := by decide +kernel
theorem dX9_publish_39 : decode cX9_publish 39 = .ok (.if_icmp .ne 12, 3) := by decide +kernel
theorem dX9_publish_42 : decode cX9_publish 42 = .ok (.aload_n 0, 1) := by decide +kernel
theorem dX9_publish_43 : decode cX9_publish 43 = .ok (.getfield 67, 3) := by decide +kernel
theorem dX9_publish_46 : decode cX9_publish 46 = .ok (.iload_n 1, 1) := by decide +kernel
theorem dX9_publish_47 : decode cX9_publish 47 = .ok (.iaload, 1) := by decide +kernel
theorem dX9_publish_48 : decode cX9_publish 48 = .ok (.ifCond .ne 9, 3) := by decide +kernel
theorem dX9_publish_51 : decode cX9_publish 51 = .ok (.aload_n 0, 1) := by decide +kernel
theorem dX9_publish_52 : decode cX9_publish 52 = .ok (.iconst 3, 1) := by decide +kernel
theorem dX9_publish_53 : decode cX9_publish 53 = .ok (.invokevirtual 206, 3) := by decide +kernel
theorem dX9_publish_56 : decode cX9_publish 56 = .ok (.ireturn, 1) := by decide +kernel
theorem dX9_publish_57 : decode cX9_publish 57 = .ok (.aload_n 0, 1) := by decide +kernel
theorem dX9_publish_58 : decode cX9_publish 58 = .ok (.getfield 64, 3) := by decide +kernel
theorem dX9_publish_61 : decode cX9_publish 61 = .ok (.iload_n 1, 1) := by decide +kernel
theorem dX9_publish_62 : decode cX9_publish 62 = .ok (.bipush 115, 2) := by decide +kernel
theorem dX9_publish_64 : decode cX9_publish 64 = .ok (.iastore, 1) := by decide +kernel
theorem dX9_publish_65 : decode cX9_publish 65 = .ok (.aload_n 0, 1) := by decide +kernel
theorem dX9_publish_66 : decode cX9_publish 66 = .ok (.getfield 70, 3) := by decide +kernel
theorem dX9_publish_69 : decode cX9_publish 69 = .ok (.iload_n 1, 1) := by decide +kernel
theorem dX9_publish_70 : decode cX9_publish 70 = .ok (.iload_n 2, 1) := by decide +kernel
theorem dX9_publish_71 : decode cX9_publish 71 = .ok (.iastore, 1) := by decide +kernel
theorem dX9_publish_72 : decode cX9_publish 72 = .ok (.iconst 0, 1) := by decide +kernel
theorem dX9_publish_73 : decode cX9_publish 73 = .ok (.istore_n 3, 1) := by decide +kernel
theorem dX9_publish_74 : decode cX9_publish 74 = .ok (.iload_n 3, 1) := by decide +kernel
theorem dX9_publish_75 : decode cX9_publish 75 = .ok (.aload_n 0, 1) := by decide +kernel
theorem dX9_publish_76 : decode cX9_publish 76 = .ok (.getfield 67, 3) := by decide +kernel
theorem dX9_publish_79 : decode cX9_publish 79 = .ok (.iload_n 1, 1) := by decide +kernel
theorem dX9_publish_80 : decode cX9_publish 80 = .ok (.iaload, 1) := by decide +kernel
theorem dX9_publish_81 : decode cX9_publish 81 = .ok (.if_icmp .ge 26, 3) := by decide +kernel
theorem dX9_publish_84 : decode cX9_publish 84 = .ok (.aload_n 0, 1) := by decide +kernel
theorem dX9_publish_85 : decode cX9_publish 85 = .ok (.getfield 16, 3) := by decide +kernel
theorem dX9_publish_88 : decode cX9_publish 88 = .ok (.aload_n 0, 1) := by decide +kernel
theorem dX9_publish_89 : decode cX9_publish 89 = .ok (.getfield 73, 3) := by decide +kernel
theorem dX9_publish_92 : decode cX9_publish 92 = .ok (.iconst 4, 1) := by decide +kernel
theorem dX9_publish_93 : decode cX9_publish 93 = .ok (.iload_n 1, 1) := by decide +kernel
theorem dX9_publish_94 : decode cX9_publish 94 = .ok (.imul, 1) := by decide +kernel
theorem dX9_publish_95 : decode cX9_publish 95 = .ok (.iload_n 3, 1) := by decide +kernel
theorem dX9_publish_96 : decode cX9_publish 96 = .ok (.iadd, 1) := by decide +kernel
theorem dX9_publish_97 : decode cX9_publish 97 = .ok (.iaload, 1) := by decide +kernel
theorem dX9_publish_98 : decode cX9_publish 98 = .ok (.bipush 115, 2) := by decide +kernel
theorem dX9_publish_100 : decode cX9_publish 100 = .ok (.iastore, 1) := by decide +kernel
theorem dX9_publish_101 : decode cX9_publish 101 = .ok (.iinc 3 1, 3) := by decide +kernel
theorem dX9_publish_104 : decode cX9_publish 104 = .ok (.goto (-30), 3) := by decide +kernel
theorem dX9_publish_107 : decode cX9_publish 107 = .ok (.iconst 0, 1) := by decide +kernel
theorem dX9_publish_108 : decode cX9_publish 108 = .ok (.istore_n 3, 1) := by decide +kernel
theorem dX9_publish_109 : decode cX9_publish 109 = .ok (.iconst 0, 1) := by decide +kernel
theorem dX9_publish_110 : decode cX9_publish 110 = .ok (.istore 4, 2) := by decide +kernel
theorem dX9_publish_112 : decode cX9_publish 112 = .ok (.iload 4, 2) := by decide +kernel
theorem dX9_publish_114 : decode cX9_publish 114 = .ok (.aload_n 0, 1) := by decide +kernel
theorem dX9_publish_115 : decode cX9_publish 115 = .ok (.getfield 254, 3) := by decide +kernel
theorem dX9_publish_118 : decode cX9_publish 118 = .ok (.if_icmp .ge 54, 3) := by decide +kernel
theorem dX9_publish_121 : decode cX9_publish 121 = .ok (.aload_n 0, 1) := by decide +kernel
theorem dX9_publish_122 : decode cX9_publish 122 = .ok (.getfield 79, 3) := by decide +kernel
theorem dX9_publish_125 : decode cX9_publish 125 = .ok (.iload 4, 2) := by decide +kernel
theorem dX9_publish_127 : decode cX9_publish 127 = .ok (.iaload, 1) := by decide +kernel
theorem dX9_publish_128 : decode cX9_publish 128 = .ok (.ifCond .eq 38, 3) := by decide +kernel
theorem dX9_publish_131 : decode cX9_publish 131 = .ok (.aload_n 0, 1) := by decide +kernel
theorem dX9_publish_132 : decode cX9_publish 132 = .ok (.getfield 76, 3) := by decide +kernel
theorem dX9_publish_135 : decode cX9_publish 135 = .ok (.iload 4, 2) := by decide +kernel
theorem dX9_publish_137 : decode cX9_publish 137 = .ok (.iaload, 1) := by decide +kernel
theorem dX9_publish_138 : decode cX9_publish 138 = .ok (.iload_n 2, 1) := by decide +kernel
theorem dX9_publish_139 : decode cX9_publish 139 = .ok (.if_icmp .ge 6, 3) := by decide +kernel
theorem dX9_publish_142 : decode cX9_publish 142 = .ok (.goto 24, 3) := by decide +kernel
theorem dX9_publish_145 : decode cX9_publish 145 = .ok (.aload_n 0, 1) := by decide +kernel
theorem dX9_publish_146 : decode cX9_publish 146 = .ok (.getfield 79, 3) := by decide +kernel
theorem dX9_publish_149 : decode cX9_publish 149 = .ok (.iload 4, 2) := by decide +kernel
theorem dX9_publish_151 : decode cX9_publish 151 = .ok (.dup2, 1) := by decide +kernel
theorem dX9_publish_152 : decode cX9_publish 152 = .ok (.iaload, 1) := by decide +kernel
theorem dX9_publish_153 : decode cX9_publish 153 = .ok (.iconst 1, 1) := by decide +kernel
theorem dX9_publish_154 : decode cX9_publish 154 = .ok (.isub, 1) := by decide +kernel
theorem dX9_publish_155 : decode cX9_publish 155 = .ok (.iastore, 1) := by decide +kernel
theorem dX9_publish_156 : decode cX9_publish 156 = .ok (.aload_n 0, 1) := by decide +kernel
theorem dX9_publish_157 : decode cX9_publish 157 = .ok (.iload 4, 2) := by decide +kernel
theorem dX9_publish_159 : decode cX9_publish 159 = .ok (.iload_n 1, 1) := by decide +kernel
theorem dX9_publish_160 : decode cX9_publish 160 = .ok (.invokevirtual 279, 3) := by decide +kernel
theorem dX9_publish_163 : decode cX9_publish 163 = .ok (.iinc 3 1, 3) := by decide +kernel
theorem dX9_publish_166 : decode cX9_publish 166 = .ok (.iinc 4 1, 3) := by decide +kernel
theorem dX9_publish_169 : decode cX9_publish 169 = .ok (.goto (-57), 3) := by decide +kernel
theorem dX9_publish_172 : decode cX9_publish 172 = .ok (.aload_n 0, 1) := by decide +kernel
theorem dX9_publish_173 : decode cX9_publish 173 = .ok (.iload_n 3, 1) := by decide +kernel
theorem dX9_publish_174 : decode cX9_publish 174 = .ok (.invokevirtual 209, 3) := by decide +kernel
theorem dX9_publish_177 : decode cX9_publish 177 = .ok (.ireturn, 1) := by decide +kernel
theorem dX9_issueState_0 : decode cX9_issueState 0 = .ok (.aload_n 0, 1) := by decide +kernel
theorem dX9_issueState_1 : decode cX9_issueState 1 = .ok (.iload_n 1, 1) := by decide +kernel
theorem dX9_issueState_2 : decode cX9_issueState 2 = .ok (.invokevirtual 276, 3) := by decide +kernel
theorem dX9_issueState_5 : decode cX9_issueState 5 = .ok (.ifCond .eq 16, 3) := by decide +kernel
theorem dX9_issueState_8 : decode cX9_issueState 8 = .ok (.aload_n 0, 1) := by decide +kernel
theorem dX9_issueState_9 : decode cX9_issueState 9 = .ok (.aload_n 0, 1) := by decide +kernel
theorem dX9_issueState_10 : decode cX9_issueState 10 = .ok (.getfield 64, 3) := by decide +kernel
theorem dX9_issueState_13 : decode cX9_issueState 13 = .ok (.iload_n 1, 1) := by decide +kernel
theorem dX9_issueState_14 : decode cX9_issueState 14 = .ok (.iaload, 1) := by decide +kernel
theorem dX9_issueState_15 : decode cX9_issueState 15 = .ok (.invokevirtual 229, 3) := by decide +kernel
theorem dX9_issueState_18 : decode cX9_issueState 18 = .ok (.goto 8, 3) := by decide +kernel
theorem dX9_issueState_21 : decode cX9_issueState 21 = .ok (.aload_n 0, 1) := by decide +kernel
theorem dX9_issueState_22 : decode cX9_issueState 22 = .ok (.iconst 1, 1) := by decide +kernel
theorem dX9_issueState_23 : decode cX9_issueState 23 = .ok (.invokevirtual 222, 3) := by decide +kernel
theorem dX9_issueState_26 : decode cX9_issueState 26 = .ok (.ireturn, 1) := by decide +kernel
theorem dX9_indexed_0 : decode cX9_indexed 0 = .ok (.aload_n 0, 1) := by decide +kernel
theorem dX9_indexed_1 : decode cX9_indexed 1 = .ok (.iload_n 1, 1) := by decide +kernel
theorem dX9_indexed_2 : decode cX9_indexed 2 = .ok (.invokevirtual 235, 3) := by decide +kernel
theorem dX9_indexed_5 : decode cX9_indexed 5 = .ok (.ifCond .ne 9, 3) := by decide +kernel
theorem dX9_indexed_8 : decode cX9_indexed 8 = .ok (.aload_n 0, 1) := by decide +kernel
theorem dX9_indexed_9 : decode cX9_indexed 9 = .ok (.iconst 1, 1) := by decide +kernel
theorem dX9_indexed_10 : decode cX9_indexed 10 = .ok (.invokevirtual 206, 3) := by decide +kernel
theorem dX9_indexed_13 : decode cX9_indexed 13 = .ok (.ireturn, 1) := by decide +kernel
theorem dX9_indexed_14 : decode cX9_indexed 14 = .ok (.iconst 0, 1) := by decide +kernel
theorem dX9_indexed_15 : decode cX9_indexed 15 = .ok (.istore_n 2, 1) := by decide +kernel
theorem dX9_indexed_16 : decode cX9_indexed 16 = .ok (.iconst 0, 1) := by decide +kernel
theorem dX9_indexed_17 : decode cX9_indexed 17 = .ok (.istore_n 3, 1) := by decide +kernel
theorem dX9_indexed_18 : decode cX9_indexed 18 = .ok (.iload_n 3, 1) := by decide +kernel
theorem dX9_indexed_19 : decode cX9_indexed 19 = .ok (.aload_n 0, 1) := by decide +kernel
theorem dX9_indexed_20 : decode cX9_indexed 20 = .ok (.getfield 264, 3) := by decide +kernel
theorem dX9_indexed_23 : decode cX9_indexed 23 = .ok (.if_icmp .ge 37, 3) := by decide +kernel
theorem dX9_indexed_26 : decode cX9_indexed 26 = .ok (.iload_n 2, 1) := by decide +kernel
theorem dX9_indexed_27 : decode cX9_indexed 27 = .ok (.aload_n 0, 1) := by decide +kernel
theorem dX9_indexed_28 : decode cX9_indexed 28 = .ok (.getfield 64, 3) := by decide +kernel
theorem dX9_indexed_31 : decode cX9_indexed 31 = .ok (.iload_n 3, 1) := by decide +kernel
theorem dX9_indexed_32 : decode cX9_indexed 32 = .ok (.iaload, 1) := by decide +kernel
theorem dX9_indexed_33 : decode cX9_indexed 33 = .ok (.bipush 115, 2) := by decide +kernel
theorem dX9_indexed_35 : decode cX9_indexed 35 = .ok (.if_icmp .ne 16, 3) := by decide +kernel
theorem dX9_indexed_38 : decode cX9_indexed 38 = .ok (.aload_n 0, 1) := by decide +kernel
theorem dX9_indexed_39 : decode cX9_indexed 39 = .ok (.iload_n 3, 1) := by decide +kernel
theorem dX9_indexed_40 : decode cX9_indexed 40 = .ok (.iload_n 1, 1) := by decide +kernel
theorem dX9_indexed_41 : decode cX9_indexed 41 = .ok (.invokevirtual 267, 3) := by decide +kernel
theorem dX9_indexed_44 : decode cX9_indexed 44 = .ok (.ifCond .eq 7, 3) := by decide +kernel
theorem dX9_indexed_47 : decode cX9_indexed 47 = .ok (.iconst 1, 1) := by decide +kernel
theorem dX9_indexed_48 : decode cX9_indexed 48 = .ok (.goto 4, 3) := by decide +kernel
theorem dX9_indexed_51 : decode cX9_indexed 51 = .ok (.iconst 0, 1) := by decide +kernel
theorem dX9_indexed_52 : decode cX9_indexed 52 = .ok (.iadd, 1) := by decide +kernel
theorem dX9_indexed_53 : decode cX9_indexed 53 = .ok (.istore_n 2, 1) := by decide +kernel
theorem dX9_indexed_54 : decode cX9_indexed 54 = .ok (.iinc 3 1, 3) := by decide +kernel
theorem dX9_indexed_57 : decode cX9_indexed 57 = .ok (.goto (-39), 3) := by decide +kernel
theorem dX9_indexed_60 : decode cX9_indexed 60 = .ok (.aload_n 0, 1) := by decide +kernel
theorem dX9_indexed_61 : decode cX9_indexed 61 = .ok (.iload_n 2, 1) := by decide +kernel
theorem dX9_indexed_62 : decode cX9_indexed 62 = .ok (.invokevirtual 209, 3) := by decide +kernel
theorem dX9_indexed_65 : decode cX9_indexed 65 = .ok (.ireturn, 1) := by decide +kernel
theorem dX9_isCustomer_0 : decode cX9_isCustomer 0 = .ok (.iload_n 1, 1) := by decide +kernel
theorem dX9_isCustomer_1 : decode cX9_isCustomer 1 = .ok (.iconst 0, 1) := by decide +kernel
theorem dX9_isCustomer_2 : decode cX9_isCustomer 2 = .ok (.aload_n 0, 1) := by decide +kernel
theorem dX9_isCustomer_3 : decode cX9_isCustomer 3 = .ok (.getfield 254, 3) := by decide +kernel
theorem dX9_isCustomer_6 : decode cX9_isCustomer 6 = .ok (.iconst 1, 1) := by decide +kernel
theorem dX9_isCustomer_7 : decode cX9_isCustomer 7 = .ok (.isub, 1) := by decide +kernel
theorem dX9_isCustomer_8 : decode cX9_isCustomer 8 = .ok (.invokestatic 203, 3) := by decide +kernel
theorem dX9_isCustomer_11 : decode cX9_isCustomer 11 = .ok (.ireturn, 1) := by decide +kernel
theorem dX9_customer_0 : decode cX9_customer 0 = .ok (.aload_n 0, 1) := by decide +kernel
theorem dX9_customer_1 : decode cX9_customer 1 = .ok (.getfield 254, 3) := by decide +kernel
theorem dX9_customer_4 : decode cX9_customer 4 = .ok (.bipush 8, 2) := by decide +kernel
theorem dX9_customer_6 : decode cX9_customer 6 = .ok (.if_icmp .ne 9, 3) := by decide +kernel
theorem dX9_customer_9 : decode cX9_customer 9 = .ok (.aload_n 0, 1) := by decide +kernel
theorem dX9_customer_10 : decode cX9_customer 10 = .ok (.iconst 1, 1) := by decide +kernel
theorem dX9_customer_11 : decode cX9_customer 11 = .ok (.invokevirtual 206, 3) := by decide +kernel
theorem dX9_customer_14 : decode cX9_customer 14 = .ok (.ireturn, 1) := by decide +kernel
theorem dX9_customer_15 : decode cX9_customer 15 = .ok (.aload_n 0, 1) := by decide +kernel
theorem dX9_customer_16 : decode cX9_customer 16 = .ok (.dup, 1) := by decide +kernel
theorem dX9_customer_17 : decode cX9_customer 17 = .ok (.getfield 254, 3) := by decide +kernel
theorem dX9_customer_20 : decode cX9_customer 20 = .ok (.iconst 1, 1) := by decide +kernel
theorem dX9_customer_21 : decode cX9_customer 21 = .ok (.iadd, 1) := by decide +kernel
theorem dX9_customer_22 : decode cX9_customer 22 = .ok (.putfield 254, 3) := by decide +kernel
theorem dX9_customer_25 : decode cX9_customer 25 = .ok (.aload_n 0, 1) := by decide +kernel
theorem dX9_customer_26 : decode cX9_customer 26 = .ok (.aload_n 0, 1) := by decide +kernel
theorem dX9_customer_27 : decode cX9_customer 27 = .ok (.getfield 254, 3) := by decide +kernel
theorem dX9_customer_30 : decode cX9_customer 30 = .ok (.iconst 1, 1) := by decide +kernel
theorem dX9_customer_31 : decode cX9_customer 31 = .ok (.isub, 1) := by decide +kernel
theorem dX9_customer_32 : decode cX9_customer 32 = .ok (.invokevirtual 209, 3) := by decide +kernel
theorem dX9_customer_35 : decode cX9_customer 35 = .ok (.ireturn, 1) := by decide +kernel
theorem dX9_deposit_0 : decode cX9_deposit 0 = .ok (.aload_n 0, 1) := by decide +kernel
theorem dX9_deposit_1 : decode cX9_deposit 1 = .ok (.iload_n 1, 1) := by decide +kernel
theorem dX9_deposit_2 : decode cX9_deposit 2 = .ok (.invokevirtual 282, 3) := by decide +kernel
theorem dX9_deposit_5 : decode cX9_deposit 5 = .ok (.ifCond .ne 9, 3) := by decide +kernel
theorem dX9_deposit_8 : decode cX9_deposit 8 = .ok (.aload_n 0, 1) := by decide +kernel
theorem dX9_deposit_9 : decode cX9_deposit 9 = .ok (.iconst 1, 1) := by decide +kernel
theorem dX9_deposit_10 : decode cX9_deposit 10 = .ok (.invokevirtual 206, 3) := by decide +kernel
theorem dX9_deposit_13 : decode cX9_deposit 13 = .ok (.ireturn, 1) := by decide +kernel
theorem dX9_deposit_14 : decode cX9_deposit 14 = .ok (.iload_n 2, 1) := by decide +kernel
theorem dX9_deposit_15 : decode cX9_deposit 15 = .ok (.iconst 1, 1) := by decide +kernel
theorem dX9_deposit_16 : decode cX9_deposit 16 = .ok (.ldc_w 285, 3) := by decide +kernel
theorem dX9_deposit_19 : decode cX9_deposit 19 = .ok (.invokestatic 203, 3) := by decide +kernel
theorem dX9_deposit_22 : decode cX9_deposit 22 = .ok (.ifCond .ne 9, 3) := by decide +kernel
theorem dX9_deposit_25 : decode cX9_deposit 25 = .ok (.aload_n 0, 1) := by decide +kernel
theorem dX9_deposit_26 : decode cX9_deposit 26 = .ok (.iconst 2, 1) := by decide +kernel
theorem dX9_deposit_27 : decode cX9_deposit 27 = .ok (.invokevirtual 206, 3) := by decide +kernel
theorem dX9_deposit_30 : decode cX9_deposit 30 = .ok (.ireturn, 1) := by decide +kernel
theorem dX9_deposit_31 : decode cX9_deposit 31 = .ok (.aload_n 0, 1) := by decide +kernel
theorem dX9_deposit_32 : decode cX9_deposit 32 = .ok (.getfield 76, 3) := by decide +kernel
theorem dX9_deposit_35 : decode cX9_deposit 35 = .ok (.iload_n 1, 1) := by decide +kernel
theorem dX9_deposit_36 : decode cX9_deposit 36 = .ok (.iaload, 1) := by decide +kernel
theorem dX9_deposit_37 : decode cX9_deposit 37 = .ok (.i2l, 1) := by decide +kernel
theorem dX9_deposit_38 : decode cX9_deposit 38 = .ok (.iload_n 2, 1) := by decide +kernel
theorem dX9_deposit_39 : decode cX9_deposit 39 = .ok (.i2l, 1) := by decide +kernel
theorem dX9_deposit_40 : decode cX9_deposit 40 = .ok (.ladd, 1) := by decide +kernel
theorem dX9_deposit_41 : decode cX9_deposit 41 = .ok (.ldc2_w 257, 3) := by decide +kernel
theorem dX9_deposit_44 : decode cX9_deposit 44 = .ok (.lcmp, 1) := by decide +kernel
theorem dX9_deposit_45 : decode cX9_deposit 45 = .ok (.ifCond .le 9, 3) := by decide +kernel
theorem dX9_deposit_48 : decode cX9_deposit 48 = .ok (.aload_n 0, 1) := by decide +kernel
theorem dX9_deposit_49 : decode cX9_deposit 49 = .ok (.iconst 3, 1) := by decide +kernel
theorem dX9_deposit_50 : decode cX9_deposit 50 = .ok (.invokevirtual 206, 3) := by decide +kernel
theorem dX9_deposit_53 : decode cX9_deposit 53 = .ok (.ireturn, 1) := by decide +kernel
theorem dX9_deposit_54 : decode cX9_deposit 54 = .ok (.aload_n 0, 1) := by decide +kernel
theorem dX9_deposit_55 : decode cX9_deposit 55 = .ok (.getfield 76, 3) := by decide +kernel
theorem dX9_deposit_58 : decode cX9_deposit 58 = .ok (.iload_n 1, 1) := by decide +kernel
theorem dX9_deposit_59 : decode cX9_deposit 59 = .ok (.dup2, 1) := by decide +kernel
theorem dX9_deposit_60 : decode cX9_deposit 60 = .ok (.iaload, 1) := by decide +kernel
theorem dX9_deposit_61 : decode cX9_deposit 61 = .ok (.iload_n 2, 1) := by decide +kernel
theorem dX9_deposit_62 : decode cX9_deposit 62 = .ok (.iadd, 1) := by decide +kernel
theorem dX9_deposit_63 : decode cX9_deposit 63 = .ok (.iastore, 1) := by decide +kernel
theorem dX9_deposit_64 : decode cX9_deposit 64 = .ok (.aload_n 0, 1) := by decide +kernel
theorem dX9_deposit_65 : decode cX9_deposit 65 = .ok (.aload_n 0, 1) := by decide +kernel
theorem dX9_deposit_66 : decode cX9_deposit 66 = .ok (.getfield 76, 3) := by decide +kernel
theorem dX9_deposit_69 : decode cX9_deposit 69 = .ok (.iload_n 1, 1) := by decide +kernel
theorem dX9_deposit_70 : decode cX9_deposit 70 = .ok (.iaload, 1) := by decide +kernel
theorem dX9_deposit_71 : decode cX9_deposit 71 = .ok (.invokevirtual 209, 3) := by decide +kernel
theorem dX9_deposit_74 : decode cX9_deposit 74 = .ok (.ireturn, 1) := by decide +kernel
theorem dX9_subscribe_0 : decode cX9_subscribe 0 = .ok (.aload_n 0, 1) := by decide +kernel
theorem dX9_subscribe_1 : decode cX9_subscribe 1 = .ok (.iload_n 1, 1) := by decide +kernel
theorem dX9_subscribe_2 : decode cX9_subscribe 2 = .ok (.invokevirtual 282, 3) := by decide +kernel
theorem dX9_subscribe_5 : decode cX9_subscribe 5 = .ok (.ifCond .ne 9, 3) := by decide +kernel
theorem dX9_subscribe_8 : decode cX9_subscribe 8 = .ok (.aload_n 0, 1) := by decide +kernel
theorem dX9_subscribe_9 : decode cX9_subscribe 9 = .ok (.iconst 1, 1) := by decide +kernel
theorem dX9_subscribe_10 : decode cX9_subscribe 10 = .ok (.invokevirtual 206, 3) := by decide +kernel
theorem dX9_subscribe_13 : decode cX9_subscribe 13 = .ok (.ireturn, 1) := by decide +kernel
theorem dX9_subscribe_14 : decode cX9_subscribe 14 = .ok (.iload_n 2, 1) := by decide +kernel
theorem dX9_subscribe_15 : decode cX9_subscribe 15 = .ok (.iconst 1, 1) := by decide +kernel
theorem dX9_subscribe_16 : decode cX9_subscribe 16 = .ok (.bipush 12, 2) := by decide +kernel
theorem dX9_subscribe_18 : decode cX9_subscribe 18 = .ok (.invokestatic 203, 3) := by decide +kernel
theorem dX9_subscribe_21 : decode cX9_subscribe 21 = .ok (.ifCond .ne 9, 3) := by decide +kernel
theorem dX9_subscribe_24 : decode cX9_subscribe 24 = .ok (.aload_n 0, 1) := by decide +kernel
theorem dX9_subscribe_25 : decode cX9_subscribe 25 = .ok (.iconst 2, 1) := by decide +kernel
theorem dX9_subscribe_26 : decode cX9_subscribe 26 = .ok (.invokevirtual 206, 3) := by decide +kernel
theorem dX9_subscribe_29 : decode cX9_subscribe 29 = .ok (.ireturn, 1) := by decide +kernel
theorem dX9_subscribe_30 : decode cX9_subscribe 30 = .ok (.aload_n 0, 1) := by decide +kernel
theorem dX9_subscribe_31 : decode cX9_subscribe 31 = .ok (.getfield 79, 3) := by decide +kernel
theorem dX9_subscribe_34 : decode cX9_subscribe 34 = .ok (.iload_n 1, 1) := by decide +kernel
theorem dX9_subscribe_35 : decode cX9_subscribe 35 = .ok (.dup2, 1) := by decide +kernel
theorem dX9_subscribe_36 : decode cX9_subscribe 36 = .ok (.iaload, 1) := by decide +kernel
theorem dX9_subscribe_37 : decode cX9_subscribe 37 = .ok (.iload_n 2, 1) := by decide +kernel
theorem dX9_subscribe_38 : decode cX9_subscribe 38 = .ok (.iadd, 1) := by decide +kernel
theorem dX9_subscribe_39 : decode cX9_subscribe 39 = .ok (.iastore, 1) := by decide +kernel
theorem dX9_subscribe_40 : decode cX9_subscribe 40 = .ok (.aload_n 0, 1) := by decide +kernel
theorem dX9_subscribe_41 : decode cX9_subscribe 41 = .ok (.aload_n 0, 1) := by decide +kernel
theorem dX9_subscribe_42 : decode cX9_subscribe 42 = .ok (.getfield 79, 3) := by decide +kernel
theorem dX9_subscribe_45 : decode cX9_subscribe 45 = .ok (.iload_n 1, 1) := by decide +kernel
theorem dX9_subscribe_46 : decode cX9_subscribe 46 = .ok (.iaload, 1) := by decide +kernel
theorem dX9_subscribe_47 : decode cX9_subscribe 47 = .ok (.invokevirtual 209, 3) := by decide +kernel
theorem dX9_subscribe_50 : decode cX9_subscribe 50 = .ok (.ireturn, 1) := by decide +kernel
theorem dX9_buy_0 : decode cX9_buy 0 = .ok (.aload_n 0, 1) := by decide +kernel
theorem dX9_buy_1 : decode cX9_buy 1 = .ok (.iload_n 1, 1) := by decide +kernel
theorem dX9_buy_2 : decode cX9_buy 2 = .ok (.invokevirtual 282, 3) := by decide +kernel
theorem dX9_buy_5 : decode cX9_buy 5 = .ok (.ifCond .eq 11, 3) := by decide +kernel
theorem dX9_buy_8 : decode cX9_buy 8 = .ok (.aload_n 0, 1) := by decide +kernel
theorem dX9_buy_9 : decode cX9_buy 9 = .ok (.iload_n 2, 1) := by decide +kernel
theorem dX9_buy_10 : decode cX9_buy 10 = .ok (.invokevirtual 276, 3) := by decide +kernel
theorem dX9_buy_13 : decode cX9_buy 13 = .ok (.ifCond .ne 9, 3) := by decide +kernel
theorem dX9_buy_16 : decode cX9_buy 16 = .ok (.aload_n 0, 1) := by decide +kernel
theorem dX9_buy_17 : decode cX9_buy 17 = .ok (.iconst 1, 1) := by decide +kernel
theorem dX9_buy_18 : decode cX9_buy 18 = .ok (.invokevirtual 206, 3) := by decide +kernel
theorem dX9_buy_21 : decode cX9_buy 21 = .ok (.ireturn, 1) := by decide +kernel
theorem dX9_buy_22 : decode cX9_buy 22 = .ok (.aload_n 0, 1) := by decide +kernel
theorem dX9_buy_23 : decode cX9_buy 23 = .ok (.getfield 64, 3) := by decide +kernel
theorem dX9_buy_26 : decode cX9_buy 26 = .ok (.iload_n 2, 1) := by decide +kernel
theorem dX9_buy_27 : decode cX9_buy 27 = .ok (.iaload, 1) := by decide +kernel
theorem dX9_buy_28 : decode cX9_buy 28 = .ok (.bipush 115, 2) := by decide +kernel
theorem dX9_buy_30 : decode cX9_buy 30 = .ok (.if_icmp .ne 33, 3) := by decide +kernel
theorem dX9_buy_33 : decode cX9_buy 33 = .ok (.aload_n 0, 1) := by decide +kernel
theorem dX9_buy_34 : decode cX9_buy 34 = .ok (.getfield 82, 3) := by decide +kernel
theorem dX9_buy_37 : decode cX9_buy 37 = .ok (.bipush 12, 2) := by decide +kernel
theorem dX9_buy_39 : decode cX9_buy 39 = .ok (.iload_n 1, 1) := by decide +kernel
theorem dX9_buy_40 : decode cX9_buy 40 = .ok (.imul, 1) := by decide +kernel
theorem dX9_buy_41 : decode cX9_buy 41 = .ok (.iload_n 2, 1) := by decide +kernel
theorem dX9_buy_42 : decode cX9_buy 42 = .ok (.iadd, 1) := by decide +kernel
theorem dX9_buy_43 : decode cX9_buy 43 = .ok (.iaload, 1) := by decide +kernel
theorem dX9_buy_44 : decode cX9_buy 44 = .ok (.iconst 1, 1) := by decide +kernel
theorem dX9_buy_45 : decode cX9_buy 45 = .ok (.if_icmp .eq 18, 3) := by decide +kernel
theorem dX9_buy_48 : decode cX9_buy 48 = .ok (.aload_n 0, 1) := by decide +kernel
theorem dX9_buy_49 : decode cX9_buy 49 = .ok (.getfield 76, 3) := by decide +kernel
theorem dX9_buy_52 : decode cX9_buy 52 = .ok (.iload_n 1, 1) := by decide +kernel
theorem dX9_buy_53 : decode cX9_buy 53 = .ok (.iaload, 1) := by decide +kernel
theorem dX9_buy_54 : decode cX9_buy 54 = .ok (.aload_n 0, 1) := by decide +kernel
theorem dX9_buy_55 : decode cX9_buy 55 = .ok (.getfield 70, 3) := by decide +kernel
theorem dX9_buy_58 : decode cX9_buy 58 = .ok (.iload_n 2, 1) := by decide +kernel
theorem dX9_buy_59 : decode cX9_buy 59 = .ok (.iaload, 1) := by decide +kernel
theorem dX9_buy_60 : decode cX9_buy 60 = .ok (.if_icmp .ge 9, 3) := by decide +kernel
theorem dX9_buy_63 : decode cX9_buy 63 = .ok (.aload_n 0, 1) := by decide +kernel
theorem dX9_buy_64 : decode cX9_buy 64 = .ok (.iconst 2, 1) := by decide +kernel
theorem dX9_buy_65 : decode cX9_buy 65 = .ok (.invokevirtual 206, 3) := by decide +kernel
theorem dX9_buy_68 : decode cX9_buy 68 = .ok (.ireturn, 1) := by decide +kernel
theorem dX9_buy_69 : decode cX9_buy 69 = .ok (.aload_n 0, 1) := by decide +kernel
theorem dX9_buy_70 : decode cX9_buy 70 = .ok (.iload_n 1, 1) := by decide +kernel
theorem dX9_buy_71 : decode cX9_buy 71 = .ok (.iload_n 2, 1) := by decide +kernel
theorem dX9_buy_72 : decode cX9_buy 72 = .ok (.invokevirtual 279, 3) := by decide +kernel
theorem dX9_buy_75 : decode cX9_buy 75 = .ok (.aload_n 0, 1) := by decide +kernel
theorem dX9_buy_76 : decode cX9_buy 76 = .ok (.aload_n 0, 1) := by decide +kernel
theorem dX9_buy_77 : decode cX9_buy 77 = .ok (.getfield 76, 3) := by decide +kernel
theorem dX9_buy_80 : decode cX9_buy 80 = .ok (.iload_n 1, 1) := by decide +kernel
theorem dX9_buy_81 : decode cX9_buy 81 = .ok (.iaload, 1) := by decide +kernel
theorem dX9_buy_82 : decode cX9_buy 82 = .ok (.invokevirtual 209, 3) := by decide +kernel
theorem dX9_buy_85 : decode cX9_buy 85 = .ok (.ireturn, 1) := by decide +kernel
theorem dX9_credits_0 : decode cX9_credits 0 = .ok (.aload_n 0, 1) := by decide +kernel
theorem dX9_credits_1 : decode cX9_credits 1 = .ok (.iload_n 1, 1) := by decide +kernel
theorem dX9_credits_2 : decode cX9_credits 2 = .ok (.invokevirtual 282, 3) := by decide +kernel
theorem dX9_credits_5 : decode cX9_credits 5 = .ok (.ifCond .eq 16, 3) := by decide +kernel
theorem dX9_credits_8 : decode cX9_credits 8 = .ok (.aload_n 0, 1) := by decide +kernel
theorem dX9_credits_9 : decode cX9_credits 9 = .ok (.aload_n 0, 1) := by decide +kernel
theorem dX9_credits_10 : decode cX9_credits 10 = .ok (.getfield 76, 3) := by decide +kernel
theorem dX9_credits_13 : decode cX9_credits 13 = .ok (.iload_n 1, 1) := by decide +kernel
theorem dX9_credits_14 : decode cX9_credits 14 = .ok (.iaload, 1) := by decide +kernel
theorem dX9_credits_15 : decode cX9_credits 15 = .ok (.invokevirtual 209, 3) := by decide +kernel
theorem dX9_credits_18 : decode cX9_credits 18 = .ok (.goto 8, 3) := by decide +kernel
theorem dX9_credits_21 : decode cX9_credits 21 = .ok (.aload_n 0, 1) := by decide +kernel
theorem dX9_credits_22 : decode cX9_credits 22 = .ok (.iconst 1, 1) := by decide +kernel
theorem dX9_credits_23 : decode cX9_credits 23 = .ok (.invokevirtual 206, 3) := by decide +kernel
theorem dX9_credits_26 : decode cX9_credits 26 = .ok (.ireturn, 1) := by decide +kernel
theorem dX9_has_0 : decode cX9_has 0 = .ok (.aload_n 0, 1) := by decide +kernel
theorem dX9_has_1 : decode cX9_has 1 = .ok (.iload_n 1, 1) := by decide +kernel
theorem dX9_has_2 : decode cX9_has 2 = .ok (.invokevirtual 282, 3) := by decide +kernel
theorem dX9_has_5 : decode cX9_has 5 = .ok (.ifCond .eq 38, 3) := by decide +kernel
theorem dX9_has_8 : decode cX9_has 8 = .ok (.aload_n 0, 1) := by decide +kernel
theorem dX9_has_9 : decode cX9_has 9 = .ok (.iload_n 2, 1) := by decide +kernel
theorem dX9_has_10 : decode cX9_has 10 = .ok (.invokevirtual 276, 3) := by decide +kernel
theorem dX9_has_13 : decode cX9_has 13 = .ok (.ifCond .eq 30, 3) := by decide +kernel
theorem dX9_has_16 : decode cX9_has 16 = .ok (.aload_n 0, 1) := by decide +kernel
theorem dX9_has_17 : decode cX9_has 17 = .ok (.aload_n 0, 1) := by decide +kernel
theorem dX9_has_18 : decode cX9_has 18 = .ok (.getfield 82, 3) := by decide +kernel
theorem dX9_has_21 : decode cX9_has 21 = .ok (.bipush 12, 2) := by decide +kernel
theorem dX9_has_23 : decode cX9_has 23 = .ok (.iload_n 1, 1) := by decide +kernel
theorem dX9_has_24 : decode cX9_has 24 = .ok (.imul, 1) := by decide +kernel
theorem dX9_has_25 : decode cX9_has 25 = .ok (.iload_n 2, 1) := by decide +kernel
theorem dX9_has_26 : decode cX9_has 26 = .ok (.iadd, 1) := by decide +kernel
theorem dX9_has_27 : decode cX9_has 27 = .ok (.iaload, 1) := by decide +kernel
theorem dX9_has_28 : decode cX9_has 28 = .ok (.iconst 1, 1) := by decide +kernel
theorem dX9_has_29 : decode cX9_has 29 = .ok (.if_icmp .ne 7, 3) := by decide +kernel
theorem dX9_has_32 : decode cX9_has 32 = .ok (.iconst 1, 1) := by decide +kernel
theorem dX9_has_33 : decode cX9_has 33 = .ok (.goto 4, 3) := by decide +kernel
theorem dX9_has_36 : decode cX9_has 36 = .ok (.iconst 0, 1) := by decide +kernel
theorem dX9_has_37 : decode cX9_has 37 = .ok (.invokevirtual 241, 3) := by decide +kernel
theorem dX9_has_40 : decode cX9_has 40 = .ok (.goto 8, 3) := by decide +kernel
theorem dX9_has_43 : decode cX9_has 43 = .ok (.aload_n 0, 1) := by decide +kernel
theorem dX9_has_44 : decode cX9_has 44 = .ok (.iconst 1, 1) := by decide +kernel
theorem dX9_has_45 : decode cX9_has 45 = .ok (.invokevirtual 245, 3) := by decide +kernel
theorem dX9_has_48 : decode cX9_has 48 = .ok (.ireturn, 1) := by decide +kernel
theorem dX9_press_0 : decode cX9_press 0 = .ok (.aload_n 0, 1) := by decide +kernel
theorem dX9_press_1 : decode cX9_press 1 = .ok (.iconst 0, 1) := by decide +kernel
theorem dX9_press_2 : decode cX9_press 2 = .ok (.putfield 94, 3) := by decide +kernel
theorem dX9_press_5 : decode cX9_press 5 = .ok (.aload_n 0, 1) := by decide +kernel
theorem dX9_press_6 : decode cX9_press 6 = .ok (.getfield 260, 3) := by decide +kernel
theorem dX9_press_9 : decode cX9_press 9 = .ok (.lreturn, 1) := by decide +kernel
theorem dX9_leansOwn_0 : decode cX9_leansOwn 0 = .ok (.iconst 0, 1) := by decide +kernel
theorem dX9_leansOwn_1 : decode cX9_leansOwn 1 = .ok (.istore_n 2, 1) := by decide +kernel
theorem dX9_leansOwn_2 : decode cX9_leansOwn 2 = .ok (.bipush 10, 2) := by decide +kernel
theorem dX9_leansOwn_4 : decode cX9_leansOwn 4 = .ok (.istore_n 3, 1) := by decide +kernel
theorem dX9_leansOwn_5 : decode cX9_leansOwn 5 = .ok (.iload_n 3, 1) := by decide +kernel
theorem dX9_leansOwn_6 : decode cX9_leansOwn 6 = .ok (.bipush 10, 2) := by decide +kernel
theorem dX9_leansOwn_8 : decode cX9_leansOwn 8 = .ok (.aload_n 0, 1) := by decide +kernel
theorem dX9_leansOwn_9 : decode cX9_leansOwn 9 = .ok (.getfield 156, 3) := by decide +kernel
theorem dX9_leansOwn_12 : decode cX9_leansOwn 12 = .ok (.iadd, 1) := by decide +kernel
theorem dX9_leansOwn_13 : decode cX9_leansOwn 13 = .ok (.if_icmp .ge 28, 3) := by decide +kernel
theorem dX9_leansOwn_16 : decode cX9_leansOwn 16 = .ok (.iload_n 2, 1) := by decide +kernel
theorem dX9_leansOwn_17 : decode cX9_leansOwn 17 = .ok (.ifCond .ne 12, 3) := by decide +kernel
theorem dX9_leansOwn_20 : decode cX9_leansOwn 20 = .ok (.aload_n 0, 1) := by decide +kernel
theorem dX9_leansOwn_21 : decode cX9_leansOwn 21 = .ok (.iload_n 1, 1) := by decide +kernel
theorem dX9_leansOwn_22 : decode cX9_leansOwn 22 = .ok (.iload_n 3, 1) := by decide +kernel
theorem dX9_leansOwn_23 : decode cX9_leansOwn 23 = .ok (.invokevirtual 238, 3) := by decide +kernel
theorem dX9_leansOwn_26 : decode cX9_leansOwn 26 = .ok (.ifCond .eq 7, 3) := by decide +kernel
theorem dX9_leansOwn_29 : decode cX9_leansOwn 29 = .ok (.iconst 1, 1) := by decide +kernel
theorem dX9_leansOwn_30 : decode cX9_leansOwn 30 = .ok (.goto 4, 3) := by decide +kernel
theorem dX9_leansOwn_33 : decode cX9_leansOwn 33 = .ok (.iconst 0, 1) := by decide +kernel
theorem dX9_leansOwn_34 : decode cX9_leansOwn 34 = .ok (.istore_n 2, 1) := by decide +kernel
theorem dX9_leansOwn_35 : decode cX9_leansOwn 35 = .ok (.iinc 3 1, 3) := by decide +kernel
theorem dX9_leansOwn_38 : decode cX9_leansOwn 38 = .ok (.goto (-33), 3) := by decide +kernel
theorem dX9_leansOwn_41 : decode cX9_leansOwn 41 = .ok (.iload_n 2, 1) := by decide +kernel
theorem dX9_leansOwn_42 : decode cX9_leansOwn 42 = .ok (.ireturn, 1) := by decide +kernel
theorem dX9_isClean_0 : decode cX9_isClean 0 = .ok (.iconst 1, 1) := by decide +kernel
theorem dX9_isClean_1 : decode cX9_isClean 1 = .ok (.istore_n 1, 1) := by decide +kernel
theorem dX9_isClean_2 : decode cX9_isClean 2 = .ok (.iconst 0, 1) := by decide +kernel
theorem dX9_isClean_3 : decode cX9_isClean 3 = .ok (.istore_n 2, 1) := by decide +kernel
theorem dX9_isClean_4 : decode cX9_isClean 4 = .ok (.iload_n 2, 1) := by decide +kernel
theorem dX9_isClean_5 : decode cX9_isClean 5 = .ok (.aload_n 0, 1) := by decide +kernel
theorem dX9_isClean_6 : decode cX9_isClean 6 = .ok (.getfield 200, 3) := by decide +kernel
theorem dX9_isClean_9 : decode cX9_isClean 9 = .ok (.if_icmp .ge 109, 3) := by decide +kernel
theorem dX9_isClean_12 : decode cX9_isClean 12 = .ok (.bipush 10, 2) := by decide +kernel
theorem dX9_isClean_14 : decode cX9_isClean 14 = .ok (.istore_n 3, 1) := by decide +kernel
theorem dX9_isClean_15 : decode cX9_isClean 15 = .ok (.iload_n 3, 1) := by decide +kernel
theorem dX9_isClean_16 : decode cX9_isClean 16 = .ok (.bipush 10, 2) := by decide +kernel
theorem dX9_isClean_18 : decode cX9_isClean 18 = .ok (.aload_n 0, 1) := by decide +kernel
theorem dX9_isClean_19 : decode cX9_isClean 19 = .ok (.getfield 156, 3) := by decide +kernel
theorem dX9_isClean_22 : decode cX9_isClean 22 = .ok (.iadd, 1) := by decide +kernel
theorem dX9_isClean_23 : decode cX9_isClean 23 = .ok (.if_icmp .ge 51, 3) := by decide +kernel
theorem dX9_isClean_26 : decode cX9_isClean 26 = .ok (.aload_n 0, 1) := by decide +kernel
theorem dX9_isClean_27 : decode cX9_isClean 27 = .ok (.getfield 16, 3) := by decide +kernel
theorem dX9_isClean_30 : decode cX9_isClean 30 = .ok (.iload_n 2, 1) := by decide +kernel
theorem dX9_isClean_31 : decode cX9_isClean 31 = .ok (.iaload, 1) := by decide +kernel
theorem dX9_isClean_32 : decode cX9_isClean 32 = .ok (.bipush 115, 2) := by decide +kernel
theorem dX9_isClean_34 : decode cX9_isClean 34 = .ok (.if_icmp .ne 40, 3) := by decide +kernel
theorem dX9_isClean_37 : decode cX9_isClean 37 = .ok (.iload_n 1, 1) := by decide +kernel
theorem dX9_isClean_38 : decode cX9_isClean 38 = .ok (.ifCond .eq 28, 3) := by decide +kernel
theorem dX9_isClean_41 : decode cX9_isClean 41 = .ok (.aload_n 0, 1) := by decide +kernel
theorem dX9_isClean_42 : decode cX9_isClean 42 = .ok (.getfield 61, 3) := by decide +kernel
theorem dX9_isClean_45 : decode cX9_isClean 45 = .ok (.iload_n 3, 1) := by decide +kernel
theorem dX9_isClean_46 : decode cX9_isClean 46 = .ok (.bipush 10, 2) := by decide +kernel
theorem dX9_isClean_48 : decode cX9_isClean 48 = .ok (.isub, 1) := by decide +kernel
theorem dX9_isClean_49 : decode cX9_isClean 49 = .ok (.iaload, 1) := by decide +kernel
theorem dX9_isClean_50 : decode cX9_isClean 50 = .ok (.ifCond .eq 12, 3) := by decide +kernel
theorem dX9_isClean_53 : decode cX9_isClean 53 = .ok (.aload_n 0, 1) := by decide +kernel
theorem dX9_isClean_54 : decode cX9_isClean 54 = .ok (.iload_n 2, 1) := by decide +kernel
theorem dX9_isClean_55 : decode cX9_isClean 55 = .ok (.iload_n 3, 1) := by decide +kernel
theorem dX9_isClean_56 : decode cX9_isClean 56 = .ok (.invokevirtual 238, 3) := by decide +kernel
theorem dX9_isClean_59 : decode cX9_isClean 59 = .ok (.ifCond .ne 7, 3) := by decide +kernel
theorem dX9_isClean_62 : decode cX9_isClean 62 = .ok (.iconst 1, 1) := by decide +kernel
theorem dX9_isClean_63 : decode cX9_isClean 63 = .ok (.goto 4, 3) := by decide +kernel
theorem dX9_isClean_66 : decode cX9_isClean 66 = .ok (.iconst 0, 1) := by decide +kernel
theorem dX9_isClean_67 : decode cX9_isClean 67 = .ok (.istore_n 1, 1) := by decide +kernel
theorem dX9_isClean_68 : decode cX9_isClean 68 = .ok (.iinc 3 1, 3) := by decide +kernel
theorem dX9_isClean_71 : decode cX9_isClean 71 = .ok (.goto (-56), 3) := by decide +kernel
theorem dX9_isClean_74 : decode cX9_isClean 74 = .ok (.iload_n 1, 1) := by decide +kernel
theorem dX9_isClean_75 : decode cX9_isClean 75 = .ok (.ifCond .eq 35, 3) := by decide +kernel
theorem dX9_isClean_78 : decode cX9_isClean 78 = .ok (.aload_n 0, 1) := by decide +kernel
theorem dX9_isClean_79 : decode cX9_isClean 79 = .ok (.getfield 16, 3) := by decide +kernel
theorem dX9_isClean_82 : decode cX9_isClean 82 = .ok (.iload_n 2, 1) := by decide +kernel
theorem dX9_isClean_83 : decode cX9_isClean 83 = .ok (.iaload, 1) := by decide +kernel
theorem dX9_isClean_84 : decode cX9_isClean 84 = .ok (.bipush 115, 2) := by decide +kernel
theorem dX9_isClean_86 : decode cX9_isClean 86 = .ok (.if_icmp .ne 20, 3) := by decide +kernel
theorem dX9_isClean_89 : decode cX9_isClean 89 = .ok (.aload_n 0, 1) := by decide +kernel
theorem dX9_isClean_90 : decode cX9_isClean 90 = .ok (.iload_n 2, 1) := by decide +kernel
theorem dX9_isClean_91 : decode cX9_isClean 91 = .ok (.invokevirtual 286, 3) := by decide +kernel
theorem dX9_isClean_94 : decode cX9_isClean 94 = .ok (.ifCond .ne 12, 3) := by decide +kernel
theorem dX9_isClean_97 : decode cX9_isClean 97 = .ok (.aload_n 0, 1) := by decide +kernel
theorem dX9_isClean_98 : decode cX9_isClean 98 = .ok (.iload_n 2, 1) := by decide +kernel
theorem dX9_isClean_99 : decode cX9_isClean 99 = .ok (.invokevirtual 219, 3) := by decide +kernel
theorem dX9_isClean_102 : decode cX9_isClean 102 = .ok (.iconst 1, 1) := by decide +kernel
theorem dX9_isClean_103 : decode cX9_isClean 103 = .ok (.if_icmp .ne 7, 3) := by decide +kernel
theorem dX9_isClean_106 : decode cX9_isClean 106 = .ok (.iconst 1, 1) := by decide +kernel
theorem dX9_isClean_107 : decode cX9_isClean 107 = .ok (.goto 4, 3) := by decide +kernel
theorem dX9_isClean_110 : decode cX9_isClean 110 = .ok (.iconst 0, 1) := by decide +kernel
theorem dX9_isClean_111 : decode cX9_isClean 111 = .ok (.istore_n 1, 1) := by decide +kernel
theorem dX9_isClean_112 : decode cX9_isClean 112 = .ok (.iinc 2 1, 3) := by decide +kernel
theorem dX9_isClean_115 : decode cX9_isClean 115 = .ok (.goto (-111), 3) := by decide +kernel
theorem dX9_isClean_118 : decode cX9_isClean 118 = .ok (.aload_n 0, 1) := by decide +kernel
theorem dX9_isClean_119 : decode cX9_isClean 119 = .ok (.iload_n 1, 1) := by decide +kernel
theorem dX9_isClean_120 : decode cX9_isClean 120 = .ok (.invokevirtual 241, 3) := by decide +kernel
theorem dX9_isClean_123 : decode cX9_isClean 123 = .ok (.ireturn, 1) := by decide +kernel
theorem dX9_provedShare_0 : decode cX9_provedShare 0 = .ok (.iconst 0, 1) := by decide +kernel
theorem dX9_provedShare_1 : decode cX9_provedShare 1 = .ok (.istore_n 1, 1) := by decide +kernel
theorem dX9_provedShare_2 : decode cX9_provedShare 2 = .ok (.iconst 0, 1) := by decide +kernel
theorem dX9_provedShare_3 : decode cX9_provedShare 3 = .ok (.istore_n 2, 1) := by decide +kernel
theorem dX9_provedShare_4 : decode cX9_provedShare 4 = .ok (.iload_n 2, 1) := by decide +kernel
theorem dX9_provedShare_5 : decode cX9_provedShare 5 = .ok (.aload_n 0, 1) := by decide +kernel
theorem dX9_provedShare_6 : decode cX9_provedShare 6 = .ok (.getfield 200, 3) := by decide +kernel
theorem dX9_provedShare_9 : decode cX9_provedShare 9 = .ok (.if_icmp .ge 27, 3) := by decide +kernel
theorem dX9_provedShare_12 : decode cX9_provedShare 12 = .ok (.iload_n 1, 1) := by decide +kernel
theorem dX9_provedShare_13 : decode cX9_provedShare 13 = .ok (.aload_n 0, 1) := by decide +kernel
theorem dX9_provedShare_14 : decode cX9_provedShare 14 = .ok (.getfield 19, 3) := by decide +kernel
theorem dX9_provedShare_17 : decode cX9_provedShare 17 = .ok (.iload_n 2, 1) := by decide +kernel
theorem dX9_provedShare_18 : decode cX9_provedShare 18 = .ok (.iaload, 1) := by decide +kernel
theorem dX9_provedShare_19 : decode cX9_provedShare 19 = .ok (.iconst 1, 1) := by decide +kernel
theorem dX9_provedShare_20 : decode cX9_provedShare 20 = .ok (.if_icmp .ne 7, 3) := by decide +kernel
theorem dX9_provedShare_23 : decode cX9_provedShare 23 = .ok (.iconst 1, 1) := by decide +kernel
theorem dX9_provedShare_24 : decode cX9_provedShare 24 = .ok (.goto 4, 3) := by decide +kernel
theorem dX9_provedShare_27 : decode cX9_provedShare 27 = .ok (.iconst 0, 1) := by decide +kernel
theorem dX9_provedShare_28 : decode cX9_provedShare 28 = .ok (.iadd, 1) := by decide +kernel
theorem dX9_provedShare_29 : decode cX9_provedShare 29 = .ok (.istore_n 1, 1) := by decide +kernel
theorem dX9_provedShare_30 : decode cX9_provedShare 30 = .ok (.iinc 2 1, 3) := by decide +kernel
theorem dX9_provedShare_33 : decode cX9_provedShare 33 = .ok (.goto (-29), 3) := by decide +kernel
theorem dX9_provedShare_36 : decode cX9_provedShare 36 = .ok (.aload_n 0, 1) := by decide +kernel
theorem dX9_provedShare_37 : decode cX9_provedShare 37 = .ok (.aload_n 0, 1) := by decide +kernel
theorem dX9_provedShare_38 : decode cX9_provedShare 38 = .ok (.getfield 200, 3) := by decide +kernel
theorem dX9_provedShare_41 : decode cX9_provedShare 41 = .ok (.ifCond .ne 7, 3) := by decide +kernel
theorem dX9_provedShare_44 : decode cX9_provedShare 44 = .ok (.iconst 1, 1) := by decide +kernel
theorem dX9_provedShare_45 : decode cX9_provedShare 45 = .ok (.goto 4, 3) := by decide +kernel
theorem dX9_provedShare_48 : decode cX9_provedShare 48 = .ok (.iconst 0, 1) := by decide +kernel
theorem dX9_provedShare_49 : decode cX9_provedShare 49 = .ok (.putfield 94, 3) := by decide +kernel
theorem dX9_provedShare_52 : decode cX9_provedShare 52 = .ok (.aload_n 0, 1) := by decide +kernel
theorem dX9_provedShare_53 : decode cX9_provedShare 53 = .ok (.getfield 200, 3) := by decide +kernel
theorem dX9_provedShare_56 : decode cX9_provedShare 56 = .ok (.ifCond .ne 7, 3) := by decide +kernel
theorem dX9_provedShare_59 : decode cX9_provedShare 59 = .ok (.fconst 0, 1) := by decide +kernel
theorem dX9_provedShare_60 : decode cX9_provedShare 60 = .ok (.goto 11, 3) := by decide +kernel
theorem dX9_provedShare_63 : decode cX9_provedShare 63 = .ok (.iload_n 1, 1) := by decide +kernel
theorem dX9_provedShare_64 : decode cX9_provedShare 64 = .ok (.i2f, 1) := by decide +kernel
theorem dX9_provedShare_65 : decode cX9_provedShare 65 = .ok (.aload_n 0, 1) := by decide +kernel
theorem dX9_provedShare_66 : decode cX9_provedShare 66 = .ok (.getfield 200, 3) := by decide +kernel
theorem dX9_provedShare_69 : decode cX9_provedShare 69 = .ok (.i2f, 1) := by decide +kernel
theorem dX9_provedShare_70 : decode cX9_provedShare 70 = .ok (.fdiv, 1) := by decide +kernel
theorem dX9_provedShare_71 : decode cX9_provedShare 71 = .ok (.freturn, 1) := by decide +kernel
theorem dX9_meanSteps_0 : decode cX9_meanSteps 0 = .ok (.iconst 0, 1) := by decide +kernel
theorem dX9_meanSteps_1 : decode cX9_meanSteps 1 = .ok (.istore_n 1, 1) := by decide +kernel
theorem dX9_meanSteps_2 : decode cX9_meanSteps 2 = .ok (.iconst 0, 1) := by decide +kernel
theorem dX9_meanSteps_3 : decode cX9_meanSteps 3 = .ok (.istore_n 2, 1) := by decide +kernel
theorem dX9_meanSteps_4 : decode cX9_meanSteps 4 = .ok (.iconst 0, 1) := by decide +kernel
theorem dX9_meanSteps_5 : decode cX9_meanSteps 5 = .ok (.istore_n 3, 1) := by decide +kernel
theorem dX9_meanSteps_6 : decode cX9_meanSteps 6 = .ok (.iload_n 3, 1) := by decide +kernel
theorem dX9_meanSteps_7 : decode cX9_meanSteps 7 = .ok (.aload_n 0, 1) := by decide +kernel
theorem dX9_meanSteps_8 : decode cX9_meanSteps 8 = .ok (.getfield 200, 3) := by decide +kernel
theorem dX9_meanSteps_11 : decode cX9_meanSteps 11 = .ok (.if_icmp .ge 50, 3) := by decide +kernel
theorem dX9_meanSteps_14 : decode cX9_meanSteps 14 = .ok (.iload_n 1, 1) := by decide +kernel
theorem dX9_meanSteps_15 : decode cX9_meanSteps 15 = .ok (.aload_n 0, 1) := by decide +kernel
theorem dX9_meanSteps_16 : decode cX9_meanSteps 16 = .ok (.getfield 19, 3) := by decide +kernel
theorem dX9_meanSteps_19 : decode cX9_meanSteps 19 = .ok (.iload_n 3, 1) := by decide +kernel
theorem dX9_meanSteps_20 : decode cX9_meanSteps 20 = .ok (.iaload, 1) := by decide +kernel
theorem dX9_meanSteps_21 : decode cX9_meanSteps 21 = .ok (.iconst 1, 1) := by decide +kernel
theorem dX9_meanSteps_22 : decode cX9_meanSteps 22 = .ok (.if_icmp .ne 7, 3) := by decide +kernel
theorem dX9_meanSteps_25 : decode cX9_meanSteps 25 = .ok (.iconst 1, 1) := by decide +kernel
theorem dX9_meanSteps_26 : decode cX9_meanSteps 26 = .ok (.goto 4, 3) := by decide +kernel
theorem dX9_meanSteps_29 : decode cX9_meanSteps 29 = .ok (.iconst 0, 1) := by decide +kernel
theorem dX9_meanSteps_30 : decode cX9_meanSteps 30 = .ok (.iadd, 1) := by decide +kernel
theorem dX9_meanSteps_31 : decode cX9_meanSteps 31 = .ok (.istore_n 1, 1) := by decide +kernel
theorem dX9_meanSteps_32 : decode cX9_meanSteps 32 = .ok (.iload_n 2, 1) := by decide +kernel
theorem dX9_meanSteps_33 : decode cX9_meanSteps 33 = .ok (.aload_n 0, 1) := by decide +kernel
theorem dX9_meanSteps_34 : decode cX9_meanSteps 34 = .ok (.getfield 19, 3) := by decide +kernel
theorem dX9_meanSteps_37 : decode cX9_meanSteps 37 = .ok (.iload_n 3, 1) := by decide +kernel
theorem dX9_meanSteps_38 : decode cX9_meanSteps 38 = .ok (.iaload, 1) := by decide +kernel
theorem dX9_meanSteps_39 : decode cX9_meanSteps 39 = .ok (.iconst 1, 1) := by decide +kernel
theorem dX9_meanSteps_40 : decode cX9_meanSteps 40 = .ok (.if_icmp .ne 12, 3) := by decide +kernel
theorem dX9_meanSteps_43 : decode cX9_meanSteps 43 = .ok (.aload_n 0, 1) := by decide +kernel
theorem dX9_meanSteps_44 : decode cX9_meanSteps 44 = .ok (.getfield 22, 3) := by decide +kernel
theorem dX9_meanSteps_47 : decode cX9_meanSteps 47 = .ok (.iload_n 3, 1) := by decide +kernel
theorem dX9_meanSteps_48 : decode cX9_meanSteps 48 = .ok (.iaload, 1) := by decide +kernel
theorem dX9_meanSteps_49 : decode cX9_meanSteps 49 = .ok (.goto 4, 3) := by decide +kernel
theorem dX9_meanSteps_52 : decode cX9_meanSteps 52 = .ok (.iconst 0, 1) := by decide +kernel
theorem dX9_meanSteps_53 : decode cX9_meanSteps 53 = .ok (.iadd, 1) := by decide +kernel
theorem dX9_meanSteps_54 : decode cX9_meanSteps 54 = .ok (.istore_n 2, 1) := by decide +kernel
theorem dX9_meanSteps_55 : decode cX9_meanSteps 55 = .ok (.iinc 3 1, 3) := by decide +kernel
theorem dX9_meanSteps_58 : decode cX9_meanSteps 58 = .ok (.goto (-52), 3) := by decide +kernel
theorem dX9_meanSteps_61 : decode cX9_meanSteps 61 = .ok (.aload_n 0, 1) := by decide +kernel
theorem dX9_meanSteps_62 : decode cX9_meanSteps 62 = .ok (.iload_n 1, 1) := by decide +kernel
theorem dX9_meanSteps_63 : decode cX9_meanSteps 63 = .ok (.ifCond .ne 7, 3) := by decide +kernel
theorem dX9_meanSteps_66 : decode cX9_meanSteps 66 = .ok (.iconst 1, 1) := by decide +kernel
theorem dX9_meanSteps_67 : decode cX9_meanSteps 67 = .ok (.goto 4, 3) := by decide +kernel
theorem dX9_meanSteps_70 : decode cX9_meanSteps 70 = .ok (.iconst 0, 1) := by decide +kernel
theorem dX9_meanSteps_71 : decode cX9_meanSteps 71 = .ok (.putfield 94, 3) := by decide +kernel
theorem dX9_meanSteps_74 : decode cX9_meanSteps 74 = .ok (.iload_n 1, 1) := by decide +kernel
theorem dX9_meanSteps_75 : decode cX9_meanSteps 75 = .ok (.ifCond .ne 7, 3) := by decide +kernel
theorem dX9_meanSteps_78 : decode cX9_meanSteps 78 = .ok (.dconst 0, 1) := by decide +kernel
theorem dX9_meanSteps_79 : decode cX9_meanSteps 79 = .ok (.goto 8, 3) := by decide +kernel
theorem dX9_meanSteps_82 : decode cX9_meanSteps 82 = .ok (.iload_n 2, 1) := by decide +kernel
theorem dX9_meanSteps_83 : decode cX9_meanSteps 83 = .ok (.i2d, 1) := by decide +kernel
theorem dX9_meanSteps_84 : decode cX9_meanSteps 84 = .ok (.iload_n 1, 1) := by decide +kernel
theorem dX9_meanSteps_85 : decode cX9_meanSteps 85 = .ok (.i2d, 1) := by decide +kernel
theorem dX9_meanSteps_86 : decode cX9_meanSteps 86 = .ok (.ddiv, 1) := by decide +kernel
theorem dX9_meanSteps_87 : decode cX9_meanSteps 87 = .ok (.dreturn, 1) := by decide +kernel
