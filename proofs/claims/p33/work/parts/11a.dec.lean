/-! decoded instructions -/
theorem dX0_init_0 : decode cX0_init 0 = .ok (.aload_n 0, 1) := by decide +kernel
theorem dX0_init_1 : decode cX0_init 1 = .ok (.invokespecial 3, 3) := by decide +kernel
theorem dX0_init_4 : decode cX0_init 4 = .ok (.aload_n 0, 1) := by decide +kernel
theorem dX0_init_5 : decode cX0_init 5 = .ok (.iload_n 1, 1) := by decide +kernel
theorem dX0_init_6 : decode cX0_init 6 = .ok (.putfield 9, 3) := by decide +kernel
theorem dX0_init_9 : decode cX0_init 9 = .ok (.aload_n 0, 1) := by decide +kernel
theorem dX0_init_10 : decode cX0_init 10 = .ok (.iload_n 2, 1) := by decide +kernel
theorem dX0_init_11 : decode cX0_init 11 = .ok (.putfield 15, 3) := by decide +kernel
theorem dX0_init_14 : decode cX0_init 14 = .ok (.aload_n 0, 1) := by decide +kernel
theorem dX0_init_15 : decode cX0_init 15 = .ok (.iload_n 3, 1) := by decide +kernel
theorem dX0_init_16 : decode cX0_init 16 = .ok (.putfield 19, 3) := by decide +kernel
theorem dX0_init_19 : decode cX0_init 19 = .ok (.aload_n 0, 1) := by decide +kernel
theorem dX0_init_20 : decode cX0_init 20 = .ok (.iload 4, 2) := by decide +kernel
theorem dX0_init_22 : decode cX0_init 22 = .ok (.putfield 22, 3) := by decide +kernel
theorem dX0_init_25 : decode cX0_init 25 = .ok (.return_, 1) := by decide +kernel
theorem dX0_ruleNumber_0 : decode cX0_ruleNumber 0 = .ok (.ldc 25, 2) := by decide +kernel
theorem dX0_ruleNumber_2 : decode cX0_ruleNumber 2 = .ok (.aload_n 0, 1) := by decide +kernel
theorem dX0_ruleNumber_3 : decode cX0_ruleNumber 3 = .ok (.getfield 9, 3) := by decide +kernel
theorem dX0_ruleNumber_6 : decode cX0_ruleNumber 6 = .ok (.invokevirtual 27, 3) := by decide +kernel
theorem dX0_ruleNumber_9 : decode cX0_ruleNumber 9 = .ok (.ireturn, 1) := by decide +kernel
theorem dX0_isFor_0 : decode cX0_isFor 0 = .ok (.aload_n 0, 1) := by decide +kernel
theorem dX0_isFor_1 : decode cX0_isFor 1 = .ok (.invokevirtual 33, 3) := by decide +kernel
theorem dX0_isFor_4 : decode cX0_isFor 4 = .ok (.ifCond .lt 33, 3) := by decide +kernel
theorem dX0_isFor_7 : decode cX0_isFor 7 = .ok (.aload_n 0, 1) := by decide +kernel
theorem dX0_isFor_8 : decode cX0_isFor 8 = .ok (.getfield 15, 3) := by decide +kernel
theorem dX0_isFor_11 : decode cX0_isFor 11 = .ok (.ifCond .lt 26, 3) := by decide +kernel
theorem dX0_isFor_14 : decode cX0_isFor 14 = .ok (.aload_n 0, 1) := by decide +kernel
theorem dX0_isFor_15 : decode cX0_isFor 15 = .ok (.getfield 15, 3) := by decide +kernel
theorem dX0_isFor_18 : decode cX0_isFor 18 = .ok (.iload_n 1, 1) := by decide +kernel
theorem dX0_isFor_19 : decode cX0_isFor 19 = .ok (.if_icmp .ge 18, 3) := by decide +kernel
theorem dX0_isFor_22 : decode cX0_isFor 22 = .ok (.aload_n 0, 1) := by decide +kernel
theorem dX0_isFor_23 : decode cX0_isFor 23 = .ok (.getfield 19, 3) := by decide +kernel
theorem dX0_isFor_26 : decode cX0_isFor 26 = .ok (.ifCond .lt 11, 3) := by decide +kernel
theorem dX0_isFor_29 : decode cX0_isFor 29 = .ok (.aload_n 0, 1) := by decide +kernel
theorem dX0_isFor_30 : decode cX0_isFor 30 = .ok (.getfield 19, 3) := by decide +kernel
theorem dX0_isFor_33 : decode cX0_isFor 33 = .ok (.iload_n 1, 1) := by decide +kernel
theorem dX0_isFor_34 : decode cX0_isFor 34 = .ok (.if_icmp .lt 5, 3) := by decide +kernel
theorem dX0_isFor_37 : decode cX0_isFor 37 = .ok (.iconst 0, 1) := by decide +kernel
theorem dX0_isFor_38 : decode cX0_isFor 38 = .ok (.ireturn, 1) := by decide +kernel
theorem dX0_isFor_39 : decode cX0_isFor 39 = .ok (.aload_n 0, 1) := by decide +kernel
theorem dX0_isFor_40 : decode cX0_isFor 40 = .ok (.getfield 9, 3) := by decide +kernel
theorem dX0_isFor_43 : decode cX0_isFor 43 = .ok (.lookupswitch 130 #[(100, 43), (109, 76), (112, 41), (120, 41)], 41) := by decide +kernel
theorem dX0_isFor_84 : decode cX0_isFor 84 = .ok (.iconst 1, 1) := by decide +kernel
theorem dX0_isFor_85 : decode cX0_isFor 85 = .ok (.ireturn, 1) := by decide +kernel
theorem dX0_isFor_86 : decode cX0_isFor 86 = .ok (.aload_n 0, 1) := by decide +kernel
theorem dX0_isFor_87 : decode cX0_isFor 87 = .ok (.getfield 15, 3) := by decide +kernel
theorem dX0_isFor_90 : decode cX0_isFor 90 = .ok (.aload_n 0, 1) := by decide +kernel
theorem dX0_isFor_91 : decode cX0_isFor 91 = .ok (.getfield 19, 3) := by decide +kernel
theorem dX0_isFor_94 : decode cX0_isFor 94 = .ok (.if_icmp .eq 23, 3) := by decide +kernel
theorem dX0_isFor_97 : decode cX0_isFor 97 = .ok (.aload_n 0, 1) := by decide +kernel
theorem dX0_isFor_98 : decode cX0_isFor 98 = .ok (.getfield 22, 3) := by decide +kernel
theorem dX0_isFor_101 : decode cX0_isFor 101 = .ok (.iconst 1, 1) := by decide +kernel
theorem dX0_isFor_102 : decode cX0_isFor 102 = .ok (.if_icmp .lt 15, 3) := by decide +kernel
theorem dX0_isFor_105 : decode cX0_isFor 105 = .ok (.aload_n 0, 1) := by decide +kernel
theorem dX0_isFor_106 : decode cX0_isFor 106 = .ok (.getfield 22, 3) := by decide +kernel
theorem dX0_isFor_109 : decode cX0_isFor 109 = .ok (.iconst 5, 1) := by decide +kernel
theorem dX0_isFor_110 : decode cX0_isFor 110 = .ok (.if_icmp .gt 7, 3) := by decide +kernel
theorem dX0_isFor_113 : decode cX0_isFor 113 = .ok (.iconst 1, 1) := by decide +kernel
theorem dX0_isFor_114 : decode cX0_isFor 114 = .ok (.goto 4, 3) := by decide +kernel
theorem dX0_isFor_117 : decode cX0_isFor 117 = .ok (.iconst 0, 1) := by decide +kernel
theorem dX0_isFor_118 : decode cX0_isFor 118 = .ok (.ireturn, 1) := by decide +kernel
theorem dX0_isFor_119 : decode cX0_isFor 119 = .ok (.aload_n 0, 1) := by decide +kernel
theorem dX0_isFor_120 : decode cX0_isFor 120 = .ok (.getfield 15, 3) := by decide +kernel
theorem dX0_isFor_123 : decode cX0_isFor 123 = .ok (.aload_n 0, 1) := by decide +kernel
theorem dX0_isFor_124 : decode cX0_isFor 124 = .ok (.getfield 19, 3) := by decide +kernel
theorem dX0_isFor_127 : decode cX0_isFor 127 = .ok (.if_icmp .eq 44, 3) := by decide +kernel
theorem dX0_isFor_130 : decode cX0_isFor 130 = .ok (.aload_n 0, 1) := by decide +kernel
theorem dX0_isFor_131 : decode cX0_isFor 131 = .ok (.getfield 22, 3) := by decide +kernel
theorem dX0_isFor_134 : decode cX0_isFor 134 = .ok (.ifCond .lt 37, 3) := by decide +kernel
theorem dX0_isFor_137 : decode cX0_isFor 137 = .ok (.aload_n 0, 1) := by decide +kernel
theorem dX0_isFor_138 : decode cX0_isFor 138 = .ok (.getfield 22, 3) := by decide +kernel
theorem dX0_isFor_141 : decode cX0_isFor 141 = .ok (.iload_n 1, 1) := by decide +kernel
theorem dX0_isFor_142 : decode cX0_isFor 142 = .ok (.if_icmp .ge 29, 3) := by decide +kernel
theorem dX0_isFor_145 : decode cX0_isFor 145 = .ok (.aload_n 0, 1) := by decide +kernel
theorem dX0_isFor_146 : decode cX0_isFor 146 = .ok (.getfield 22, 3) := by decide +kernel
theorem dX0_isFor_149 : decode cX0_isFor 149 = .ok (.aload_n 0, 1) := by decide +kernel
theorem dX0_isFor_150 : decode cX0_isFor 150 = .ok (.getfield 15, 3) := by decide +kernel
theorem dX0_isFor_153 : decode cX0_isFor 153 = .ok (.if_icmp .eq 18, 3) := by decide +kernel
theorem dX0_isFor_156 : decode cX0_isFor 156 = .ok (.aload_n 0, 1) := by decide +kernel
theorem dX0_isFor_157 : decode cX0_isFor 157 = .ok (.getfield 22, 3) := by decide +kernel
theorem dX0_isFor_160 : decode cX0_isFor 160 = .ok (.aload_n 0, 1) := by decide +kernel
theorem dX0_isFor_161 : decode cX0_isFor 161 = .ok (.getfield 19, 3) := by decide +kernel
theorem dX0_isFor_164 : decode cX0_isFor 164 = .ok (.if_icmp .eq 7, 3) := by decide +kernel
theorem dX0_isFor_167 : decode cX0_isFor 167 = .ok (.iconst 1, 1) := by decide +kernel
theorem dX0_isFor_168 : decode cX0_isFor 168 = .ok (.goto 4, 3) := by decide +kernel
theorem dX0_isFor_171 : decode cX0_isFor 171 = .ok (.iconst 0, 1) := by decide +kernel
theorem dX0_isFor_172 : decode cX0_isFor 172 = .ok (.ireturn, 1) := by decide +kernel
theorem dX0_isFor_173 : decode cX0_isFor 173 = .ok (.aload_n 0, 1) := by decide +kernel
theorem dX0_isFor_174 : decode cX0_isFor 174 = .ok (.getfield 15, 3) := by decide +kernel
theorem dX0_isFor_177 : decode cX0_isFor 177 = .ok (.aload_n 0, 1) := by decide +kernel
theorem dX0_isFor_178 : decode cX0_isFor 178 = .ok (.getfield 19, 3) := by decide +kernel
theorem dX0_isFor_181 : decode cX0_isFor 181 = .ok (.if_icmp .eq 7, 3) := by decide +kernel
theorem dX0_isFor_184 : decode cX0_isFor 184 = .ok (.iconst 1, 1) := by decide +kernel
theorem dX0_isFor_185 : decode cX0_isFor 185 = .ok (.goto 4, 3) := by decide +kernel
theorem dX0_isFor_188 : decode cX0_isFor 188 = .ok (.iconst 0, 1) := by decide +kernel
theorem dX0_isFor_189 : decode cX0_isFor 189 = .ok (.ireturn, 1) := by decide +kernel
theorem dX0_isFitBy_0 : decode cX0_isFitBy 0 = .ok (.aload_n 1, 1) := by decide +kernel
theorem dX0_isFitBy_1 : decode cX0_isFitBy 1 = .ok (.aload_n 0, 1) := by decide +kernel
theorem dX0_isFitBy_2 : decode cX0_isFitBy 2 = .ok (.getfield 15, 3) := by decide +kernel
theorem dX0_isFitBy_5 : decode cX0_isFitBy 5 = .ok (.invokevirtual 37, 3) := by decide +kernel
theorem dX0_isFitBy_8 : decode cX0_isFitBy 8 = .ok (.istore_n 2, 1) := by decide +kernel
theorem dX0_isFitBy_9 : decode cX0_isFitBy 9 = .ok (.aload_n 1, 1) := by decide +kernel
theorem dX0_isFitBy_10 : decode cX0_isFitBy 10 = .ok (.aload_n 0, 1) := by decide +kernel
theorem dX0_isFitBy_11 : decode cX0_isFitBy 11 = .ok (.getfield 19, 3) := by decide +kernel
theorem dX0_isFitBy_14 : decode cX0_isFitBy 14 = .ok (.invokevirtual 37, 3) := by decide +kernel
theorem dX0_isFitBy_17 : decode cX0_isFitBy 17 = .ok (.istore_n 3, 1) := by decide +kernel
theorem dX0_isFitBy_18 : decode cX0_isFitBy 18 = .ok (.aload_n 0, 1) := by decide +kernel
theorem dX0_isFitBy_19 : decode cX0_isFitBy 19 = .ok (.getfield 9, 3) := by decide +kernel
theorem dX0_isFitBy_22 : decode cX0_isFitBy 22 = .ok (.lookupswitch 145 #[(98, 86), (100, 126), (108, 113), (110, 97), (112, 58), (120, 72)], 58) := by decide +kernel
theorem dX0_isFitBy_80 : decode cX0_isFitBy 80 = .ok (.iload_n 2, 1) := by decide +kernel
theorem dX0_isFitBy_81 : decode cX0_isFitBy 81 = .ok (.aload_n 0, 1) := by decide +kernel
theorem dX0_isFitBy_82 : decode cX0_isFitBy 82 = .ok (.getfield 19, 3) := by decide +kernel
theorem dX0_isFitBy_85 : decode cX0_isFitBy 85 = .ok (.if_icmp .ne 7, 3) := by decide +kernel
theorem dX0_isFitBy_88 : decode cX0_isFitBy 88 = .ok (.iconst 1, 1) := by decide +kernel
theorem dX0_isFitBy_89 : decode cX0_isFitBy 89 = .ok (.goto 4, 3) := by decide +kernel
theorem dX0_isFitBy_92 : decode cX0_isFitBy 92 = .ok (.iconst 0, 1) := by decide +kernel
theorem dX0_isFitBy_93 : decode cX0_isFitBy 93 = .ok (.ireturn, 1) := by decide +kernel
theorem dX0_isFitBy_94 : decode cX0_isFitBy 94 = .ok (.iload_n 2, 1) := by decide +kernel
theorem dX0_isFitBy_95 : decode cX0_isFitBy 95 = .ok (.aload_n 0, 1) := by decide +kernel
theorem dX0_isFitBy_96 : decode cX0_isFitBy 96 = .ok (.getfield 19, 3) := by decide +kernel
theorem dX0_isFitBy_99 : decode cX0_isFitBy 99 = .ok (.if_icmp .eq 7, 3) := by decide +kernel
theorem dX0_isFitBy_102 : decode cX0_isFitBy 102 = .ok (.iconst 1, 1) := by decide +kernel
theorem dX0_isFitBy_103 : decode cX0_isFitBy 103 = .ok (.goto 4, 3) := by decide +kernel
theorem dX0_isFitBy_106 : decode cX0_isFitBy 106 = .ok (.iconst 0, 1) := by decide +kernel
theorem dX0_isFitBy_107 : decode cX0_isFitBy 107 = .ok (.ireturn, 1) := by decide +kernel
theorem dX0_isFitBy_108 : decode cX0_isFitBy 108 = .ok (.iload_n 2, 1) := by decide +kernel
theorem dX0_isFitBy_109 : decode cX0_isFitBy 109 = .ok (.iload_n 3, 1) := by decide +kernel
theorem dX0_isFitBy_110 : decode cX0_isFitBy 110 = .ok (.if_icmp .ge 7, 3) := by decide +kernel
theorem dX0_isFitBy_113 : decode cX0_isFitBy 113 = .ok (.iconst 1, 1) := by decide +kernel
theorem dX0_isFitBy_114 : decode cX0_isFitBy 114 = .ok (.goto 4, 3) := by decide +kernel
theorem dX0_isFitBy_117 : decode cX0_isFitBy 117 = .ok (.iconst 0, 1) := by decide +kernel
theorem dX0_isFitBy_118 : decode cX0_isFitBy 118 = .ok (.ireturn, 1) := by decide +kernel
theorem dX0_isFitBy_119 : decode cX0_isFitBy 119 = .ok (.iload_n 2, 1) := by decide +kernel
theorem dX0_isFitBy_120 : decode cX0_isFitBy 120 = .ok (.iload_n 3, 1) := by decide +kernel
theorem dX0_isFitBy_121 : decode cX0_isFitBy 121 = .ok (.isub, 1) := by decide +kernel
theorem dX0_isFitBy_122 : decode cX0_isFitBy 122 = .ok (.invokestatic 42, 3) := by decide +kernel
theorem dX0_isFitBy_125 : decode cX0_isFitBy 125 = .ok (.iconst 1, 1) := by decide +kernel
theorem dX0_isFitBy_126 : decode cX0_isFitBy 126 = .ok (.if_icmp .ne 7, 3) := by decide +kernel
theorem dX0_isFitBy_129 : decode cX0_isFitBy 129 = .ok (.iconst 1, 1) := by decide +kernel
theorem dX0_isFitBy_130 : decode cX0_isFitBy 130 = .ok (.goto 4, 3) := by decide +kernel
theorem dX0_isFitBy_133 : decode cX0_isFitBy 133 = .ok (.iconst 0, 1) := by decide +kernel
theorem dX0_isFitBy_134 : decode cX0_isFitBy 134 = .ok (.ireturn, 1) := by decide +kernel
theorem dX0_isFitBy_135 : decode cX0_isFitBy 135 = .ok (.iload_n 2, 1) := by decide +kernel
theorem dX0_isFitBy_136 : decode cX0_isFitBy 136 = .ok (.iconst 1, 1) := by decide +kernel
theorem dX0_isFitBy_137 : decode cX0_isFitBy 137 = .ok (.iadd, 1) := by decide +kernel
theorem dX0_isFitBy_138 : decode cX0_isFitBy 138 = .ok (.iload_n 3, 1) := by decide +kernel
theorem dX0_isFitBy_139 : decode cX0_isFitBy 139 = .ok (.if_icmp .ne 7, 3) := by decide +kernel
theorem dX0_isFitBy_142 : decode cX0_isFitBy 142 = .ok (.iconst 1, 1) := by decide +kernel
theorem dX0_isFitBy_143 : decode cX0_isFitBy 143 = .ok (.goto 4, 3) := by decide +kernel
theorem dX0_isFitBy_146 : decode cX0_isFitBy 146 = .ok (.iconst 0, 1) := by decide +kernel
theorem dX0_isFitBy_147 : decode cX0_isFitBy 147 = .ok (.ireturn, 1) := by decide +kernel
theorem dX0_isFitBy_148 : decode cX0_isFitBy 148 = .ok (.iload_n 2, 1) := by decide +kernel
theorem dX0_isFitBy_149 : decode cX0_isFitBy 149 = .ok (.iload_n 3, 1) := by decide +kernel
theorem dX0_isFitBy_150 : decode cX0_isFitBy 150 = .ok (.isub, 1) := by decide +kernel
theorem dX0_isFitBy_151 : decode cX0_isFitBy 151 = .ok (.invokestatic 42, 3) := by decide +kernel
theorem dX0_isFitBy_154 : decode cX0_isFitBy 154 = .ok (.aload_n 0, 1) := by decide +kernel
theorem dX0_isFitBy_155 : decode cX0_isFitBy 155 = .ok (.getfield 22, 3) := by decide +kernel
theorem dX0_isFitBy_158 : decode cX0_isFitBy 158 = .ok (.if_icmp .ne 7, 3) := by decide +kernel
theorem dX0_isFitBy_161 : decode cX0_isFitBy 161 = .ok (.iconst 1, 1) := by decide +kernel
theorem dX0_isFitBy_162 : decode cX0_isFitBy 162 = .ok (.goto 4, 3) := by decide +kernel
theorem dX0_isFitBy_165 : decode cX0_isFitBy 165 = .ok (.iconst 0, 1) := by decide +kernel
theorem dX0_isFitBy_166 : decode cX0_isFitBy 166 = .ok (.ireturn, 1) := by decide +kernel
theorem dX0_isFitBy_167 : decode cX0_isFitBy 167 = .ok (.iload_n 2, 1) := by decide +kernel
theorem dX0_isFitBy_168 : decode cX0_isFitBy 168 = .ok (.iload_n 3, 1) := by decide +kernel
theorem dX0_isFitBy_169 : decode cX0_isFitBy 169 = .ok (.invokestatic 47, 3) := by decide +kernel
theorem dX0_isFitBy_172 : decode cX0_isFitBy 172 = .ok (.aload_n 1, 1) := by decide +kernel
theorem dX0_isFitBy_173 : decode cX0_isFitBy 173 = .ok (.aload_n 0, 1) := by decide +kernel
theorem dX0_isFitBy_174 : decode cX0_isFitBy 174 = .ok (.getfield 22, 3) := by decide +kernel
theorem dX0_isFitBy_177 : decode cX0_isFitBy 177 = .ok (.invokevirtual 37, 3) := by decide +kernel
theorem dX0_isFitBy_180 : decode cX0_isFitBy 180 = .ok (.if_icmp .ge 23, 3) := by decide +kernel
theorem dX0_isFitBy_183 : decode cX0_isFitBy 183 = .ok (.aload_n 1, 1) := by decide +kernel
theorem dX0_isFitBy_184 : decode cX0_isFitBy 184 = .ok (.aload_n 0, 1) := by decide +kernel
theorem dX0_isFitBy_185 : decode cX0_isFitBy 185 = .ok (.getfield 22, 3) := by decide +kernel
theorem dX0_isFitBy_188 : decode cX0_isFitBy 188 = .ok (.invokevirtual 37, 3) := by decide +kernel
theorem dX0_isFitBy_191 : decode cX0_isFitBy 191 = .ok (.iload_n 2, 1) := by decide +kernel
theorem dX0_isFitBy_192 : decode cX0_isFitBy 192 = .ok (.iload_n 3, 1) := by decide +kernel
theorem dX0_isFitBy_193 : decode cX0_isFitBy 193 = .ok (.invokestatic 51, 3) := by decide +kernel
theorem dX0_isFitBy_196 : decode cX0_isFitBy 196 = .ok (.if_icmp .ge 7, 3) := by decide +kernel
theorem dX0_isFitBy_199 : decode cX0_isFitBy 199 = .ok (.iconst 1, 1) := by decide +kernel
theorem dX0_isFitBy_200 : decode cX0_isFitBy 200 = .ok (.goto 4, 3) := by decide +kernel
theorem dX0_isFitBy_203 : decode cX0_isFitBy 203 = .ok (.iconst 0, 1) := by decide +kernel
theorem dX0_isFitBy_204 : decode cX0_isFitBy 204 = .ok (.ireturn, 1) := by decide +kernel
theorem dX1_init_0 : decode cX1_init 0 = .ok (.aload_n 0, 1) := by decide +kernel
theorem dX1_init_1 : decode cX1_init 1 = .ok (.invokespecial 3, 3) := by decide +kernel
theorem dX1_init_4 : decode cX1_init 4 = .ok (.aload_n 0, 1) := by decide +kernel
theorem dX1_init_5 : decode cX1_init 5 = .ok (.iconst 0, 1) := by decide +kernel
theorem dX1_init_6 : decode cX1_init 6 = .ok (.putfield 9, 3) := by decide +kernel
theorem dX1_init_9 : decode cX1_init 9 = .ok (.aload_n 0, 1) := by decide +kernel
theorem dX1_init_10 : decode cX1_init 10 = .ok (.iconst 0, 1) := by decide +kernel
theorem dX1_init_11 : decode cX1_init 11 = .ok (.putfield 15, 3) := by decide +kernel
theorem dX1_init_14 : decode cX1_init 14 = .ok (.aload_n 0, 1) := by decide +kernel
theorem dX1_init_15 : decode cX1_init 15 = .ok (.bipush 12, 2) := by decide +kernel
theorem dX1_init_17 : decode cX1_init 17 = .ok (.newarray .boolean, 2) := by decide +kernel
theorem dX1_init_19 : decode cX1_init 19 = .ok (.putfield 18, 3) := by decide +kernel
theorem dX1_init_22 : decode cX1_init 22 = .ok (.return_, 1) := by decide +kernel
theorem dX1_isOwnerOf_0 : decode cX1_isOwnerOf 0 = .ok (.iload_n 1, 1) := by decide +kernel
theorem dX1_isOwnerOf_1 : decode cX1_isOwnerOf 1 = .ok (.ifCond .lt 25, 3) := by decide +kernel
theorem dX1_isOwnerOf_4 : decode cX1_isOwnerOf 4 = .ok (.iload_n 1, 1) := by decide +kernel
theorem dX1_isOwnerOf_5 : decode cX1_isOwnerOf 5 = .ok (.aload_n 0, 1) := by decide +kernel
theorem dX1_isOwnerOf_6 : decode cX1_isOwnerOf 6 = .ok (.getfield 18, 3) := by decide +kernel
theorem dX1_isOwnerOf_9 : decode cX1_isOwnerOf 9 = .ok (.arraylength, 1) := by decide +kernel
theorem dX1_isOwnerOf_10 : decode cX1_isOwnerOf 10 = .ok (.if_icmp .ge 16, 3) := by decide +kernel
theorem dX1_isOwnerOf_13 : decode cX1_isOwnerOf 13 = .ok (.aload_n 0, 1) := by decide +kernel
theorem dX1_isOwnerOf_14 : decode cX1_isOwnerOf 14 = .ok (.getfield 18, 3) := by decide +kernel
theorem dX1_isOwnerOf_17 : decode cX1_isOwnerOf 17 = .ok (.iload_n 1, 1) := by decide +kernel
theorem dX1_isOwnerOf_18 : decode cX1_isOwnerOf 18 = .ok (.baload, 1) := by decide +kernel
theorem dX1_isOwnerOf_19 : decode cX1_isOwnerOf 19 = .ok (.ifCond .eq 7, 3) := by decide +kernel
theorem dX1_isOwnerOf_22 : decode cX1_isOwnerOf 22 = .ok (.iconst 1, 1) := by decide +kernel
theorem dX1_isOwnerOf_23 : decode cX1_isOwnerOf 23 = .ok (.goto 4, 3) := by decide +kernel
theorem dX1_isOwnerOf_26 : decode cX1_isOwnerOf 26 = .ok (.iconst 0, 1) := by decide +kernel
theorem dX1_isOwnerOf_27 : decode cX1_isOwnerOf 27 = .ok (.ireturn, 1) := by decide +kernel
theorem dX1_addIssue_0 : decode cX1_addIssue 0 = .ok (.iload_n 1, 1) := by decide +kernel
theorem dX1_addIssue_1 : decode cX1_addIssue 1 = .ok (.ifCond .lt 19, 3) := by decide +kernel
theorem dX1_addIssue_4 : decode cX1_addIssue 4 = .ok (.iload_n 1, 1) := by decide +kernel
theorem dX1_addIssue_5 : decode cX1_addIssue 5 = .ok (.aload_n 0, 1) := by decide +kernel
theorem dX1_addIssue_6 : decode cX1_addIssue 6 = .ok (.getfield 18, 3) := by decide +kernel
theorem dX1_addIssue_9 : decode cX1_addIssue 9 = .ok (.arraylength, 1) := by decide +kernel
theorem dX1_addIssue_10 : decode cX1_addIssue 10 = .ok (.if_icmp .ge 10, 3) := by decide +kernel
theorem dX1_addIssue_13 : decode cX1_addIssue 13 = .ok (.aload_n 0, 1) := by decide +kernel
theorem dX1_addIssue_14 : decode cX1_addIssue 14 = .ok (.getfield 18, 3) := by decide +kernel
theorem dX1_addIssue_17 : decode cX1_addIssue 17 = .ok (.iload_n 1, 1) := by decide +kernel
theorem dX1_addIssue_18 : decode cX1_addIssue 18 = .ok (.iconst 1, 1) := by decide +kernel
theorem dX1_addIssue_19 : decode cX1_addIssue 19 = .ok (.bastore, 1) := by decide +kernel
theorem dX1_addIssue_20 : decode cX1_addIssue 20 = .ok (.return_, 1) := by decide +kernel
theorem dX2_init_0 : decode cX2_init 0 = .ok (.aload_n 0, 1) := by decide +kernel
theorem dX2_init_1 : decode cX2_init 1 = .ok (.invokespecial 3, 3) := by decide +kernel
theorem dX2_init_4 : decode cX2_init 4 = .ok (.aload_n 0, 1) := by decide +kernel
theorem dX2_init_5 : decode cX2_init 5 = .ok (.bipush 109, 2) := by decide +kernel
theorem dX2_init_7 : decode cX2_init 7 = .ok (.putfield 9, 3) := by decide +kernel
theorem dX2_init_10 : decode cX2_init 10 = .ok (.aload_n 0, 1) := by decide +kernel
theorem dX2_init_11 : decode cX2_init 11 = .ok (.iconst 0, 1) := by decide +kernel
theorem dX2_init_12 : decode cX2_init 12 = .ok (.putfield 15, 3) := by decide +kernel
theorem dX2_init_15 : decode cX2_init 15 = .ok (.return_, 1) := by decide +kernel
theorem dX3_init_0 : decode cX3_init 0 = .ok (.aload_n 0, 1) := by decide +kernel
theorem dX3_init_1 : decode cX3_init 1 = .ok (.invokespecial 3, 3) := by decide +kernel
theorem dX3_init_4 : decode cX3_init 4 = .ok (.aload_n 0, 1) := by decide +kernel
theorem dX3_init_5 : decode cX3_init 5 = .ok (.iload_n 1, 1) := by decide +kernel
theorem dX3_init_6 : decode cX3_init 6 = .ok (.newarray .int, 2) := by decide +kernel
theorem dX3_init_8 : decode cX3_init 8 = .ok (.putfield 9, 3) := by decide +kernel
theorem dX3_init_11 : decode cX3_init 11 = .ok (.iconst 0, 1) := by decide +kernel
theorem dX3_init_12 : decode cX3_init 12 = .ok (.istore_n 2, 1) := by decide +kernel
theorem dX3_init_13 : decode cX3_init 13 = .ok (.iload_n 2, 1) := by decide +kernel
theorem dX3_init_14 : decode cX3_init 14 = .ok (.aload_n 0, 1) := by decide +kernel
theorem dX3_init_15 : decode cX3_init 15 = .ok (.getfield 9, 3) := by decide +kernel
theorem dX3_init_18 : decode cX3_init 18 = .ok (.arraylength, 1) := by decide +kernel
theorem dX3_init_19 : decode cX3_init 19 = .ok (.if_icmp .ge 16, 3) := by decide +kernel
theorem dX3_init_22 : decode cX3_init 22 = .ok (.aload_n 0, 1) := by decide +kernel
theorem dX3_init_23 : decode cX3_init 23 = .ok (.getfield 9, 3) := by decide +kernel
theorem dX3_init_26 : decode cX3_init 26 = .ok (.iload_n 2, 1) := by decide +kernel
theorem dX3_init_27 : decode cX3_init 27 = .ok (.iload_n 2, 1) := by decide +kernel
theorem dX3_init_28 : decode cX3_init 28 = .ok (.iastore, 1) := by decide +kernel
theorem dX3_init_29 : decode cX3_init 29 = .ok (.iinc 2 1, 3) := by decide +kernel
theorem dX3_init_32 : decode cX3_init 32 = .ok (.goto (-19), 3) := by decide +kernel
theorem dX3_init_35 : decode cX3_init 35 = .ok (.return_, 1) := by decide +kernel
theorem dX3_placeOf_0 : decode cX3_placeOf 0 = .ok (.iload_n 1, 1) := by decide +kernel
theorem dX3_placeOf_1 : decode cX3_placeOf 1 = .ok (.ifCond .lt 21, 3) := by decide +kernel
theorem dX3_placeOf_4 : decode cX3_placeOf 4 = .ok (.iload_n 1, 1) := by decide +kernel
theorem dX3_placeOf_5 : decode cX3_placeOf 5 = .ok (.aload_n 0, 1) := by decide +kernel
theorem dX3_placeOf_6 : decode cX3_placeOf 6 = .ok (.getfield 9, 3) := by decide +kernel
theorem dX3_placeOf_9 : decode cX3_placeOf 9 = .ok (.arraylength, 1) := by decide +kernel
theorem dX3_placeOf_10 : decode cX3_placeOf 10 = .ok (.if_icmp .ge 12, 3) := by decide +kernel
theorem dX3_placeOf_13 : decode cX3_placeOf 13 = .ok (.aload_n 0, 1) := by decide +kernel
theorem dX3_placeOf_14 : decode cX3_placeOf 14 = .ok (.getfield 9, 3) := by decide +kernel
theorem dX3_placeOf_17 : decode cX3_placeOf 17 = .ok (.iload_n 1, 1) := by decide +kernel
theorem dX3_placeOf_18 : decode cX3_placeOf 18 = .ok (.iaload, 1) := by decide +kernel
theorem dX3_placeOf_19 : decode cX3_placeOf 19 = .ok (.goto 4, 3) := by decide +kernel
theorem dX3_placeOf_22 : decode cX3_placeOf 22 = .ok (.iconst (-1), 1) := by decide +kernel
theorem dX3_placeOf_23 : decode cX3_placeOf 23 = .ok (.ireturn, 1) := by decide +kernel
theorem dX3_goOn_0 : decode cX3_goOn 0 = .ok (.aload_n 0, 1) := by decide +kernel
theorem dX3_goOn_1 : decode cX3_goOn 1 = .ok (.getfield 9, 3) := by decide +kernel
theorem dX3_goOn_4 : decode cX3_goOn 4 = .ok (.arraylength, 1) := by decide +kernel
theorem dX3_goOn_5 : decode cX3_goOn 5 = .ok (.iconst 2, 1) := by decide +kernel
theorem dX3_goOn_6 : decode cX3_goOn 6 = .ok (.isub, 1) := by decide +kernel
theorem dX3_goOn_7 : decode cX3_goOn 7 = .ok (.istore_n 1, 1) := by decide +kernel
theorem dX3_goOn_8 : decode cX3_goOn 8 = .ok (.iload_n 1, 1) := by decide +kernel
theorem dX3_goOn_9 : decode cX3_goOn 9 = .ok (.ifCond .lt 26, 3) := by decide +kernel
theorem dX3_goOn_12 : decode cX3_goOn 12 = .ok (.aload_n 0, 1) := by decide +kernel
theorem dX3_goOn_13 : decode cX3_goOn 13 = .ok (.getfield 9, 3) := by decide +kernel
theorem dX3_goOn_16 : decode cX3_goOn 16 = .ok (.iload_n 1, 1) := by decide +kernel
theorem dX3_goOn_17 : decode cX3_goOn 17 = .ok (.iaload, 1) := by decide +kernel
theorem dX3_goOn_18 : decode cX3_goOn 18 = .ok (.aload_n 0, 1) := by decide +kernel
theorem dX3_goOn_19 : decode cX3_goOn 19 = .ok (.getfield 9, 3) := by decide +kernel
theorem dX3_goOn_22 : decode cX3_goOn 22 = .ok (.iload_n 1, 1) := by decide +kernel
theorem dX3_goOn_23 : decode cX3_goOn 23 = .ok (.iconst 1, 1) := by decide +kernel
theorem dX3_goOn_24 : decode cX3_goOn 24 = .ok (.iadd, 1) := by decide +kernel
theorem dX3_goOn_25 : decode cX3_goOn 25 = .ok (.iaload, 1) := by decide +kernel
theorem dX3_goOn_26 : decode cX3_goOn 26 = .ok (.if_icmp .le 9, 3) := by decide +kernel
theorem dX3_goOn_29 : decode cX3_goOn 29 = .ok (.iinc 1 (-1), 3) := by decide +kernel
theorem dX3_goOn_32 : decode cX3_goOn 32 = .ok (.goto (-24), 3) := by decide +kernel
theorem dX3_goOn_35 : decode cX3_goOn 35 = .ok (.iload_n 1, 1) := by decide +kernel
theorem dX3_goOn_36 : decode cX3_goOn 36 = .ok (.ifCond .ge 5, 3) := by decide +kernel
theorem dX3_goOn_39 : decode cX3_goOn 39 = .ok (.iconst 0, 1) := by decide +kernel
theorem dX3_goOn_40 : decode cX3_goOn 40 = .ok (.ireturn, 1) := by decide +kernel
theorem dX3_goOn_41 : decode cX3_goOn 41 = .ok (.aload_n 0, 1) := by decide +kernel
theorem dX3_goOn_42 : decode cX3_goOn 42 = .ok (.getfield 9, 3) := by decide +kernel
theorem dX3_goOn_45 : decode cX3_goOn 45 = .ok (.arraylength, 1) := by decide +kernel
theorem dX3_goOn_46 : decode cX3_goOn 46 = .ok (.iconst 1, 1) := by decide +kernel
theorem dX3_goOn_47 : decode cX3_goOn 47 = .ok (.isub, 1) := by decide +kernel
theorem dX3_goOn_48 : decode cX3_goOn 48 = .ok (.istore_n 2, 1) := by decide +kernel
theorem dX3_goOn_49 : decode cX3_goOn 49 = .ok (.iload_n 2, 1) := by decide +kernel
theorem dX3_goOn_50 : decode cX3_goOn 50 = .ok (.iload_n 1, 1) := by decide +kernel
theorem dX3_goOn_51 : decode cX3_goOn 51 = .ok (.if_icmp .le 24, 3) := by decide +kernel
theorem dX3_goOn_54 : decode cX3_goOn 54 = .ok (.aload_n 0, 1) := by decide +kernel
theorem dX3_goOn_55 : decode cX3_goOn 55 = .ok (.getfield 9, 3) := by decide +kernel
theorem dX3_goOn_58 : decode cX3_goOn 58 = .ok (.iload_n 2, 1) := by decide +kernel
theorem dX3_goOn_59 : decode cX3_goOn 59 = .ok (.iaload, 1) := by decide +kernel
theorem dX3_goOn_60 : decode cX3_goOn 60 = .ok (.aload_n 0, 1) := by decide +kernel
theorem dX3_goOn_61 : decode cX3_goOn 61 = .ok (.getfield 9, 3) := by decide +kernel
theorem dX3_goOn_64 : decode cX3_goOn 64 = .ok (.iload_n 1, 1) := by decide +kernel
theorem dX3_goOn_65 : decode cX3_goOn 65 = .ok (.iaload, 1) := by decide +kernel
theorem dX3_goOn_66 : decode cX3_goOn 66 = .ok (.if_icmp .ge 9, 3) := by decide +kernel
theorem dX3_goOn_69 : decode cX3_goOn 69 = .ok (.iinc 2 (-1), 3) := by decide +kernel
theorem dX3_goOn_72 : decode cX3_goOn 72 = .ok (.goto (-23), 3) := by decide +kernel
theorem dX3_goOn_75 : decode cX3_goOn 75 = .ok (.aload_n 0, 1) := by decide +kernel
theorem dX3_goOn_76 : decode cX3_goOn 76 = .ok (.iload_n 1, 1) := by decide +kernel
theorem dX3_goOn_77 : decode cX3_goOn 77 = .ok (.iload_n 2, 1) := by decide +kernel
theorem dX3_goOn_78 : decode cX3_goOn 78 = .ok (.invokevirtual 15, 3) := by decide +kernel
theorem dX3_goOn_81 : decode cX3_goOn 81 = .ok (.iload_n 1, 1) := by decide +kernel
theorem dX3_goOn_82 : decode cX3_goOn 82 = .ok (.iconst 1, 1) := by decide +kernel
theorem dX3_goOn_83 : decode cX3_goOn 83 = .ok (.iadd, 1) := by decide +kernel
theorem dX3_goOn_84 : decode cX3_goOn 84 = .ok (.istore_n 3, 1) := by decide +kernel
theorem dX3_goOn_85 : decode cX3_goOn 85 = .ok (.aload_n 0, 1) := by decide +kernel
theorem dX3_goOn_86 : decode cX3_goOn 86 = .ok (.getfield 9, 3) := by decide +kernel
theorem dX3_goOn_89 : decode cX3_goOn 89 = .ok (.arraylength, 1) := by decide +kernel
theorem dX3_goOn_90 : decode cX3_goOn 90 = .ok (.iconst 1, 1) := by decide +kernel
theorem dX3_goOn_91 : decode cX3_goOn 91 = .ok (.isub, 1) := by decide +kernel
theorem dX3_goOn_92 : decode cX3_goOn 92 = .ok (.istore 4, 2) := by decide +kernel
theorem dX3_goOn_94 : decode cX3_goOn 94 = .ok (.iload_n 3, 1) := by decide +kernel
theorem dX3_goOn_95 : decode cX3_goOn 95 = .ok (.iload 4, 2) := by decide +kernel
theorem dX3_goOn_97 : decode cX3_goOn 97 = .ok (.if_icmp .ge 19, 3) := by decide +kernel
theorem dX3_goOn_100 : decode cX3_goOn 100 = .ok (.aload_n 0, 1) := by decide +kernel
theorem dX3_goOn_101 : decode cX3_goOn 101 = .ok (.iload_n 3, 1) := by decide +kernel
theorem dX3_goOn_102 : decode cX3_goOn 102 = .ok (.iload 4, 2) := by decide +kernel
theorem dX3_goOn_104 : decode cX3_goOn 104 = .ok (.invokevirtual 15, 3) := by decide +kernel
theorem dX3_goOn_107 : decode cX3_goOn 107 = .ok (.iinc 3 1, 3) := by decide +kernel
theorem dX3_goOn_110 : decode cX3_goOn 110 = .ok (.iinc 4 (-1), 3) := by decide +kernel
theorem dX3_goOn_113 : decode cX3_goOn 113 = .ok (.goto (-19), 3) := by decide +kernel
theorem dX3_goOn_116 : decode cX3_goOn 116 = .ok (.iconst 1, 1) := by decide +kernel
theorem dX3_goOn_117 : decode cX3_goOn 117 = .ok (.ireturn, 1) := by decide +kernel
theorem dX3_exchange_0 : decode cX3_exchange 0 = .ok (.aload_n 0, 1) := by decide +kernel
theorem dX3_exchange_1 : decode cX3_exchange 1 = .ok (.getfield 9, 3) := by decide +kernel
theorem dX3_exchange_4 : decode cX3_exchange 4 = .ok (.iload_n 1, 1) := by decide +kernel
theorem dX3_exchange_5 : decode cX3_exchange 5 = .ok (.iaload, 1) := by decide +kernel
theorem dX3_exchange_6 : decode cX3_exchange 6 = .ok (.istore_n 3, 1) := by decide +kernel
theorem dX3_exchange_7 : decode cX3_exchange 7 = .ok (.aload_n 0, 1) := by decide +kernel
theorem dX3_exchange_8 : decode cX3_exchange 8 = .ok (.getfield 9, 3) := by decide +kernel
theorem dX3_exchange_11 : decode cX3_exchange 11 = .ok (.iload_n 1, 1) := by decide +kernel
theorem dX3_exchange_12 : decode cX3_exchange 12 = .ok (.aload_n 0, 1) := by decide +kernel
theorem dX3_exchange_13 : decode cX3_exchange 13 = .ok (.getfield 9, 3) := by decide +kernel
theorem dX3_exchange_16 : decode cX3_exchange 16 = .ok (.iload_n 2, 1) := by decide +kernel
theorem dX3_exchange_17 : decode cX3_exchange 17 = .ok (.iaload, 1) := by decide +kernel
theorem dX3_exchange_18 : decode cX3_exchange 18 = .ok (.iastore, 1) := by decide +kernel
theorem dX3_exchange_19 : decode cX3_exchange 19 = .ok (.aload_n 0, 1) := by decide +kernel
theorem dX3_exchange_20 : decode cX3_exchange 20 = .ok (.getfield 9, 3) := by decide +kernel
theorem dX3_exchange_23 : decode cX3_exchange 23 = .ok (.iload_n 2, 1) := by decide +kernel
theorem dX3_exchange_24 : decode cX3_exchange 24 = .ok (.iload_n 3, 1) := by decide +kernel
theorem dX3_exchange_25 : decode cX3_exchange 25 = .ok (.iastore, 1) := by decide +kernel
theorem dX3_exchange_26 : decode cX3_exchange 26 = .ok (.return_, 1) := by decide +kernel
theorem dX3_digits_0 : decode cX3_digits 0 = .ok (.aload_n 0, 1) := by decide +kernel
theorem dX3_digits_1 : decode cX3_digits 1 = .ok (.getfield 9, 3) := by decide +kernel
theorem dX3_digits_4 : decode cX3_digits 4 = .ok (.arraylength, 1) := by decide +kernel
theorem dX3_digits_5 : decode cX3_digits 5 = .ok (.istore_n 1, 1) := by decide +kernel
theorem dX3_digits_6 : decode cX3_digits 6 = .ok (.iconst 0, 1) := by decide +kernel
theorem dX3_digits_7 : decode cX3_digits 7 = .ok (.istore_n 2, 1) := by decide +kernel
theorem dX3_digits_8 : decode cX3_digits 8 = .ok (.iload_n 2, 1) := by decide +kernel
theorem dX3_digits_9 : decode cX3_digits 9 = .ok (.aload_n 0, 1) := by decide +kernel
theorem dX3_digits_10 : decode cX3_digits 10 = .ok (.getfield 9, 3) := by decide +kernel
theorem dX3_digits_13 : decode cX3_digits 13 = .ok (.arraylength, 1) := by decide +kernel
theorem dX3_digits_14 : decode cX3_digits 14 = .ok (.if_icmp .ge 21, 3) := by decide +kernel
theorem dX3_digits_17 : decode cX3_digits 17 = .ok (.bipush 10, 2) := by decide +kernel
theorem dX3_digits_19 : decode cX3_digits 19 = .ok (.iload_n 1, 1) := by decide +kernel
theorem dX3_digits_20 : decode cX3_digits 20 = .ok (.imul, 1) := by decide +kernel
theorem dX3_digits_21 : decode cX3_digits 21 = .ok (.aload_n 0, 1) := by decide +kernel
theorem dX3_digits_22 : decode cX3_digits 22 = .ok (.getfield 9, 3) := by decide +kernel
theorem dX3_digits_25 : decode cX3_digits 25 = .ok (.iload_n 2, 1) := by decide +kernel
theorem dX3_digits_26 : decode cX3_digits 26 = .ok (.iaload, 1) := by decide +kernel
theorem dX3_digits_27 : decode cX3_digits 27 = .ok (.iadd, 1) := by decide +kernel
theorem dX3_digits_28 : decode cX3_digits 28 = .ok (.istore_n 1, 1) := by decide +kernel
theorem dX3_digits_29 : decode cX3_digits 29 = .ok (.iinc 2 1, 3) := by decide +kernel
theorem dX3_digits_32 : decode cX3_digits 32 = .ok (.goto (-24), 3) := by decide +kernel
theorem dX3_digits_35 : decode cX3_digits 35 = .ok (.iload_n 1, 1) := by decide +kernel
theorem dX3_digits_36 : decode cX3_digits 36 = .ok (.ireturn, 1) := by decide +kernel
theorem dX4_init_0 : decode cX4_init 0 = .ok (.aload_n 0, 1) := by decide +kernel
theorem dX4_init_1 : decode cX4_init 1 = .ok (.invokespecial 3, 3) := by decide +kernel
theorem dX4_init_4 : decode cX4_init 4 = .ok (.aload_n 0, 1) := by decide +kernel
theorem dX4_init_5 : decode cX4_init 5 = .ok (.iload_n 1, 1) := by decide +kernel
theorem dX4_init_6 : decode cX4_init 6 = .ok (.putfield 9, 3) := by decide +kernel
theorem dX4_init_9 : decode cX4_init 9 = .ok (.aload_n 0, 1) := by decide +kernel
theorem dX4_init_10 : decode cX4_init 10 = .ok (.iload_n 2, 1) := by decide +kernel
theorem dX4_init_11 : decode cX4_init 11 = .ok (.putfield 15, 3) := by decide +kernel
theorem dX4_init_14 : decode cX4_init 14 = .ok (.aload_n 0, 1) := by decide +kernel
theorem dX4_init_15 : decode cX4_init 15 = .ok (.iload_n 3, 1) := by decide +kernel
theorem dX4_init_16 : decode cX4_init 16 = .ok (.putfield 18, 3) := by decide +kernel
theorem dX4_init_19 : decode cX4_init 19 = .ok (.aload_n 0, 1) := by decide +kernel
theorem dX4_init_20 : decode cX4_init 20 = .ok (.iload 4, 2) := by decide +kernel
theorem dX4_init_22 : decode cX4_init 22 = .ok (.putfield 22, 3) := by decide +kernel
theorem dX4_init_25 : decode cX4_init 25 = .ok (.aload_n 0, 1) := by decide +kernel
theorem dX4_init_26 : decode cX4_init 26 = .ok (.iconst 1, 1) := by decide +kernel
theorem dX4_init_27 : decode cX4_init 27 = .ok (.putfield 26, 3) := by decide +kernel
theorem dX4_init_30 : decode cX4_init 30 = .ok (.aload_n 0, 1) := by decide +kernel
theorem dX4_init_31 : decode cX4_init 31 = .ok (.iconst 0, 1) := by decide +kernel
theorem dX4_init_32 : decode cX4_init 32 = .ok (.putfield 29, 3) := by decide +kernel
theorem dX4_init_35 : decode cX4_init 35 = .ok (.return_, 1) := by decide +kernel
theorem dX4_personIn_0 : decode cX4_personIn 0 = .ok (.aload_n 0, 1) := by decide +kernel
theorem dX4_personIn_1 : decode cX4_personIn 1 = .ok (.getfield 15, 3) := by decide +kernel
theorem dX4_personIn_4 : decode cX4_personIn 4 = .ok (.lookupswitch 38 #[(97, 28), (98, 33)], 28) := by decide +kernel
theorem dX4_personIn_32 : decode cX4_personIn 32 = .ok (.aload_n 1, 1) := by decide +kernel
theorem dX4_personIn_33 : decode cX4_personIn 33 = .ok (.getfield 32, 3) := by decide +kernel
theorem dX4_personIn_36 : decode cX4_personIn 36 = .ok (.ireturn, 1) := by decide +kernel
theorem dX4_personIn_37 : decode cX4_personIn 37 = .ok (.aload_n 1, 1) := by decide +kernel
theorem dX4_personIn_38 : decode cX4_personIn 38 = .ok (.getfield 37, 3) := by decide +kernel
theorem dX4_personIn_41 : decode cX4_personIn 41 = .ok (.ireturn, 1) := by decide +kernel
theorem dX4_personIn_42 : decode cX4_personIn 42 = .ok (.aload_n 1, 1) := by decide +kernel
theorem dX4_personIn_43 : decode cX4_personIn 43 = .ok (.getfield 40, 3) := by decide +kernel
theorem dX4_personIn_46 : decode cX4_personIn 46 = .ok (.ireturn, 1) := by decide +kernel
theorem dX4_placesOf_0 : decode cX4_placesOf 0 = .ok (.aload_n 0, 1) := by decide +kernel
theorem dX4_placesOf_1 : decode cX4_placesOf 1 = .ok (.getfield 22, 3) := by decide +kernel
theorem dX4_placesOf_4 : decode cX4_placesOf 4 = .ok (.iload_n 1, 1) := by decide +kernel
theorem dX4_placesOf_5 : decode cX4_placesOf 5 = .ok (.invokestatic 43, 3) := by decide +kernel
theorem dX4_placesOf_8 : decode cX4_placesOf 8 = .ok (.istore_n 2, 1) := by decide +kernel
theorem dX4_placesOf_9 : decode cX4_placesOf 9 = .ok (.iconst 1, 1) := by decide +kernel
theorem dX4_placesOf_10 : decode cX4_placesOf 10 = .ok (.iload_n 2, 1) := by decide +kernel
theorem dX4_placesOf_11 : decode cX4_placesOf 11 = .ok (.ishl, 1) := by decide +kernel
theorem dX4_placesOf_12 : decode cX4_placesOf 12 = .ok (.iconst 1, 1) := by decide +kernel
theorem dX4_placesOf_13 : decode cX4_placesOf 13 = .ok (.isub, 1) := by decide +kernel
theorem dX4_placesOf_14 : decode cX4_placesOf 14 = .ok (.istore_n 3, 1) := by decide +kernel
theorem dX4_placesOf_15 : decode cX4_placesOf 15 = .ok (.aload_n 0, 1) := by decide +kernel
theorem dX4_placesOf_16 : decode cX4_placesOf 16 = .ok (.getfield 18, 3) := by decide +kernel
theorem dX4_placesOf_19 : decode cX4_placesOf 19 = .ok (.ifCond .eq 7, 3) := by decide +kernel
theorem dX4_placesOf_22 : decode cX4_placesOf 22 = .ok (.iload_n 3, 1) := by decide +kernel
theorem dX4_placesOf_23 : decode cX4_placesOf 23 = .ok (.goto 8, 3) := by decide +kernel
theorem dX4_placesOf_26 : decode cX4_placesOf 26 = .ok (.iload_n 3, 1) := by decide +kernel
theorem dX4_placesOf_27 : decode cX4_placesOf 27 = .ok (.iload_n 1, 1) := by decide +kernel
theorem dX4_placesOf_28 : decode cX4_placesOf 28 = .ok (.iload_n 2, 1) := by decide +kernel
theorem dX4_placesOf_29 : decode cX4_placesOf 29 = .ok (.isub, 1) := by decide +kernel
theorem dX4_placesOf_30 : decode cX4_placesOf 30 = .ok (.ishl, 1) := by decide +kernel
theorem dX4_placesOf_31 : decode cX4_placesOf 31 = .ok (.ireturn, 1) := by decide +kernel
theorem dX4_findCounterexample_0 : decode cX4_findCounterexample 0 = .ok (.new 33, 3) := by decide +kernel
theorem dX4_findCounterexample_3 : decode cX4_findCounterexample 3 = .ok (.dup, 1) := by decide +kernel
theorem dX4_findCounterexample_4 : decode cX4_findCounterexample 4 = .ok (.aload_n 0, 1) := by decide +kernel
theorem dX4_findCounterexample_5 : decode cX4_findCounterexample 5 = .ok (.getfield 9, 3) := by decide +kernel
theorem dX4_findCounterexample_8 : decode cX4_findCounterexample 8 = .ok (.iconst 0, 1) := by decide +kernel
theorem dX4_findCounterexample_9 : decode cX4_findCounterexample 9 = .ok (.iconst 1, 1) := by decide +kernel
theorem dX4_findCounterexample_10 : decode cX4_findCounterexample 10 = .ok (.iconst 2, 1) := by decide +kernel
theorem dX4_findCounterexample_11 : decode cX4_findCounterexample 11 = .ok (.invokespecial 49, 3) := by decide +kernel
theorem dX4_findCounterexample_14 : decode cX4_findCounterexample 14 = .ok (.astore_n 1, 1) := by decide +kernel
theorem dX4_findCounterexample_15 : decode cX4_findCounterexample 15 = .ok (.iconst 3, 1) := by decide +kernel
theorem dX4_findCounterexample_16 : decode cX4_findCounterexample 16 = .ok (.istore_n 2, 1) := by decide +kernel
theorem dX4_findCounterexample_17 : decode cX4_findCounterexample 17 = .ok (.iload_n 2, 1) := by decide +kernel
theorem dX4_findCounterexample_18 : decode cX4_findCounterexample 18 = .ok (.bipush 6, 2) := by decide +kernel
theorem dX4_findCounterexample_20 : decode cX4_findCounterexample 20 = .ok (.if_icmp .gt 34, 3) := by decide +kernel
theorem dX4_findCounterexample_23 : decode cX4_findCounterexample 23 = .ok (.aload_n 0, 1) := by decide +kernel
theorem dX4_findCounterexample_24 : decode cX4_findCounterexample 24 = .ok (.getfield 29, 3) := by decide +kernel
theorem dX4_findCounterexample_27 : decode cX4_findCounterexample 27 = .ok (.ifCond .ne 21, 3) := by decide +kernel
theorem dX4_findCounterexample_30 : decode cX4_findCounterexample 30 = .ok (.aload_n 0, 1) := by decide +kernel
theorem dX4_findCounterexample_31 : decode cX4_findCounterexample 31 = .ok (.new 52, 3) := by decide +kernel
theorem dX4_findCounterexample_34 : decode cX4_findCounterexample 34 = .ok (.dup, 1) := by decide +kernel
theorem dX4_findCounterexample_35 : decode cX4_findCounterexample 35 = .ok (.iload_n 2, 1) := by decide +kernel
theorem dX4_findCounterexample_36 : decode cX4_findCounterexample 36 = .ok (.invokespecial 54, 3) := by decide +kernel
theorem dX4_findCounterexample_39 : decode cX4_findCounterexample 39 = .ok (.aload_n 1, 1) := by decide +kernel
theorem dX4_findCounterexample_40 : decode cX4_findCounterexample 40 = .ok (.aload_n 0, 1) := by decide +kernel
theorem dX4_findCounterexample_41 : decode cX4_findCounterexample 41 = .ok (.iload_n 2, 1) := by decide +kernel
theorem dX4_findCounterexample_42 : decode cX4_findCounterexample 42 = .ok (.invokevirtual 57, 3) := by decide +kernel
theorem dX4_findCounterexample_45 : decode cX4_findCounterexample 45 = .ok (.invokevirtual 61, 3) := by decide +kernel
theorem dX4_findCounterexample_48 : decode cX4_findCounterexample 48 = .ok (.iinc 2 1, 3) := by decide +kernel
theorem dX4_findCounterexample_51 : decode cX4_findCounterexample 51 = .ok (.goto (-34), 3) := by decide +kernel
theorem dX4_findCounterexample_54 : decode cX4_findCounterexample 54 = .ok (.return_, 1) := by decide +kernel
theorem dX4_findCounterexampleOf_0 : decode cX4_findCounterexampleOf 0 = .ok (.iconst 1, 1) := by decide +kernel
theorem dX4_findCounterexampleOf_1 : decode cX4_findCounterexampleOf 1 = .ok (.istore 4, 2) := by decide +kernel
theorem dX4_findCounterexampleOf_3 : decode cX4_findCounterexampleOf 3 = .ok (.iconst 0, 1) := by decide +kernel
theorem dX4_findCounterexampleOf_4 : decode cX4_findCounterexampleOf 4 = .ok (.istore 5, 2) := by decide +kernel
theorem dX4_findCounterexampleOf_6 : decode cX4_findCounterexampleOf 6 = .ok (.iload 4, 2) := by decide +kernel
theorem dX4_findCounterexampleOf_8 : decode cX4_findCounterexampleOf 8 = .ok (.ifCond .eq 60, 3) := by decide +kernel
theorem dX4_findCounterexampleOf_11 : decode cX4_findCounterexampleOf 11 = .ok (.iload 5, 2) := by decide +kernel
theorem dX4_findCounterexampleOf_13 : decode cX4_findCounterexampleOf 13 = .ok (.sipush 720, 3) := by decide +kernel
theorem dX4_findCounterexampleOf_16 : decode cX4_findCounterexampleOf 16 = .ok (.if_icmp .ge 52, 3) := by decide +kernel
theorem dX4_findCounterexampleOf_19 : decode cX4_findCounterexampleOf 19 = .ok (.aload_n 1, 1) := by decide +kernel
theorem dX4_findCounterexampleOf_20 : decode cX4_findCounterexampleOf 20 = .ok (.aload_n 0, 1) := by decide +kernel
theorem dX4_findCounterexampleOf_21 : decode cX4_findCounterexampleOf 21 = .ok (.aload_n 2, 1) := by decide +kernel
theorem dX4_findCounterexampleOf_22 : decode cX4_findCounterexampleOf 22 = .ok (.invokevirtual 65, 3) := by decide +kernel
theorem dX4_findCounterexampleOf_25 : decode cX4_findCounterexampleOf 25 = .ok (.invokevirtual 69, 3) := by decide +kernel
theorem dX4_findCounterexampleOf_28 : decode cX4_findCounterexampleOf 28 = .ok (.istore 6, 2) := by decide +kernel
theorem dX4_findCounterexampleOf_30 : decode cX4_findCounterexampleOf 30 = .ok (.iload_n 3, 1) := by decide +kernel
theorem dX4_findCounterexampleOf_31 : decode cX4_findCounterexampleOf 31 = .ok (.iconst 1, 1) := by decide +kernel
theorem dX4_findCounterexampleOf_32 : decode cX4_findCounterexampleOf 32 = .ok (.iload 6, 2) := by decide +kernel
theorem dX4_findCounterexampleOf_34 : decode cX4_findCounterexampleOf 34 = .ok (.ishl, 1) := by decide +kernel
theorem dX4_findCounterexampleOf_35 : decode cX4_findCounterexampleOf 35 = .ok (.iand, 1) := by decide +kernel
theorem dX4_findCounterexampleOf_36 : decode cX4_findCounterexampleOf 36 = .ok (.ifCond .eq 20, 3) := by decide +kernel
theorem dX4_findCounterexampleOf_39 : decode cX4_findCounterexampleOf 39 = .ok (.aload_n 2, 1) := by decide +kernel
theorem dX4_findCounterexampleOf_40 : decode cX4_findCounterexampleOf 40 = .ok (.aload_n 1, 1) := by decide +kernel
theorem dX4_findCounterexampleOf_41 : decode cX4_findCounterexampleOf 41 = .ok (.invokevirtual 72, 3) := by decide +kernel
theorem dX4_findCounterexampleOf_44 : decode cX4_findCounterexampleOf 44 = .ok (.ifCond .eq 12, 3) := by decide +kernel
theorem dX4_findCounterexampleOf_47 : decode cX4_findCounterexampleOf 47 = .ok (.aload_n 0, 1) := by decide +kernel
theorem dX4_findCounterexampleOf_48 : decode cX4_findCounterexampleOf 48 = .ok (.aload_n 1, 1) := by decide +kernel
theorem dX4_findCounterexampleOf_49 : decode cX4_findCounterexampleOf 49 = .ok (.invokevirtual 76, 3) := by decide +kernel
theorem dX4_findCounterexampleOf_52 : decode cX4_findCounterexampleOf 52 = .ok (.putfield 29, 3) := by decide +kernel
theorem dX4_findCounterexampleOf_55 : decode cX4_findCounterexampleOf 55 = .ok (.return_, 1) := by decide +kernel
theorem dX4_findCounterexampleOf_56 : decode cX4_findCounterexampleOf 56 = .ok (.aload_n 1, 1) := by decide +kernel
theorem dX4_findCounterexampleOf_57 : decode cX4_findCounterexampleOf 57 = .ok (.invokevirtual 80, 3) := by decide +kernel
theorem dX4_findCounterexampleOf_60 : decode cX4_findCounterexampleOf 60 = .ok (.istore 4, 2) := by decide +kernel
theorem dX4_findCounterexampleOf_62 : decode cX4_findCounterexampleOf 62 = .ok (.iinc 5 1, 3) := by decide +kernel
theorem dX4_findCounterexampleOf_65 : decode cX4_findCounterexampleOf 65 = .ok (.goto (-59), 3) := by decide +kernel
theorem dX4_findCounterexampleOf_68 : decode cX4_findCounterexampleOf 68 = .ok (.return_, 1) := by decide +kernel
theorem dX5_init_0 : decode cX5_init 0 = .ok (.aload_n 0, 1) := by decide +kernel
theorem dX5_init_1 : decode cX5_init 1 = .ok (.invokespecial 3, 3) := by decide +kernel
theorem dX5_init_4 : decode cX5_init 4 = .ok (.aload_n 0, 1) := by decide +kernel
theorem dX5_init_5 : decode cX5_init 5 = .ok (.iload_n 1, 1) := by decide +kernel
theorem dX5_init_6 : decode cX5_init 6 = .ok (.newarray .int, 2) := by decide +kernel
theorem dX5_init_8 : decode cX5_init 8 = .ok (.putfield 9, 3) := by decide +kernel
theorem dX5_init_11 : decode cX5_init 11 = .ok (.return_, 1) := by decide +kernel
theorem dX5_count_0 : decode cX5_count 0 = .ok (.aload_n 0, 1) := by decide +kernel
theorem dX5_count_1 : decode cX5_count 1 = .ok (.getfield 9, 3) := by decide +kernel
theorem dX5_count_4 : decode cX5_count 4 = .ok (.arraylength, 1) := by decide +kernel
theorem dX5_count_5 : decode cX5_count 5 = .ok (.ireturn, 1) := by decide +kernel
theorem dX5_giveAll_0 : decode cX5_giveAll 0 = .ok (.iconst 0, 1) := by decide +kernel
theorem dX5_giveAll_1 : decode cX5_giveAll 1 = .ok (.istore_n 1, 1) := by decide +kernel
theorem dX5_giveAll_2 : decode cX5_giveAll 2 = .ok (.iload_n 1, 1) := by decide +kernel
theorem dX5_giveAll_3 : decode cX5_giveAll 3 = .ok (.aload_n 0, 1) := by decide +kernel
theorem dX5_giveAll_4 : decode cX5_giveAll 4 = .ok (.getfield 9, 3) := by decide +kernel
theorem dX5_giveAll_7 : decode cX5_giveAll 7 = .ok (.arraylength, 1) := by decide +kernel
theorem dX5_giveAll_8 : decode cX5_giveAll 8 = .ok (.if_icmp .ge 24, 3) := by decide +kernel
theorem dX5_giveAll_11 : decode cX5_giveAll 11 = .ok (.aload_n 0, 1) := by decide +kernel
theorem dX5_giveAll_12 : decode cX5_giveAll 12 = .ok (.getfield 9, 3) := by decide +kernel
theorem dX5_giveAll_15 : decode cX5_giveAll 15 = .ok (.iload_n 1, 1) := by decide +kernel
theorem dX5_giveAll_16 : decode cX5_giveAll 16 = .ok (.iconst 1, 1) := by decide +kernel
theorem dX5_giveAll_17 : decode cX5_giveAll 17 = .ok (.aload_n 0, 1) := by decide +kernel
theorem dX5_giveAll_18 : decode cX5_giveAll 18 = .ok (.getfield 9, 3) := by decide +kernel
theorem dX5_giveAll_21 : decode cX5_giveAll 21 = .ok (.arraylength, 1) := by decide +kernel
theorem dX5_giveAll_22 : decode cX5_giveAll 22 = .ok (.ishl, 1) := by decide +kernel
theorem dX5_giveAll_23 : decode cX5_giveAll 23 = .ok (.iconst 1, 1) := by decide +kernel
theorem dX5_giveAll_24 : decode cX5_giveAll 24 = .ok (.isub, 1) := by decide +kernel
theorem dX5_giveAll_25 : decode cX5_giveAll 25 = .ok (.iastore, 1) := by decide +kernel
theorem dX5_giveAll_26 : decode cX5_giveAll 26 = .ok (.iinc 1 1, 3) := by decide +kernel
theorem dX5_giveAll_29 : decode cX5_giveAll 29 = .ok (.goto (-27), 3) := by decide +kernel
theorem dX5_giveAll_32 : decode cX5_giveAll 32 = .ok (.return_, 1) := by decide +kernel
theorem dX5_isSomeoneWithout_0 : decode cX5_isSomeoneWithout 0 = .ok (.iconst 0, 1) := by decide +kernel
theorem dX5_isSomeoneWithout_1 : decode cX5_isSomeoneWithout 1 = .ok (.istore_n 1, 1) := by decide +kernel
theorem dX5_isSomeoneWithout_2 : decode cX5_isSomeoneWithout 2 = .ok (.iload_n 1, 1) := by decide +kernel
theorem dX5_isSomeoneWithout_3 : decode cX5_isSomeoneWithout 3 = .ok (.aload_n 0, 1) := by decide +kernel
theorem dX5_isSomeoneWithout_4 : decode cX5_isSomeoneWithout 4 = .ok (.getfield 9, 3) := by decide +kernel
theorem dX5_isSomeoneWithout_7 : decode cX5_isSomeoneWithout 7 = .ok (.arraylength, 1) := by decide +kernel
theorem dX5_isSomeoneWithout_8 : decode cX5_isSomeoneWithout 8 = .ok (.if_icmp .ge 20, 3) := by decide +kernel
theorem dX5_isSomeoneWithout_11 : decode cX5_isSomeoneWithout 11 = .ok (.aload_n 0, 1) := by decide +kernel
theorem dX5_isSomeoneWithout_12 : decode cX5_isSomeoneWithout 12 = .ok (.getfield 9, 3) := by decide +kernel
theorem dX5_isSomeoneWithout_15 : decode cX5_isSomeoneWithout 15 = .ok (.iload_n 1, 1) := by decide +kernel
theorem dX5_isSomeoneWithout_16 : decode cX5_isSomeoneWithout 16 = .ok (.iaload, 1) := by decide +kernel
theorem dX5_isSomeoneWithout_17 : decode cX5_isSomeoneWithout 17 = .ok (.ifCond .ne 5, 3) := by decide +kernel
theorem dX5_isSomeoneWithout_20 : decode cX5_isSomeoneWithout 20 = .ok (.iconst 1, 1) := by decide +kernel
theorem dX5_isSomeoneWithout_21 : decode cX5_isSomeoneWithout 21 = .ok (.ireturn, 1) := by decide +kernel
theorem dX5_isSomeoneWithout_22 : decode cX5_isSomeoneWithout 22 = .ok (.iinc 1 1, 3) := by decide +kernel
theorem dX5_isSomeoneWithout_25 : decode cX5_isSomeoneWithout 25 = .ok (.goto (-23), 3) := by decide +kernel
theorem dX5_isSomeoneWithout_28 : decode cX5_isSomeoneWithout 28 = .ok (.iconst 0, 1) := by decide +kernel
theorem dX5_isSomeoneWithout_29 : decode cX5_isSomeoneWithout 29 = .ok (.ireturn, 1) := by decide +kernel
theorem dX5_hasEachOne_0 : decode cX5_hasEachOne 0 = .ok (.iconst 0, 1) := by decide +kernel
theorem dX5_hasEachOne_1 : decode cX5_hasEachOne 1 = .ok (.istore_n 1, 1) := by decide +kernel
theorem dX5_hasEachOne_2 : decode cX5_hasEachOne 2 = .ok (.iload_n 1, 1) := by decide +kernel
theorem dX5_hasEachOne_3 : decode cX5_hasEachOne 3 = .ok (.aload_n 0, 1) := by decide +kernel
theorem dX5_hasEachOne_4 : decode cX5_hasEachOne 4 = .ok (.getfield 9, 3) := by decide +kernel
theorem dX5_hasEachOne_7 : decode cX5_hasEachOne 7 = .ok (.arraylength, 1) := by decide +kernel
theorem dX5_hasEachOne_8 : decode cX5_hasEachOne 8 = .ok (.if_icmp .ge 24, 3) := by decide +kernel
theorem dX5_hasEachOne_11 : decode cX5_hasEachOne 11 = .ok (.aload_n 0, 1) := by decide +kernel
theorem dX5_hasEachOne_12 : decode cX5_hasEachOne 12 = .ok (.getfield 9, 3) := by decide +kernel
theorem dX5_hasEachOne_15 : decode cX5_hasEachOne 15 = .ok (.iload_n 1, 1) := by decide +kernel
theorem dX5_hasEachOne_16 : decode cX5_hasEachOne 16 = .ok (.iaload, 1) := by decide +kernel
theorem dX5_hasEachOne_17 : decode cX5_hasEachOne 17 = .ok (.invokestatic 15, 3) := by decide +kernel
theorem dX5_hasEachOne_20 : decode cX5_hasEachOne 20 = .ok (.iconst 1, 1) := by decide +kernel
theorem dX5_hasEachOne_21 : decode cX5_hasEachOne 21 = .ok (.if_icmp .eq 5, 3) := by decide +kernel
theorem dX5_hasEachOne_24 : decode cX5_hasEachOne 24 = .ok (.iconst 0, 1) := by decide +kernel
theorem dX5_hasEachOne_25 : decode cX5_hasEachOne 25 = .ok (.ireturn, 1) := by decide +kernel
theorem dX5_hasEachOne_26 : decode cX5_hasEachOne 26 = .ok (.iinc 1 1, 3) := by decide +kernel
theorem dX5_hasEachOne_29 : decode cX5_hasEachOne 29 = .ok (.goto (-27), 3) := by decide +kernel
theorem dX5_hasEachOne_32 : decode cX5_hasEachOne 32 = .ok (.iconst 1, 1) := by decide +kernel
theorem dX5_hasEachOne_33 : decode cX5_hasEachOne 33 = .ok (.ireturn, 1) := by decide +kernel
theorem dX5_takeByClue_0 : decode cX5_takeByClue 0 = .ok (.aload_n 1, 1) := by decide +kernel
theorem dX5_takeByClue_1 : decode cX5_takeByClue 1 = .ok (.getfield 21, 3) := by decide +kernel
theorem dX5_takeByClue_4 : decode cX5_takeByClue 4 = .ok (.lookupswitch 149 #[(98, 92), (100, 132), (108, 119), (110, 105), (112, 60), (120, 75)], 60) := by decide +kernel
theorem dX5_takeByClue_64 : decode cX5_takeByClue 64 = .ok (.aload_n 0, 1) := by decide +kernel
theorem dX5_takeByClue_65 : decode cX5_takeByClue 65 = .ok (.aload_n 1, 1) := by decide +kernel
theorem dX5_takeByClue_66 : decode cX5_takeByClue 66 = .ok (.getfield 27, 3) := by decide +kernel
theorem dX5_takeByClue_69 : decode cX5_takeByClue 69 = .ok (.iconst 1, 1) := by decide +kernel
theorem dX5_takeByClue_70 : decode cX5_takeByClue 70 = .ok (.aload_n 1, 1) := by decide +kernel
theorem dX5_takeByClue_71 : decode cX5_takeByClue 71 = .ok (.getfield 31, 3) := by decide +kernel
theorem dX5_takeByClue_74 : decode cX5_takeByClue 74 = .ok (.ishl, 1) := by decide +kernel
theorem dX5_takeByClue_75 : decode cX5_takeByClue 75 = .ok (.invokevirtual 34, 3) := by decide +kernel
theorem dX5_takeByClue_78 : decode cX5_takeByClue 78 = .ok (.ireturn, 1) := by decide +kernel
theorem dX5_takeByClue_79 : decode cX5_takeByClue 79 = .ok (.aload_n 0, 1) := by decide +kernel
theorem dX5_takeByClue_80 : decode cX5_takeByClue 80 = .ok (.aload_n 1, 1) := by decide +kernel
theorem dX5_takeByClue_81 : decode cX5_takeByClue 81 = .ok (.getfield 27, 3) := by decide +kernel
theorem dX5_takeByClue_84 : decode cX5_takeByClue 84 = .ok (.iconst 1, 1) := by decide +kernel
theorem dX5_takeByClue_85 : decode cX5_takeByClue 85 = .ok (.aload_n 1, 1) := by decide +kernel
theorem dX5_takeByClue_86 : decode cX5_takeByClue 86 = .ok (.getfield 31, 3) := by decide +kernel
theorem dX5_takeByClue_89 : decode cX5_takeByClue 89 = .ok (.ishl, 1) := by decide +kernel
theorem dX5_takeByClue_90 : decode cX5_takeByClue 90 = .ok (.iconst (-1), 1) := by decide +kernel
theorem dX5_takeByClue_91 : decode cX5_takeByClue 91 = .ok (.ixor, 1) := by decide +kernel
theorem dX5_takeByClue_92 : decode cX5_takeByClue 92 = .ok (.invokevirtual 34, 3) := by decide +kernel
theorem dX5_takeByClue_95 : decode cX5_takeByClue 95 = .ok (.ireturn, 1) := by decide +kernel
theorem dX5_takeByClue_96 : decode cX5_takeByClue 96 = .ok (.aload_n 0, 1) := by decide +kernel
theorem dX5_takeByClue_97 : decode cX5_takeByClue 97 = .ok (.aload_n 1, 1) := by decide +kernel
theorem dX5_takeByClue_98 : decode cX5_takeByClue 98 = .ok (.getfield 27, 3) := by decide +kernel
theorem dX5_takeByClue_101 : decode cX5_takeByClue 101 = .ok (.aload_n 1, 1) := by decide +kernel
theorem dX5_takeByClue_102 : decode cX5_takeByClue 102 = .ok (.getfield 31, 3) := by decide +kernel
theorem dX5_takeByClue_105 : decode cX5_takeByClue 105 = .ok (.invokevirtual 38, 3) := by decide +kernel
theorem dX5_takeByClue_108 : decode cX5_takeByClue 108 = .ok (.ireturn, 1) := by decide +kernel
theorem dX5_takeByClue_109 : decode cX5_takeByClue 109 = .ok (.aload_n 0, 1) := by decide +kernel
theorem dX5_takeByClue_110 : decode cX5_takeByClue 110 = .ok (.aload_n 1, 1) := by decide +kernel
theorem dX5_takeByClue_111 : decode cX5_takeByClue 111 = .ok (.getfield 27, 3) := by decide +kernel
theorem dX5_takeByClue_114 : decode cX5_takeByClue 114 = .ok (.aload_n 1, 1) := by decide +kernel
theorem dX5_takeByClue_115 : decode cX5_takeByClue 115 = .ok (.getfield 31, 3) := by decide +kernel
theorem dX5_takeByClue_118 : decode cX5_takeByClue 118 = .ok (.iconst 1, 1) := by decide +kernel
theorem dX5_takeByClue_119 : decode cX5_takeByClue 119 = .ok (.invokevirtual 41, 3) := by decide +kernel
theorem dX5_takeByClue_122 : decode cX5_takeByClue 122 = .ok (.ireturn, 1) := by decide +kernel
theorem dX5_takeByClue_123 : decode cX5_takeByClue 123 = .ok (.aload_n 0, 1) := by decide +kernel
theorem dX5_takeByClue_124 : decode cX5_takeByClue 124 = .ok (.aload_n 1, 1) := by decide +kernel
theorem dX5_takeByClue_125 : decode cX5_takeByClue 125 = .ok (.getfield 27, 3) := by decide +kernel
theorem dX5_takeByClue_128 : decode cX5_takeByClue 128 = .ok (.aload_n 1, 1) := by decide +kernel
theorem dX5_takeByClue_129 : decode cX5_takeByClue 129 = .ok (.getfield 31, 3) := by decide +kernel
theorem dX5_takeByClue_132 : decode cX5_takeByClue 132 = .ok (.invokevirtual 45, 3) := by decide +kernel
theorem dX5_takeByClue_135 : decode cX5_takeByClue 135 = .ok (.ireturn, 1) := by decide +kernel
theorem dX5_takeByClue_136 : decode cX5_takeByClue 136 = .ok (.aload_n 0, 1) := by decide +kernel
theorem dX5_takeByClue_137 : decode cX5_takeByClue 137 = .ok (.aload_n 1, 1) := by decide +kernel
theorem dX5_takeByClue_138 : decode cX5_takeByClue 138 = .ok (.getfield 27, 3) := by decide +kernel
theorem dX5_takeByClue_141 : decode cX5_takeByClue 141 = .ok (.aload_n 1, 1) := by decide +kernel
theorem dX5_takeByClue_142 : decode cX5_takeByClue 142 = .ok (.getfield 31, 3) := by decide +kernel
theorem dX5_takeByClue_145 : decode cX5_takeByClue 145 = .ok (.aload_n 1, 1) := by decide +kernel
theorem dX5_takeByClue_146 : decode cX5_takeByClue 146 = .ok (.getfield 48, 3) := by decide +kernel
theorem dX5_takeByClue_149 : decode cX5_takeByClue 149 = .ok (.invokevirtual 41, 3) := by decide +kernel
theorem dX5_takeByClue_152 : decode cX5_takeByClue 152 = .ok (.ireturn, 1) := by decide +kernel
theorem dX5_takeByClue_153 : decode cX5_takeByClue 153 = .ok (.aload_n 0, 1) := by decide +kernel
theorem dX5_takeByClue_154 : decode cX5_takeByClue 154 = .ok (.aload_n 1, 1) := by decide +kernel
theorem dX5_takeByClue_155 : decode cX5_takeByClue 155 = .ok (.getfield 27, 3) := by decide +kernel
theorem dX5_takeByClue_158 : decode cX5_takeByClue 158 = .ok (.aload_n 1, 1) := by decide +kernel
theorem dX5_takeByClue_159 : decode cX5_takeByClue 159 = .ok (.getfield 31, 3) := by decide +kernel
theorem dX5_takeByClue_162 : decode cX5_takeByClue 162 = .ok (.aload_n 1, 1) := by decide +kernel
theorem dX5_takeByClue_163 : decode cX5_takeByClue 163 = .ok (.getfield 48, 3) := by decide +kernel
theorem dX5_takeByClue_166 : decode cX5_takeByClue 166 = .ok (.invokevirtual 51, 3) := by decide +kernel
theorem dX5_takeByClue_169 : decode cX5_takeByClue 169 = .ok (.ireturn, 1) := by decide +kernel
theorem dX5_takeByOwnRule_0 : decode cX5_takeByOwnRule 0 = .ok (.aload_n 1, 1) := by decide +kernel
theorem dX5_takeByOwnRule_1 : decode cX5_takeByOwnRule 1 = .ok (.getfield 54, 3) := by decide +kernel
theorem dX5_takeByOwnRule_4 : decode cX5_takeByOwnRule 4 = .ok (.aload_n 2, 1) := by decide +kernel
theorem dX5_takeByOwnRule_5 : decode cX5_takeByOwnRule 5 = .ok (.getfield 21, 3) := by decide +kernel
theorem dX5_takeByOwnRule_8 : decode cX5_takeByOwnRule 8 = .ok (.if_icmp .eq 5, 3) := by decide +kernel
theorem dX5_takeByOwnRule_11 : decode cX5_takeByOwnRule 11 = .ok (.iconst 0, 1) := by decide +kernel
theorem dX5_takeByOwnRule_12 : decode cX5_takeByOwnRule 12 = .ok (.ireturn, 1) := by decide +kernel
theorem dX5_takeByOwnRule_13 : decode cX5_takeByOwnRule 13 = .ok (.aload_n 0, 1) := by decide +kernel
theorem dX5_takeByOwnRule_14 : decode cX5_takeByOwnRule 14 = .ok (.aload_n 1, 1) := by decide +kernel
theorem dX5_takeByOwnRule_15 : decode cX5_takeByOwnRule 15 = .ok (.aload_n 2, 1) := by decide +kernel
theorem dX5_takeByOwnRule_16 : decode cX5_takeByOwnRule 16 = .ok (.invokevirtual 57, 3) := by decide +kernel
theorem dX5_takeByOwnRule_19 : decode cX5_takeByOwnRule 19 = .ok (.aload_n 1, 1) := by decide +kernel
theorem dX5_takeByOwnRule_20 : decode cX5_takeByOwnRule 20 = .ok (.aload_n 0, 1) := by decide +kernel
theorem dX5_takeByOwnRule_21 : decode cX5_takeByOwnRule 21 = .ok (.getfield 9, 3) := by decide +kernel
theorem dX5_takeByOwnRule_24 : decode cX5_takeByOwnRule 24 = .ok (.arraylength, 1) := by decide +kernel
theorem dX5_takeByOwnRule_25 : decode cX5_takeByOwnRule 25 = .ok (.invokevirtual 61, 3) := by decide +kernel
theorem dX5_takeByOwnRule_28 : decode cX5_takeByOwnRule 28 = .ok (.iconst (-1), 1) := by decide +kernel
theorem dX5_takeByOwnRule_29 : decode cX5_takeByOwnRule 29 = .ok (.ixor, 1) := by decide +kernel
theorem dX5_takeByOwnRule_30 : decode cX5_takeByOwnRule 30 = .ok (.invokevirtual 34, 3) := by decide +kernel
theorem dX5_takeByOwnRule_33 : decode cX5_takeByOwnRule 33 = .ok (.ireturn, 1) := by decide +kernel
theorem dX5_takeByPerson_0 : decode cX5_takeByPerson 0 = .ok (.aload_n 0, 1) := by decide +kernel
theorem dX5_takeByPerson_1 : decode cX5_takeByPerson 1 = .ok (.iload_n 1, 1) := by decide +kernel
theorem dX5_takeByPerson_2 : decode cX5_takeByPerson 2 = .ok (.invokevirtual 64, 3) := by decide +kernel
theorem dX5_takeByPerson_5 : decode cX5_takeByPerson 5 = .ok (.istore_n 2, 1) := by decide +kernel
theorem dX5_takeByPerson_6 : decode cX5_takeByPerson 6 = .ok (.iload_n 2, 1) := by decide +kernel
theorem dX5_takeByPerson_7 : decode cX5_takeByPerson 7 = .ok (.invokestatic 15, 3) := by decide +kernel
theorem dX5_takeByPerson_10 : decode cX5_takeByPerson 10 = .ok (.iconst 1, 1) := by decide +kernel
theorem dX5_takeByPerson_11 : decode cX5_takeByPerson 11 = .ok (.if_icmp .eq 5, 3) := by decide +kernel
theorem dX5_takeByPerson_14 : decode cX5_takeByPerson 14 = .ok (.iconst 0, 1) := by decide +kernel
theorem dX5_takeByPerson_15 : decode cX5_takeByPerson 15 = .ok (.ireturn, 1) := by decide +kernel
theorem dX5_takeByPerson_16 : decode cX5_takeByPerson 16 = .ok (.aload_n 0, 1) := by decide +kernel
theorem dX5_takeByPerson_17 : decode cX5_takeByPerson 17 = .ok (.iload_n 1, 1) := by decide +kernel
theorem dX5_takeByPerson_18 : decode cX5_takeByPerson 18 = .ok (.iload_n 1, 1) := by decide +kernel
theorem dX5_takeByPerson_19 : decode cX5_takeByPerson 19 = .ok (.iload_n 2, 1) := by decide +kernel
theorem dX5_takeByPerson_20 : decode cX5_takeByPerson 20 = .ok (.invokevirtual 67, 3) := by decide +kernel
theorem dX5_takeByPerson_23 : decode cX5_takeByPerson 23 = .ok (.ireturn, 1) := by decide +kernel
theorem dX5_takeByPlace_0 : decode cX5_takeByPlace 0 = .ok (.iconst 0, 1) := by decide +kernel
theorem dX5_takeByPlace_1 : decode cX5_takeByPlace 1 = .ok (.istore_n 2, 1) := by decide +kernel
theorem dX5_takeByPlace_2 : decode cX5_takeByPlace 2 = .ok (.iconst 0, 1) := by decide +kernel
theorem dX5_takeByPlace_3 : decode cX5_takeByPlace 3 = .ok (.istore_n 3, 1) := by decide +kernel
theorem dX5_takeByPlace_4 : decode cX5_takeByPlace 4 = .ok (.iconst 0, 1) := by decide +kernel
theorem dX5_takeByPlace_5 : decode cX5_takeByPlace 5 = .ok (.istore 4, 2) := by decide +kernel
theorem dX5_takeByPlace_7 : decode cX5_takeByPlace 7 = .ok (.iload 4, 2) := by decide +kernel
theorem dX5_takeByPlace_9 : decode cX5_takeByPlace 9 = .ok (.aload_n 0, 1) := by decide +kernel
theorem dX5_takeByPlace_10 : decode cX5_takeByPlace 10 = .ok (.getfield 9, 3) := by decide +kernel
theorem dX5_takeByPlace_13 : decode cX5_takeByPlace 13 = .ok (.arraylength, 1) := by decide +kernel
theorem dX5_takeByPlace_14 : decode cX5_takeByPlace 14 = .ok (.if_icmp .ge 29, 3) := by decide +kernel
theorem dX5_takeByPlace_17 : decode cX5_takeByPlace 17 = .ok (.aload_n 0, 1) := by decide +kernel
theorem dX5_takeByPlace_18 : decode cX5_takeByPlace 18 = .ok (.getfield 9, 3) := by decide +kernel
theorem dX5_takeByPlace_21 : decode cX5_takeByPlace 21 = .ok (.iload 4, 2) := by decide +kernel
theorem dX5_takeByPlace_23 : decode cX5_takeByPlace 23 = .ok (.iaload, 1) := by decide +kernel
theorem dX5_takeByPlace_24 : decode cX5_takeByPlace 24 = .ok (.iconst 1, 1) := by decide +kernel
theorem dX5_takeByPlace_25 : decode cX5_takeByPlace 25 = .ok (.iload_n 1, 1) := by decide +kernel
theorem dX5_takeByPlace_26 : decode cX5_takeByPlace 26 = .ok (.ishl, 1) := by decide +kernel
theorem dX5_takeByPlace_27 : decode cX5_takeByPlace 27 = .ok (.iand, 1) := by decide +kernel
theorem dX5_takeByPlace_28 : decode cX5_takeByPlace 28 = .ok (.ifCond .eq 9, 3) := by decide +kernel
theorem dX5_takeByPlace_31 : decode cX5_takeByPlace 31 = .ok (.iinc 2 1, 3) := by decide +kernel
theorem dX5_takeByPlace_34 : decode cX5_takeByPlace 34 = .ok (.iload 4, 2) := by decide +kernel
theorem dX5_takeByPlace_36 : decode cX5_takeByPlace 36 = .ok (.istore_n 3, 1) := by decide +kernel
theorem dX5_takeByPlace_37 : decode cX5_takeByPlace 37 = .ok (.iinc 4 1, 3) := by decide +kernel
theorem dX5_takeByPlace_40 : decode cX5_takeByPlace 40 = .ok (.goto (-33), 3) := by decide +kernel
theorem dX5_takeByPlace_43 : decode cX5_takeByPlace 43 = .ok (.iload_n 2, 1) := by decide +kernel
theorem dX5_takeByPlace_44 : decode cX5_takeByPlace 44 = .ok (.iconst 1, 1) := by decide +kernel
theorem dX5_takeByPlace_45 : decode cX5_takeByPlace 45 = .ok (.if_icmp .ne 14, 3) := by decide +kernel
theorem dX5_takeByPlace_48 : decode cX5_takeByPlace 48 = .ok (.aload_n 0, 1) := by decide +kernel
theorem dX5_takeByPlace_49 : decode cX5_takeByPlace 49 = .ok (.iload_n 3, 1) := by decide +kernel
theorem dX5_takeByPlace_50 : decode cX5_takeByPlace 50 = .ok (.iconst 1, 1) := by decide +kernel
theorem dX5_takeByPlace_51 : decode cX5_takeByPlace 51 = .ok (.iload_n 1, 1) := by decide +kernel
theorem dX5_takeByPlace_52 : decode cX5_takeByPlace 52 = .ok (.ishl, 1) := by decide +kernel
theorem dX5_takeByPlace_53 : decode cX5_takeByPlace 53 = .ok (.invokevirtual 34, 3) := by decide +kernel
theorem dX5_takeByPlace_56 : decode cX5_takeByPlace 56 = .ok (.goto 4, 3) := by decide +kernel
theorem dX5_takeByPlace_59 : decode cX5_takeByPlace 59 = .ok (.iconst 0, 1) := by decide +kernel
theorem dX5_takeByPlace_60 : decode cX5_takeByPlace 60 = .ok (.ireturn, 1) := by decide +kernel
theorem dX5_takeByPair_0 : decode cX5_takeByPair 0 = .ok (.aload_n 0, 1) := by decide +kernel
theorem dX5_takeByPair_1 : decode cX5_takeByPair 1 = .ok (.iload_n 1, 1) := by decide +kernel
theorem dX5_takeByPair_2 : decode cX5_takeByPair 2 = .ok (.invokevirtual 64, 3) := by decide +kernel
theorem dX5_takeByPair_5 : decode cX5_takeByPair 5 = .ok (.istore_n 3, 1) := by decide +kernel
theorem dX5_takeByPair_6 : decode cX5_takeByPair 6 = .ok (.iload_n 3, 1) := by decide +kernel
theorem dX5_takeByPair_7 : decode cX5_takeByPair 7 = .ok (.aload_n 0, 1) := by decide +kernel
theorem dX5_takeByPair_8 : decode cX5_takeByPair 8 = .ok (.iload_n 2, 1) := by decide +kernel
theorem dX5_takeByPair_9 : decode cX5_takeByPair 9 = .ok (.invokevirtual 64, 3) := by decide +kernel
theorem dX5_takeByPair_12 : decode cX5_takeByPair 12 = .ok (.if_icmp .ne 11, 3) := by decide +kernel
theorem dX5_takeByPair_15 : decode cX5_takeByPair 15 = .ok (.iload_n 3, 1) := by decide +kernel
theorem dX5_takeByPair_16 : decode cX5_takeByPair 16 = .ok (.invokestatic 15, 3) := by decide +kernel
theorem dX5_takeByPair_19 : decode cX5_takeByPair 19 = .ok (.iconst 2, 1) := by decide +kernel
theorem dX5_takeByPair_20 : decode cX5_takeByPair 20 = .ok (.if_icmp .eq 5, 3) := by decide +kernel
theorem dX5_takeByPair_23 : decode cX5_takeByPair 23 = .ok (.iconst 0, 1) := by decide +kernel
theorem dX5_takeByPair_24 : decode cX5_takeByPair 24 = .ok (.ireturn, 1) := by decide +kernel
theorem dX5_takeByPair_25 : decode cX5_takeByPair 25 = .ok (.aload_n 0, 1) := by decide +kernel
theorem dX5_takeByPair_26 : decode cX5_takeByPair 26 = .ok (.iload_n 1, 1) := by decide +kernel
theorem dX5_takeByPair_27 : decode cX5_takeByPair 27 = .ok (.iload_n 2, 1) := by decide +kernel
theorem dX5_takeByPair_28 : decode cX5_takeByPair 28 = .ok (.iload_n 3, 1) := by decide +kernel
theorem dX5_takeByPair_29 : decode cX5_takeByPair 29 = .ok (.invokevirtual 67, 3) := by decide +kernel
theorem dX5_takeByPair_32 : decode cX5_takeByPair 32 = .ok (.ireturn, 1) := by decide +kernel
theorem dX5_takeFromOthers_0 : decode cX5_takeFromOthers 0 = .ok (.iconst 0, 1) := by decide +kernel
theorem dX5_takeFromOthers_1 : decode cX5_takeFromOthers 1 = .ok (.istore 4, 2) := by decide +kernel
theorem dX5_takeFromOthers_3 : decode cX5_takeFromOthers 3 = .ok (.iconst 0, 1) := by decide +kernel
theorem dX5_takeFromOthers_4 : decode cX5_takeFromOthers 4 = .ok (.istore 5, 2) := by decide +kernel
theorem dX5_takeFromOthers_6 : decode cX5_takeFromOthers 6 = .ok (.iload 5, 2) := by decide +kernel
theorem dX5_takeFromOthers_8 : decode cX5_takeFromOthers 8 = .ok (.aload_n 0, 1) := by decide +kernel
theorem dX5_takeFromOthers_9 : decode cX5_takeFromOthers 9 = .ok (.getfield 9, 3) := by decide +kernel
theorem dX5_takeFromOthers_12 : decode cX5_takeFromOthers 12 = .ok (.arraylength, 1) := by decide +kernel
theorem dX5_takeFromOthers_13 : decode cX5_takeFromOthers 13 = .ok (.if_icmp .ge 35, 3) := by decide +kernel
theorem dX5_takeFromOthers_16 : decode cX5_takeFromOthers 16 = .ok (.iload 5, 2) := by decide +kernel
theorem dX5_takeFromOthers_18 : decode cX5_takeFromOthers 18 = .ok (.iload_n 1, 1) := by decide +kernel
theorem dX5_takeFromOthers_19 : decode cX5_takeFromOthers 19 = .ok (.if_icmp .eq 23, 3) := by decide +kernel
theorem dX5_takeFromOthers_22 : decode cX5_takeFromOthers 22 = .ok (.iload 5, 2) := by decide +kernel
theorem dX5_takeFromOthers_24 : decode cX5_takeFromOthers 24 = .ok (.iload_n 2, 1) := by decide +kernel
theorem dX5_takeFromOthers_25 : decode cX5_takeFromOthers 25 = .ok (.if_icmp .eq 17, 3) := by decide +kernel
theorem dX5_takeFromOthers_28 : decode cX5_takeFromOthers 28 = .ok (.iload 4, 2) := by decide +kernel
theorem dX5_takeFromOthers_30 : decode cX5_takeFromOthers 30 = .ok (.aload_n 0, 1) := by decide +kernel
theorem dX5_takeFromOthers_31 : decode cX5_takeFromOthers 31 = .ok (.iload 5, 2) := by decide +kernel
theorem dX5_takeFromOthers_33 : decode cX5_takeFromOthers 33 = .ok (.iload_n 3, 1) := by decide +kernel
theorem dX5_takeFromOthers_34 : decode cX5_takeFromOthers 34 = .ok (.iconst (-1), 1) := by decide +kernel
theorem dX5_takeFromOthers_35 : decode cX5_takeFromOthers 35 = .ok (.ixor, 1) := by decide +kernel
theorem dX5_takeFromOthers_36 : decode cX5_takeFromOthers 36 = .ok (.invokevirtual 34, 3) := by decide +kernel
theorem dX5_takeFromOthers_39 : decode cX5_takeFromOthers 39 = .ok (.iadd, 1) := by decide +kernel
theorem dX5_takeFromOthers_40 : decode cX5_takeFromOthers 40 = .ok (.istore 4, 2) := by decide +kernel
theorem dX5_takeFromOthers_42 : decode cX5_takeFromOthers 42 = .ok (.iinc 5 1, 3) := by decide +kernel
theorem dX5_takeFromOthers_45 : decode cX5_takeFromOthers 45 = .ok (.goto (-39), 3) := by decide +kernel
theorem dX5_takeFromOthers_48 : decode cX5_takeFromOthers 48 = .ok (.iload 4, 2) := by decide +kernel
theorem dX5_takeFromOthers_50 : decode cX5_takeFromOthers 50 = .ok (.ireturn, 1) := by decide +kernel
theorem dX5_takeByBefore_0 : decode cX5_takeByBefore 0 = .ok (.aload_n 0, 1) := by decide +kernel
theorem dX5_takeByBefore_1 : decode cX5_takeByBefore 1 = .ok (.iload_n 1, 1) := by decide +kernel
theorem dX5_takeByBefore_2 : decode cX5_takeByBefore 2 = .ok (.aload_n 0, 1) := by decide +kernel
theorem dX5_takeByBefore_3 : decode cX5_takeByBefore 3 = .ok (.iload_n 2, 1) := by decide +kernel
theorem dX5_takeByBefore_4 : decode cX5_takeByBefore 4 = .ok (.invokevirtual 64, 3) := by decide +kernel
theorem dX5_takeByBefore_7 : decode cX5_takeByBefore 7 = .ok (.invokestatic 70, 3) := by decide +kernel
theorem dX5_takeByBefore_10 : decode cX5_takeByBefore 10 = .ok (.invokevirtual 34, 3) := by decide +kernel
theorem dX5_takeByBefore_13 : decode cX5_takeByBefore 13 = .ok (.istore_n 3, 1) := by decide +kernel
theorem dX5_takeByBefore_14 : decode cX5_takeByBefore 14 = .ok (.iload_n 3, 1) := by decide +kernel
theorem dX5_takeByBefore_15 : decode cX5_takeByBefore 15 = .ok (.aload_n 0, 1) := by decide +kernel
theorem dX5_takeByBefore_16 : decode cX5_takeByBefore 16 = .ok (.iload_n 2, 1) := by decide +kernel
theorem dX5_takeByBefore_17 : decode cX5_takeByBefore 17 = .ok (.aload_n 0, 1) := by decide +kernel
theorem dX5_takeByBefore_18 : decode cX5_takeByBefore 18 = .ok (.iload_n 1, 1) := by decide +kernel
theorem dX5_takeByBefore_19 : decode cX5_takeByBefore 19 = .ok (.invokevirtual 64, 3) := by decide +kernel
theorem dX5_takeByBefore_22 : decode cX5_takeByBefore 22 = .ok (.invokestatic 73, 3) := by decide +kernel
theorem dX5_takeByBefore_25 : decode cX5_takeByBefore 25 = .ok (.invokevirtual 34, 3) := by decide +kernel
theorem dX5_takeByBefore_28 : decode cX5_takeByBefore 28 = .ok (.iadd, 1) := by decide +kernel
theorem dX5_takeByBefore_29 : decode cX5_takeByBefore 29 = .ok (.ireturn, 1) := by decide +kernel
theorem dX5_takeByDistance_0 : decode cX5_takeByDistance 0 = .ok (.aload_n 0, 1) := by decide +kernel
theorem dX5_takeByDistance_1 : decode cX5_takeByDistance 1 = .ok (.iload_n 1, 1) := by decide +kernel
theorem dX5_takeByDistance_2 : decode cX5_takeByDistance 2 = .ok (.aload_n 0, 1) := by decide +kernel
theorem dX5_takeByDistance_3 : decode cX5_takeByDistance 3 = .ok (.iload_n 2, 1) := by decide +kernel
theorem dX5_takeByDistance_4 : decode cX5_takeByDistance 4 = .ok (.invokevirtual 64, 3) := by decide +kernel
theorem dX5_takeByDistance_7 : decode cX5_takeByDistance 7 = .ok (.iload_n 3, 1) := by decide +kernel
theorem dX5_takeByDistance_8 : decode cX5_takeByDistance 8 = .ok (.ishl, 1) := by decide +kernel
theorem dX5_takeByDistance_9 : decode cX5_takeByDistance 9 = .ok (.aload_n 0, 1) := by decide +kernel
theorem dX5_takeByDistance_10 : decode cX5_takeByDistance 10 = .ok (.iload_n 2, 1) := by decide +kernel
theorem dX5_takeByDistance_11 : decode cX5_takeByDistance 11 = .ok (.invokevirtual 64, 3) := by decide +kernel
theorem dX5_takeByDistance_14 : decode cX5_takeByDistance 14 = .ok (.iload_n 3, 1) := by decide +kernel
theorem dX5_takeByDistance_15 : decode cX5_takeByDistance 15 = .ok (.ishr, 1) := by decide +kernel
theorem dX5_takeByDistance_16 : decode cX5_takeByDistance 16 = .ok (.ior, 1) := by decide +kernel
theorem dX5_takeByDistance_17 : decode cX5_takeByDistance 17 = .ok (.invokevirtual 34, 3) := by decide +kernel
theorem dX5_takeByDistance_20 : decode cX5_takeByDistance 20 = .ok (.istore 4, 2) := by decide +kernel
theorem dX5_takeByDistance_22 : decode cX5_takeByDistance 22 = .ok (.iload 4, 2) := by decide +kernel
theorem dX5_takeByDistance_24 : decode cX5_takeByDistance 24 = .ok (.aload_n 0, 1) := by decide +kernel
theorem dX5_takeByDistance_25 : decode cX5_takeByDistance 25 = .ok (.iload_n 2, 1) := by decide +kernel
theorem dX5_takeByDistance_26 : decode cX5_takeByDistance 26 = .ok (.aload_n 0, 1) := by decide +kernel
theorem dX5_takeByDistance_27 : decode cX5_takeByDistance 27 = .ok (.iload_n 1, 1) := by decide +kernel
theorem dX5_takeByDistance_28 : decode cX5_takeByDistance 28 = .ok (.invokevirtual 64, 3) := by decide +kernel
theorem dX5_takeByDistance_31 : decode cX5_takeByDistance 31 = .ok (.iload_n 3, 1) := by decide +kernel
theorem dX5_takeByDistance_32 : decode cX5_takeByDistance 32 = .ok (.ishl, 1) := by decide +kernel
theorem dX5_takeByDistance_33 : decode cX5_takeByDistance 33 = .ok (.aload_n 0, 1) := by decide +kernel
theorem dX5_takeByDistance_34 : decode cX5_takeByDistance 34 = .ok (.iload_n 1, 1) := by decide +kernel
theorem dX5_takeByDistance_35 : decode cX5_takeByDistance 35 = .ok (.invokevirtual 64, 3) := by decide +kernel
theorem dX5_takeByDistance_38 : decode cX5_takeByDistance 38 = .ok (.iload_n 3, 1) := by decide +kernel
theorem dX5_takeByDistance_39 : decode cX5_takeByDistance 39 = .ok (.ishr, 1) := by decide +kernel
theorem dX5_takeByDistance_40 : decode cX5_takeByDistance 40 = .ok (.ior, 1) := by decide +kernel
theorem dX5_takeByDistance_41 : decode cX5_takeByDistance 41 = .ok (.invokevirtual 34, 3) := by decide +kernel
theorem dX5_takeByDistance_44 : decode cX5_takeByDistance 44 = .ok (.iadd, 1) := by decide +kernel
theorem dX5_takeByDistance_45 : decode cX5_takeByDistance 45 = .ok (.ireturn, 1) := by decide +kernel
theorem dX5_takeByNextLeft_0 : decode cX5_takeByNextLeft 0 = .ok (.aload_n 0, 1) := by decide +kernel
theorem dX5_takeByNextLeft_1 : decode cX5_takeByNextLeft 1 = .ok (.iload_n 1, 1) := by decide +kernel
theorem dX5_takeByNextLeft_2 : decode cX5_takeByNextLeft 2 = .ok (.aload_n 0, 1) := by decide +kernel
theorem dX5_takeByNextLeft_3 : decode cX5_takeByNextLeft 3 = .ok (.iload_n 2, 1) := by decide +kernel
theorem dX5_takeByNextLeft_4 : decode cX5_takeByNextLeft 4 = .ok (.invokevirtual 64, 3) := by decide +kernel
theorem dX5_takeByNextLeft_7 : decode cX5_takeByNextLeft 7 = .ok (.iconst 1, 1) := by decide +kernel
theorem dX5_takeByNextLeft_8 : decode cX5_takeByNextLeft 8 = .ok (.ishr, 1) := by decide +kernel
theorem dX5_takeByNextLeft_9 : decode cX5_takeByNextLeft 9 = .ok (.invokevirtual 34, 3) := by decide +kernel
theorem dX5_takeByNextLeft_12 : decode cX5_takeByNextLeft 12 = .ok (.istore_n 3, 1) := by decide +kernel
theorem dX5_takeByNextLeft_13 : decode cX5_takeByNextLeft 13 = .ok (.iload_n 3, 1) := by decide +kernel
theorem dX5_takeByNextLeft_14 : decode cX5_takeByNextLeft 14 = .ok (.aload_n 0, 1) := by decide +kernel
theorem dX5_takeByNextLeft_15 : decode cX5_takeByNextLeft 15 = .ok (.iload_n 2, 1) := by decide +kernel
theorem dX5_takeByNextLeft_16 : decode cX5_takeByNextLeft 16 = .ok (.aload_n 0, 1) := by decide +kernel
theorem dX5_takeByNextLeft_17 : decode cX5_takeByNextLeft 17 = .ok (.iload_n 1, 1) := by decide +kernel
theorem dX5_takeByNextLeft_18 : decode cX5_takeByNextLeft 18 = .ok (.invokevirtual 64, 3) := by decide +kernel
theorem dX5_takeByNextLeft_21 : decode cX5_takeByNextLeft 21 = .ok (.iconst 1, 1) := by decide +kernel
theorem dX5_takeByNextLeft_22 : decode cX5_takeByNextLeft 22 = .ok (.ishl, 1) := by decide +kernel
theorem dX5_takeByNextLeft_23 : decode cX5_takeByNextLeft 23 = .ok (.invokevirtual 34, 3) := by decide +kernel
theorem dX5_takeByNextLeft_26 : decode cX5_takeByNextLeft 26 = .ok (.iadd, 1) := by decide +kernel
theorem dX5_takeByNextLeft_27 : decode cX5_takeByNextLeft 27 = .ok (.ireturn, 1) := by decide +kernel
theorem dX5_takeByBetween_0 : decode cX5_takeByBetween 0 = .ok (.aload_n 0, 1) := by decide +kernel
theorem dX5_takeByBetween_1 : decode cX5_takeByBetween 1 = .ok (.iload_n 1, 1) := by decide +kernel
theorem dX5_takeByBetween_2 : decode cX5_takeByBetween 2 = .ok (.invokevirtual 64, 3) := by decide +kernel
theorem dX5_takeByBetween_5 : decode cX5_takeByBetween 5 = .ok (.invokestatic 73, 3) := by decide +kernel
theorem dX5_takeByBetween_8 : decode cX5_takeByBetween 8 = .ok (.aload_n 0, 1) := by decide +kernel
theorem dX5_takeByBetween_9 : decode cX5_takeByBetween 9 = .ok (.iload_n 2, 1) := by decide +kernel
theorem dX5_takeByBetween_10 : decode cX5_takeByBetween 10 = .ok (.invokevirtual 64, 3) := by decide +kernel
theorem dX5_takeByBetween_13 : decode cX5_takeByBetween 13 = .ok (.invokestatic 70, 3) := by decide +kernel
theorem dX5_takeByBetween_16 : decode cX5_takeByBetween 16 = .ok (.iand, 1) := by decide +kernel
theorem dX5_takeByBetween_17 : decode cX5_takeByBetween 17 = .ok (.istore 4, 2) := by decide +kernel
theorem dX5_takeByBetween_19 : decode cX5_takeByBetween 19 = .ok (.aload_n 0, 1) := by decide +kernel
theorem dX5_takeByBetween_20 : decode cX5_takeByBetween 20 = .ok (.iload_n 2, 1) := by decide +kernel
theorem dX5_takeByBetween_21 : decode cX5_takeByBetween 21 = .ok (.invokevirtual 64, 3) := by decide +kernel
theorem dX5_takeByBetween_24 : decode cX5_takeByBetween 24 = .ok (.invokestatic 73, 3) := by decide +kernel
theorem dX5_takeByBetween_27 : decode cX5_takeByBetween 27 = .ok (.aload_n 0, 1) := by decide +kernel
theorem dX5_takeByBetween_28 : decode cX5_takeByBetween 28 = .ok (.iload_n 1, 1) := by decide +kernel
theorem dX5_takeByBetween_29 : decode cX5_takeByBetween 29 = .ok (.invokevirtual 64, 3) := by decide +kernel
theorem dX5_takeByBetween_32 : decode cX5_takeByBetween 32 = .ok (.invokestatic 70, 3) := by decide +kernel
theorem dX5_takeByBetween_35 : decode cX5_takeByBetween 35 = .ok (.iand, 1) := by decide +kernel
theorem dX5_takeByBetween_36 : decode cX5_takeByBetween 36 = .ok (.istore 5, 2) := by decide +kernel
theorem dX5_takeByBetween_38 : decode cX5_takeByBetween 38 = .ok (.aload_n 0, 1) := by decide +kernel
theorem dX5_takeByBetween_39 : decode cX5_takeByBetween 39 = .ok (.iload_n 3, 1) := by decide +kernel
theorem dX5_takeByBetween_40 : decode cX5_takeByBetween 40 = .ok (.iload 4, 2) := by decide +kernel
theorem dX5_takeByBetween_42 : decode cX5_takeByBetween 42 = .ok (.iload 5, 2) := by decide +kernel
theorem dX5_takeByBetween_44 : decode cX5_takeByBetween 44 = .ok (.ior, 1) := by decide +kernel
theorem dX5_takeByBetween_45 : decode cX5_takeByBetween 45 = .ok (.invokevirtual 34, 3) := by decide +kernel
theorem dX5_takeByBetween_48 : decode cX5_takeByBetween 48 = .ok (.ireturn, 1) := by decide +kernel
theorem dX5_leftOf_0 : decode cX5_leftOf 0 = .ok (.iconst 0, 1) := by decide +kernel
theorem dX5_leftOf_1 : decode cX5_leftOf 1 = .ok (.istore_n 1, 1) := by decide +kernel
theorem dX5_leftOf_2 : decode cX5_leftOf 2 = .ok (.iconst 1, 1) := by decide +kernel
theorem dX5_leftOf_3 : decode cX5_leftOf 3 = .ok (.istore_n 2, 1) := by decide +kernel
theorem dX5_leftOf_4 : decode cX5_leftOf 4 = .ok (.iload_n 2, 1) := by decide +kernel
theorem dX5_leftOf_5 : decode cX5_leftOf 5 = .ok (.bipush 6, 2) := by decide +kernel
theorem dX5_leftOf_7 : decode cX5_leftOf 7 = .ok (.if_icmp .ge 15, 3) := by decide +kernel
theorem dX5_leftOf_10 : decode cX5_leftOf 10 = .ok (.iload_n 1, 1) := by decide +kernel
theorem dX5_leftOf_11 : decode cX5_leftOf 11 = .ok (.iload_n 0, 1) := by decide +kernel
theorem dX5_leftOf_12 : decode cX5_leftOf 12 = .ok (.iload_n 2, 1) := by decide +kernel
theorem dX5_leftOf_13 : decode cX5_leftOf 13 = .ok (.ishr, 1) := by decide +kernel
theorem dX5_leftOf_14 : decode cX5_leftOf 14 = .ok (.ior, 1) := by decide +kernel
theorem dX5_leftOf_15 : decode cX5_leftOf 15 = .ok (.istore_n 1, 1) := by decide +kernel
theorem dX5_leftOf_16 : decode cX5_leftOf 16 = .ok (.iinc 2 1, 3) := by decide +kernel
theorem dX5_leftOf_19 : decode cX5_leftOf 19 = .ok (.goto (-15), 3) := by decide +kernel
theorem dX5_leftOf_22 : decode cX5_leftOf 22 = .ok (.iload_n 1, 1) := by decide +kernel
theorem dX5_leftOf_23 : decode cX5_leftOf 23 = .ok (.ireturn, 1) := by decide +kernel
theorem dX5_rightOf_0 : decode cX5_rightOf 0 = .ok (.iconst 0, 1) := by decide +kernel
theorem dX5_rightOf_1 : decode cX5_rightOf 1 = .ok (.istore_n 1, 1) := by decide +kernel
theorem dX5_rightOf_2 : decode cX5_rightOf 2 = .ok (.iconst 1, 1) := by decide +kernel
theorem dX5_rightOf_3 : decode cX5_rightOf 3 = .ok (.istore_n 2, 1) := by decide +kernel
theorem dX5_rightOf_4 : decode cX5_rightOf 4 = .ok (.iload_n 2, 1) := by decide +kernel
theorem dX5_rightOf_5 : decode cX5_rightOf 5 = .ok (.bipush 6, 2) := by decide +kernel
theorem dX5_rightOf_7 : decode cX5_rightOf 7 = .ok (.if_icmp .ge 15, 3) := by decide +kernel
theorem dX5_rightOf_10 : decode cX5_rightOf 10 = .ok (.iload_n 1, 1) := by decide +kernel
theorem dX5_rightOf_11 : decode cX5_rightOf 11 = .ok (.iload_n 0, 1) := by decide +kernel
theorem dX5_rightOf_12 : decode cX5_rightOf 12 = .ok (.iload_n 2, 1) := by decide +kernel
theorem dX5_rightOf_13 : decode cX5_rightOf 13 = .ok (.ishl, 1) := by decide +kernel
theorem dX5_rightOf_14 : decode cX5_rightOf 14 = .ok (.ior, 1) := by decide +kernel
theorem dX5_rightOf_15 : decode cX5_rightOf 15 = .ok (.istore_n 1, 1) := by decide +kernel
theorem dX5_rightOf_16 : decode cX5_rightOf 16 = .ok (.iinc 2 1, 3) := by decide +kernel
theorem dX5_rightOf_19 : decode cX5_rightOf 19 = .ok (.goto (-15), 3) := by decide +kernel
theorem dX5_rightOf_22 : decode cX5_rightOf 22 = .ok (.iload_n 1, 1) := by decide +kernel
theorem dX5_rightOf_23 : decode cX5_rightOf 23 = .ok (.ireturn, 1) := by decide +kernel
theorem dX5_setOf_0 : decode cX5_setOf 0 = .ok (.iload_n 1, 1) := by decide +kernel
theorem dX5_setOf_1 : decode cX5_setOf 1 = .ok (.ifCond .lt 21, 3) := by decide +kernel
theorem dX5_setOf_4 : decode cX5_setOf 4 = .ok (.iload_n 1, 1) := by decide +kernel
theorem dX5_setOf_5 : decode cX5_setOf 5 = .ok (.aload_n 0, 1) := by decide +kernel
theorem dX5_setOf_6 : decode cX5_setOf 6 = .ok (.getfield 9, 3) := by decide +kernel
theorem dX5_setOf_9 : decode cX5_setOf 9 = .ok (.arraylength, 1) := by decide +kernel
theorem dX5_setOf_10 : decode cX5_setOf 10 = .ok (.if_icmp .ge 12, 3) := by decide +kernel
theorem dX5_setOf_13 : decode cX5_setOf 13 = .ok (.aload_n 0, 1) := by decide +kernel
theorem dX5_setOf_14 : decode cX5_setOf 14 = .ok (.getfield 9, 3) := by decide +kernel
theorem dX5_setOf_17 : decode cX5_setOf 17 = .ok (.iload_n 1, 1) := by decide +kernel
theorem dX5_setOf_18 : decode cX5_setOf 18 = .ok (.iaload, 1) := by decide +kernel
theorem dX5_setOf_19 : decode cX5_setOf 19 = .ok (.goto 4, 3) := by decide +kernel
theorem dX5_setOf_22 : decode cX5_setOf 22 = .ok (.iconst 0, 1) := by decide +kernel
theorem dX5_setOf_23 : decode cX5_setOf 23 = .ok (.ireturn, 1) := by decide +kernel
theorem dX5_keep_0 : decode cX5_keep 0 = .ok (.iload_n 1, 1) := by decide +kernel
theorem dX5_keep_1 : decode cX5_keep 1 = .ok (.ifCond .lt 12, 3) := by decide +kernel
theorem dX5_keep_4 : decode cX5_keep 4 = .ok (.iload_n 1, 1) := by decide +kernel
theorem dX5_keep_5 : decode cX5_keep 5 = .ok (.aload_n 0, 1) := by decide +kernel
theorem dX5_keep_6 : decode cX5_keep 6 = .ok (.getfield 9, 3) := by decide +kernel
theorem dX5_keep_9 : decode cX5_keep 9 = .ok (.arraylength, 1) := by decide +kernel
theorem dX5_keep_10 : decode cX5_keep 10 = .ok (.if_icmp .lt 5, 3) := by decide +kernel
theorem dX5_keep_13 : decode cX5_keep 13 = .ok (.iconst 0, 1) := by decide +kernel
theorem dX5_keep_14 : decode cX5_keep 14 = .ok (.ireturn, 1) := by decide +kernel
theorem dX5_keep_15 : decode cX5_keep 15 = .ok (.aload_n 0, 1) := by decide +kernel
theorem dX5_keep_16 : decode cX5_keep 16 = .ok (.getfield 9, 3) := by decide +kernel
theorem dX5_keep_19 : decode cX5_keep 19 = .ok (.iload_n 1, 1) := by decide +kernel
theorem dX5_keep_20 : decode cX5_keep 20 = .ok (.iaload, 1) := by decide +kernel
theorem dX5_keep_21 : decode cX5_keep 21 = .ok (.iload_n 2, 1) := by decide +kernel
theorem dX5_keep_22 : decode cX5_keep 22 = .ok (.iconst (-1), 1) := by decide +kernel
theorem dX5_keep_23 : decode cX5_keep 23 = .ok (.ixor, 1) := by decide +kernel
theorem dX5_keep_24 : decode cX5_keep 24 = .ok (.iand, 1) := by decide +kernel
theorem dX5_keep_25 : decode cX5_keep 25 = .ok (.invokestatic 15, 3) := by decide +kernel
theorem dX5_keep_28 : decode cX5_keep 28 = .ok (.istore_n 3, 1) := by decide +kernel
theorem dX5_keep_29 : decode cX5_keep 29 = .ok (.aload_n 0, 1) := by decide +kernel
theorem dX5_keep_30 : decode cX5_keep 30 = .ok (.getfield 9, 3) := by decide +kernel
theorem dX5_keep_33 : decode cX5_keep 33 = .ok (.iload_n 1, 1) := by decide +kernel
theorem dX5_keep_34 : decode cX5_keep 34 = .ok (.dup2, 1) := by decide +kernel
theorem dX5_keep_35 : decode cX5_keep 35 = .ok (.iaload, 1) := by decide +kernel
theorem dX5_keep_36 : decode cX5_keep 36 = .ok (.iload_n 2, 1) := by decide +kernel
theorem dX5_keep_37 : decode cX5_keep 37 = .ok (.iand, 1) := by decide +kernel
theorem dX5_keep_38 : decode cX5_keep 38 = .ok (.iastore, 1) := by decide +kernel
theorem dX5_keep_39 : decode cX5_keep 39 = .ok (.iload_n 3, 1) := by decide +kernel
theorem dX5_keep_40 : decode cX5_keep 40 = .ok (.ireturn, 1) := by decide +kernel
theorem dX6_init_0 : decode cX6_init 0 = .ok (.aload_n 0, 1) := by decide +kernel
theorem dX6_init_1 : decode cX6_init 1 = .ok (.invokespecial 3, 3) := by decide +kernel
theorem dX6_init_4 : decode cX6_init 4 = .ok (.aload_n 0, 1) := by decide +kernel
theorem dX6_init_5 : decode cX6_init 5 = .ok (.bipush 36, 2) := by decide +kernel
theorem dX6_init_7 : decode cX6_init 7 = .ok (.newarray .int, 2) := by decide +kernel
theorem dX6_init_9 : decode cX6_init 9 = .ok (.putfield 9, 3) := by decide +kernel
theorem dX6_init_12 : decode cX6_init 12 = .ok (.aload_n 0, 1) := by decide +kernel
theorem dX6_init_13 : decode cX6_init 13 = .ok (.bipush 36, 2) := by decide +kernel
theorem dX6_init_15 : decode cX6_init 15 = .ok (.newarray .int, 2) := by decide +kernel
theorem dX6_init_17 : decode cX6_init 17 = .ok (.putfield 15, 3) := by decide +kernel
theorem dX6_init_20 : decode cX6_init 20 = .ok (.aload_n 0, 1) := by decide +kernel
theorem dX6_init_21 : decode cX6_init 21 = .ok (.bipush 36, 2) := by decide +kernel
theorem dX6_init_23 : decode cX6_init 23 = .ok (.newarray .int, 2) := by decide +kernel
theorem dX6_init_25 : decode cX6_init 25 = .ok (.putfield 18, 3) := by decide +kernel
theorem dX6_init_28 : decode cX6_init 28 = .ok (.aload_n 0, 1) := by decide +kernel
theorem dX6_init_29 : decode cX6_init 29 = .ok (.new 21, 3) := by decide +kernel
theorem dX6_init_32 : decode cX6_init 32 = .ok (.dup, 1) := by decide +kernel
theorem dX6_init_33 : decode cX6_init 33 = .ok (.iload_n 1, 1) := by decide +kernel
theorem dX6_init_34 : decode cX6_init 34 = .ok (.invokespecial 23, 3) := by decide +kernel
theorem dX6_init_37 : decode cX6_init 37 = .ok (.putfield 26, 3) := by decide +kernel
theorem dX6_init_40 : decode cX6_init 40 = .ok (.aload_n 0, 1) := by decide +kernel
theorem dX6_init_41 : decode cX6_init 41 = .ok (.iconst 0, 1) := by decide +kernel
theorem dX6_init_42 : decode cX6_init 42 = .ok (.putfield 30, 3) := by decide +kernel
theorem dX6_init_45 : decode cX6_init 45 = .ok (.aload_n 0, 1) := by decide +kernel
theorem dX6_init_46 : decode cX6_init 46 = .ok (.bipush 45, 2) := by decide +kernel
theorem dX6_init_48 : decode cX6_init 48 = .ok (.putfield 34, 3) := by decide +kernel
theorem dX6_init_51 : decode cX6_init 51 = .ok (.aload_n 0, 1) := by decide +kernel
theorem dX6_init_52 : decode cX6_init 52 = .ok (.iconst 0, 1) := by decide +kernel
theorem dX6_init_53 : decode cX6_init 53 = .ok (.putfield 38, 3) := by decide +kernel
theorem dX6_init_56 : decode cX6_init 56 = .ok (.return_, 1) := by decide +kernel
theorem dX6_hasStep_0 : decode cX6_hasStep 0 = .ok (.iload_n 1, 1) := by decide +kernel
theorem dX6_hasStep_1 : decode cX6_hasStep 1 = .ok (.ifCond .lt 21, 3) := by decide +kernel
theorem dX6_hasStep_4 : decode cX6_hasStep 4 = .ok (.iload_n 1, 1) := by decide +kernel
theorem dX6_hasStep_5 : decode cX6_hasStep 5 = .ok (.aload_n 0, 1) := by decide +kernel
theorem dX6_hasStep_6 : decode cX6_hasStep 6 = .ok (.getfield 30, 3) := by decide +kernel
theorem dX6_hasStep_9 : decode cX6_hasStep 9 = .ok (.if_icmp .ge 13, 3) := by decide +kernel
theorem dX6_hasStep_12 : decode cX6_hasStep 12 = .ok (.iload_n 1, 1) := by decide +kernel
theorem dX6_hasStep_13 : decode cX6_hasStep 13 = .ok (.bipush 36, 2) := by decide +kernel
theorem dX6_hasStep_15 : decode cX6_hasStep 15 = .ok (.if_icmp .ge 7, 3) := by decide +kernel
theorem dX6_hasStep_18 : decode cX6_hasStep 18 = .ok (.iconst 1, 1) := by decide +kernel
theorem dX6_hasStep_19 : decode cX6_hasStep 19 = .ok (.goto 4, 3) := by decide +kernel
theorem dX6_hasStep_22 : decode cX6_hasStep 22 = .ok (.iconst 0, 1) := by decide +kernel
theorem dX6_hasStep_23 : decode cX6_hasStep 23 = .ok (.ireturn, 1) := by decide +kernel
theorem dX6_hasStepBy_0 : decode cX6_hasStepBy 0 = .ok (.aload_n 0, 1) := by decide +kernel
theorem dX6_hasStepBy_1 : decode cX6_hasStepBy 1 = .ok (.getfield 38, 3) := by decide +kernel
theorem dX6_hasStepBy_4 : decode cX6_hasStepBy 4 = .ok (.iconst 1, 1) := by decide +kernel
theorem dX6_hasStepBy_5 : decode cX6_hasStepBy 5 = .ok (.iload_n 1, 1) := by decide +kernel
theorem dX6_hasStepBy_6 : decode cX6_hasStepBy 6 = .ok (.ishl, 1) := by decide +kernel
theorem dX6_hasStepBy_7 : decode cX6_hasStepBy 7 = .ok (.iand, 1) := by decide +kernel
theorem dX6_hasStepBy_8 : decode cX6_hasStepBy 8 = .ok (.ifCond .eq 7, 3) := by decide +kernel
theorem dX6_hasStepBy_11 : decode cX6_hasStepBy 11 = .ok (.iconst 1, 1) := by decide +kernel
theorem dX6_hasStepBy_12 : decode cX6_hasStepBy 12 = .ok (.goto 4, 3) := by decide +kernel
theorem dX6_hasStepBy_15 : decode cX6_hasStepBy 15 = .ok (.iconst 0, 1) := by decide +kernel
theorem dX6_hasStepBy_16 : decode cX6_hasStepBy 16 = .ok (.ireturn, 1) := by decide +kernel
theorem dX6_lose_0 : decode cX6_lose 0 = .ok (.aload_n 0, 1) := by decide +kernel
theorem dX6_lose_1 : decode cX6_lose 1 = .ok (.iconst 0, 1) := by decide +kernel
theorem dX6_lose_2 : decode cX6_lose 2 = .ok (.putfield 30, 3) := by decide +kernel
theorem dX6_lose_5 : decode cX6_lose 5 = .ok (.aload_n 0, 1) := by decide +kernel
theorem dX6_lose_6 : decode cX6_lose 6 = .ok (.bipush 45, 2) := by decide +kernel
theorem dX6_lose_8 : decode cX6_lose 8 = .ok (.putfield 34, 3) := by decide +kernel
theorem dX6_lose_11 : decode cX6_lose 11 = .ok (.aload_n 0, 1) := by decide +kernel
theorem dX6_lose_12 : decode cX6_lose 12 = .ok (.iconst 0, 1) := by decide +kernel
theorem dX6_lose_13 : decode cX6_lose 13 = .ok (.putfield 38, 3) := by decide +kernel
theorem dX6_lose_16 : decode cX6_lose 16 = .ok (.return_, 1) := by decide +kernel
theorem dX6_make_0 : decode cX6_make 0 = .ok (.aload_n 0, 1) := by decide +kernel
theorem dX6_make_1 : decode cX6_make 1 = .ok (.invokevirtual 41, 3) := by decide +kernel
theorem dX6_make_4 : decode cX6_make 4 = .ok (.aload_n 0, 1) := by decide +kernel
theorem dX6_make_5 : decode cX6_make 5 = .ok (.getfield 26, 3) := by decide +kernel
theorem dX6_make_8 : decode cX6_make 8 = .ok (.invokevirtual 44, 3) := by decide +kernel
theorem dX6_make_11 : decode cX6_make 11 = .ok (.iconst 1, 1) := by decide +kernel
theorem dX6_make_12 : decode cX6_make 12 = .ok (.istore_n 3, 1) := by decide +kernel
theorem dX6_make_13 : decode cX6_make 13 = .ok (.iconst 0, 1) := by decide +kernel
theorem dX6_make_14 : decode cX6_make 14 = .ok (.istore 4, 2) := by decide +kernel
theorem dX6_make_16 : decode cX6_make 16 = .ok (.iload_n 3, 1) := by decide +kernel
theorem dX6_make_17 : decode cX6_make 17 = .ok (.ifCond .eq 82, 3) := by decide +kernel
theorem dX6_make_20 : decode cX6_make 20 = .ok (.iload 4, 2) := by decide +kernel
theorem dX6_make_22 : decode cX6_make 22 = .ok (.bipush 36, 2) := by decide +kernel
theorem dX6_make_24 : decode cX6_make 24 = .ok (.if_icmp .ge 75, 3) := by decide +kernel
theorem dX6_make_27 : decode cX6_make 27 = .ok (.aload_n 0, 1) := by decide +kernel
theorem dX6_make_28 : decode cX6_make 28 = .ok (.aload_n 1, 1) := by decide +kernel
theorem dX6_make_29 : decode cX6_make 29 = .ok (.invokevirtual 47, 3) := by decide +kernel
theorem dX6_make_32 : decode cX6_make 32 = .ok (.ifCond .ne 33, 3) := by decide +kernel
theorem dX6_make_35 : decode cX6_make 35 = .ok (.aload_n 0, 1) := by decide +kernel
theorem dX6_make_36 : decode cX6_make 36 = .ok (.invokevirtual 51, 3) := by decide +kernel
theorem dX6_make_39 : decode cX6_make 39 = .ok (.ifCond .ne 26, 3) := by decide +kernel
theorem dX6_make_42 : decode cX6_make 42 = .ok (.aload_n 0, 1) := by decide +kernel
theorem dX6_make_43 : decode cX6_make 43 = .ok (.invokevirtual 55, 3) := by decide +kernel
theorem dX6_make_46 : decode cX6_make 46 = .ok (.ifCond .ne 19, 3) := by decide +kernel
theorem dX6_make_49 : decode cX6_make 49 = .ok (.aload_n 0, 1) := by decide +kernel
theorem dX6_make_50 : decode cX6_make 50 = .ok (.invokevirtual 58, 3) := by decide +kernel
theorem dX6_make_53 : decode cX6_make 53 = .ok (.ifCond .ne 12, 3) := by decide +kernel
theorem dX6_make_56 : decode cX6_make 56 = .ok (.aload_n 0, 1) := by decide +kernel
theorem dX6_make_57 : decode cX6_make 57 = .ok (.aload_n 1, 1) := by decide +kernel
theorem dX6_make_58 : decode cX6_make 58 = .ok (.aload_n 2, 1) := by decide +kernel
theorem dX6_make_59 : decode cX6_make 59 = .ok (.invokevirtual 61, 3) := by decide +kernel
theorem dX6_make_62 : decode cX6_make 62 = .ok (.ifCond .eq 7, 3) := by decide +kernel
theorem dX6_make_65 : decode cX6_make 65 = .ok (.iconst 1, 1) := by decide +kernel
theorem dX6_make_66 : decode cX6_make 66 = .ok (.goto 4, 3) := by decide +kernel
theorem dX6_make_69 : decode cX6_make 69 = .ok (.iconst 0, 1) := by decide +kernel
theorem dX6_make_70 : decode cX6_make 70 = .ok (.istore 5, 2) := by decide +kernel
theorem dX6_make_72 : decode cX6_make 72 = .ok (.iload 5, 2) := by decide +kernel
theorem dX6_make_74 : decode cX6_make 74 = .ok (.ifCond .eq 17, 3) := by decide +kernel
theorem dX6_make_77 : decode cX6_make 77 = .ok (.aload_n 0, 1) := by decide +kernel
theorem dX6_make_78 : decode cX6_make 78 = .ok (.getfield 26, 3) := by decide +kernel
theorem dX6_make_81 : decode cX6_make 81 = .ok (.invokevirtual 65, 3) := by decide +kernel
theorem dX6_make_84 : decode cX6_make 84 = .ok (.ifCond .ne 7, 3) := by decide +kernel
theorem dX6_make_87 : decode cX6_make 87 = .ok (.iconst 1, 1) := by decide +kernel
theorem dX6_make_88 : decode cX6_make 88 = .ok (.goto 4, 3) := by decide +kernel
theorem dX6_make_91 : decode cX6_make 91 = .ok (.iconst 0, 1) := by decide +kernel
theorem dX6_make_92 : decode cX6_make 92 = .ok (.istore_n 3, 1) := by decide +kernel
theorem dX6_make_93 : decode cX6_make 93 = .ok (.iinc 4 1, 3) := by decide +kernel
theorem dX6_make_96 : decode cX6_make 96 = .ok (.goto (-80), 3) := by decide +kernel
theorem dX6_make_99 : decode cX6_make 99 = .ok (.aload_n 0, 1) := by decide +kernel
theorem dX6_make_100 : decode cX6_make 100 = .ok (.getfield 26, 3) := by decide +kernel
theorem dX6_make_103 : decode cX6_make 103 = .ok (.invokevirtual 65, 3) := by decide +kernel
theorem dX6_make_106 : decode cX6_make 106 = .ok (.ifCond .eq 12, 3) := by decide +kernel
theorem dX6_make_109 : decode cX6_make 109 = .ok (.aload_n 0, 1) := by decide +kernel
theorem dX6_make_110 : decode cX6_make 110 = .ok (.bipush 102, 2) := by decide +kernel
theorem dX6_make_112 : decode cX6_make 112 = .ok (.putfield 34, 3) := by decide +kernel
theorem dX6_make_115 : decode cX6_make 115 = .ok (.goto 24, 3) := by decide +kernel
theorem dX6_make_118 : decode cX6_make 118 = .ok (.aload_n 0, 1) := by decide +kernel
theorem dX6_make_119 : decode cX6_make 119 = .ok (.aload_n 0, 1) := by decide +kernel
theorem dX6_make_120 : decode cX6_make 120 = .ok (.getfield 26, 3) := by decide +kernel
theorem dX6_make_123 : decode cX6_make 123 = .ok (.invokevirtual 68, 3) := by decide +kernel
theorem dX6_make_126 : decode cX6_make 126 = .ok (.ifCond .eq 8, 3) := by decide +kernel
theorem dX6_make_129 : decode cX6_make 129 = .ok (.bipush 119, 2) := by decide +kernel
theorem dX6_make_131 : decode cX6_make 131 = .ok (.goto 5, 3) := by decide +kernel
theorem dX6_make_134 : decode cX6_make 134 = .ok (.bipush 110, 2) := by decide +kernel
theorem dX6_make_136 : decode cX6_make 136 = .ok (.putfield 34, 3) := by decide +kernel
theorem dX6_make_139 : decode cX6_make 139 = .ok (.return_, 1) := by decide +kernel
theorem dX6_makeStepByClues_0 : decode cX6_makeStepByClues 0 = .ok (.iconst 0, 1) := by decide +kernel
theorem dX6_makeStepByClues_1 : decode cX6_makeStepByClues 1 = .ok (.istore_n 2, 1) := by decide +kernel
theorem dX6_makeStepByClues_2 : decode cX6_makeStepByClues 2 = .ok (.iload_n 2, 1) := by decide +kernel
theorem dX6_makeStepByClues_3 : decode cX6_makeStepByClues 3 = .ok (.bipush 7, 2) := by decide +kernel
theorem dX6_makeStepByClues_5 : decode cX6_makeStepByClues 5 = .ok (.if_icmp .ge 68, 3) := by decide +kernel
theorem dX6_makeStepByClues_8 : decode cX6_makeStepByClues 8 = .ok (.iconst 0, 1) := by decide +kernel
theorem dX6_makeStepByClues_9 : decode cX6_makeStepByClues 9 = .ok (.istore_n 3, 1) := by decide +kernel
theorem dX6_makeStepByClues_10 : decode cX6_makeStepByClues 10 = .ok (.iload_n 3, 1) := by decide +kernel
theorem dX6_makeStepByClues_11 : decode cX6_makeStepByClues 11 = .ok (.aload_n 1, 1) := by decide +kernel
theorem dX6_makeStepByClues_12 : decode cX6_makeStepByClues 12 = .ok (.invokeinterface 71 1, 5) := by decide +kernel
theorem dX6_makeStepByClues_17 : decode cX6_makeStepByClues 17 = .ok (.if_icmp .ge 50, 3) := by decide +kernel
theorem dX6_makeStepByClues_20 : decode cX6_makeStepByClues 20 = .ok (.aload_n 1, 1) := by decide +kernel
theorem dX6_makeStepByClues_21 : decode cX6_makeStepByClues 21 = .ok (.iload_n 3, 1) := by decide +kernel
theorem dX6_makeStepByClues_22 : decode cX6_makeStepByClues 22 = .ok (.invokeinterface 77 2, 5) := by decide +kernel
theorem dX6_makeStepByClues_27 : decode cX6_makeStepByClues 27 = .ok (.checkcast 81, 3) := by decide +kernel
theorem dX6_makeStepByClues_30 : decode cX6_makeStepByClues 30 = .ok (.astore 4, 2) := by decide +kernel
theorem dX6_makeStepByClues_32 : decode cX6_makeStepByClues 32 = .ok (.aload 4, 2) := by decide +kernel
theorem dX6_makeStepByClues_34 : decode cX6_makeStepByClues 34 = .ok (.invokevirtual 83, 3) := by decide +kernel
theorem dX6_makeStepByClues_37 : decode cX6_makeStepByClues 37 = .ok (.iload_n 2, 1) := by decide +kernel
theorem dX6_makeStepByClues_38 : decode cX6_makeStepByClues 38 = .ok (.if_icmp .ne 23, 3) := by decide +kernel
theorem dX6_makeStepByClues_41 : decode cX6_makeStepByClues 41 = .ok (.aload_n 0, 1) := by decide +kernel
theorem dX6_makeStepByClues_42 : decode cX6_makeStepByClues 42 = .ok (.iload_n 2, 1) := by decide +kernel
theorem dX6_makeStepByClues_43 : decode cX6_makeStepByClues 43 = .ok (.iload_n 3, 1) := by decide +kernel
theorem dX6_makeStepByClues_44 : decode cX6_makeStepByClues 44 = .ok (.aload_n 0, 1) := by decide +kernel
theorem dX6_makeStepByClues_45 : decode cX6_makeStepByClues 45 = .ok (.getfield 26, 3) := by decide +kernel
theorem dX6_makeStepByClues_48 : decode cX6_makeStepByClues 48 = .ok (.aload 4, 2) := by decide +kernel
theorem dX6_makeStepByClues_50 : decode cX6_makeStepByClues 50 = .ok (.invokevirtual 86, 3) := by decide +kernel
theorem dX6_makeStepByClues_53 : decode cX6_makeStepByClues 53 = .ok (.invokevirtual 90, 3) := by decide +kernel
theorem dX6_makeStepByClues_56 : decode cX6_makeStepByClues 56 = .ok (.ifCond .eq 5, 3) := by decide +kernel
theorem dX6_makeStepByClues_59 : decode cX6_makeStepByClues 59 = .ok (.iconst 1, 1) := by decide +kernel
theorem dX6_makeStepByClues_60 : decode cX6_makeStepByClues 60 = .ok (.ireturn, 1) := by decide +kernel
theorem dX6_makeStepByClues_61 : decode cX6_makeStepByClues 61 = .ok (.iinc 3 1, 3) := by decide +kernel
theorem dX6_makeStepByClues_64 : decode cX6_makeStepByClues 64 = .ok (.goto (-54), 3) := by decide +kernel
theorem dX6_makeStepByClues_67 : decode cX6_makeStepByClues 67 = .ok (.iinc 2 1, 3) := by decide +kernel
theorem dX6_makeStepByClues_70 : decode cX6_makeStepByClues 70 = .ok (.goto (-68), 3) := by decide +kernel
theorem dX6_makeStepByClues_73 : decode cX6_makeStepByClues 73 = .ok (.iconst 0, 1) := by decide +kernel
theorem dX6_makeStepByClues_74 : decode cX6_makeStepByClues 74 = .ok (.ireturn, 1) := by decide +kernel
theorem dX6_makeStepByPersons_0 : decode cX6_makeStepByPersons 0 = .ok (.iconst 0, 1) := by decide +kernel
theorem dX6_makeStepByPersons_1 : decode cX6_makeStepByPersons 1 = .ok (.istore_n 1, 1) := by decide +kernel
theorem dX6_makeStepByPersons_2 : decode cX6_makeStepByPersons 2 = .ok (.iload_n 1, 1) := by decide +kernel
theorem dX6_makeStepByPersons_3 : decode cX6_makeStepByPersons 3 = .ok (.aload_n 0, 1) := by decide +kernel
theorem dX6_makeStepByPersons_4 : decode cX6_makeStepByPersons 4 = .ok (.getfield 26, 3) := by decide +kernel
theorem dX6_makeStepByPersons_7 : decode cX6_makeStepByPersons 7 = .ok (.invokevirtual 94, 3) := by decide +kernel
theorem dX6_makeStepByPersons_10 : decode cX6_makeStepByPersons 10 = .ok (.if_icmp .ge 29, 3) := by decide +kernel
theorem dX6_makeStepByPersons_13 : decode cX6_makeStepByPersons 13 = .ok (.aload_n 0, 1) := by decide +kernel
theorem dX6_makeStepByPersons_14 : decode cX6_makeStepByPersons 14 = .ok (.bipush 7, 2) := by decide +kernel
theorem dX6_makeStepByPersons_16 : decode cX6_makeStepByPersons 16 = .ok (.iload_n 1, 1) := by decide +kernel
theorem dX6_makeStepByPersons_17 : decode cX6_makeStepByPersons 17 = .ok (.aload_n 0, 1) := by decide +kernel
theorem dX6_makeStepByPersons_18 : decode cX6_makeStepByPersons 18 = .ok (.getfield 26, 3) := by decide +kernel
theorem dX6_makeStepByPersons_21 : decode cX6_makeStepByPersons 21 = .ok (.iload_n 1, 1) := by decide +kernel
theorem dX6_makeStepByPersons_22 : decode cX6_makeStepByPersons 22 = .ok (.invokevirtual 97, 3) := by decide +kernel
theorem dX6_makeStepByPersons_25 : decode cX6_makeStepByPersons 25 = .ok (.invokevirtual 90, 3) := by decide +kernel
theorem dX6_makeStepByPersons_28 : decode cX6_makeStepByPersons 28 = .ok (.ifCond .eq 5, 3) := by decide +kernel
theorem dX6_makeStepByPersons_31 : decode cX6_makeStepByPersons 31 = .ok (.iconst 1, 1) := by decide +kernel
theorem dX6_makeStepByPersons_32 : decode cX6_makeStepByPersons 32 = .ok (.ireturn, 1) := by decide +kernel
theorem dX6_makeStepByPersons_33 : decode cX6_makeStepByPersons 33 = .ok (.iinc 1 1, 3) := by decide +kernel
theorem dX6_makeStepByPersons_36 : decode cX6_makeStepByPersons 36 = .ok (.goto (-34), 3) := by decide +kernel
theorem dX6_makeStepByPersons_39 : decode cX6_makeStepByPersons 39 = .ok (.iconst 0, 1) := by decide +kernel
theorem dX6_makeStepByPersons_40 : decode cX6_makeStepByPersons 40 = .ok (.ireturn, 1) := by decide +kernel
theorem dX6_makeStepByPlaces_0 : decode cX6_makeStepByPlaces 0 = .ok (.iconst 0, 1) := by decide +kernel
theorem dX6_makeStepByPlaces_1 : decode cX6_makeStepByPlaces 1 = .ok (.istore_n 1, 1) := by decide +kernel
theorem dX6_makeStepByPlaces_2 : decode cX6_makeStepByPlaces 2 = .ok (.iload_n 1, 1) := by decide +kernel
theorem dX6_makeStepByPlaces_3 : decode cX6_makeStepByPlaces 3 = .ok (.aload_n 0, 1) := by decide +kernel
theorem dX6_makeStepByPlaces_4 : decode cX6_makeStepByPlaces 4 = .ok (.getfield 26, 3) := by decide +kernel
theorem dX6_makeStepByPlaces_7 : decode cX6_makeStepByPlaces 7 = .ok (.invokevirtual 94, 3) := by decide +kernel
theorem dX6_makeStepByPlaces_10 : decode cX6_makeStepByPlaces 10 = .ok (.if_icmp .ge 29, 3) := by decide +kernel
theorem dX6_makeStepByPlaces_13 : decode cX6_makeStepByPlaces 13 = .ok (.aload_n 0, 1) := by decide +kernel
theorem dX6_makeStepByPlaces_14 : decode cX6_makeStepByPlaces 14 = .ok (.bipush 8, 2) := by decide +kernel
theorem dX6_makeStepByPlaces_16 : decode cX6_makeStepByPlaces 16 = .ok (.iload_n 1, 1) := by decide +kernel
theorem dX6_makeStepByPlaces_17 : decode cX6_makeStepByPlaces 17 = .ok (.aload_n 0, 1) := by decide +kernel
theorem dX6_makeStepByPlaces_18 : decode cX6_makeStepByPlaces 18 = .ok (.getfield 26, 3) := by decide +kernel
theorem dX6_makeStepByPlaces_21 : decode cX6_makeStepByPlaces 21 = .ok (.iload_n 1, 1) := by decide +kernel
theorem dX6_makeStepByPlaces_22 : decode cX6_makeStepByPlaces 22 = .ok (.invokevirtual 101, 3) := by decide +kernel
theorem dX6_makeStepByPlaces_25 : decode cX6_makeStepByPlaces 25 = .ok (.invokevirtual 90, 3) := by decide +kernel
theorem dX6_makeStepByPlaces_28 : decode cX6_makeStepByPlaces 28 = .ok (.ifCond .eq 5, 3) := by decide +kernel
theorem dX6_makeStepByPlaces_31 : decode cX6_makeStepByPlaces 31 = .ok (.iconst 1, 1) := by decide +kernel
theorem dX6_makeStepByPlaces_32 : decode cX6_makeStepByPlaces 32 = .ok (.ireturn, 1) := by decide +kernel
theorem dX6_makeStepByPlaces_33 : decode cX6_makeStepByPlaces 33 = .ok (.iinc 1 1, 3) := by decide +kernel
theorem dX6_makeStepByPlaces_36 : decode cX6_makeStepByPlaces 36 = .ok (.goto (-34), 3) := by decide +kernel
theorem dX6_makeStepByPlaces_39 : decode cX6_makeStepByPlaces 39 = .ok (.iconst 0, 1) := by decide +kernel
theorem dX6_makeStepByPlaces_40 : decode cX6_makeStepByPlaces 40 = .ok (.ireturn, 1) := by decide +kernel
theorem dX6_makeStepByPairs_0 : decode cX6_makeStepByPairs 0 = .ok (.iconst 0, 1) := by decide +kernel
theorem dX6_makeStepByPairs_1 : decode cX6_makeStepByPairs 1 = .ok (.istore_n 1, 1) := by decide +kernel
theorem dX6_makeStepByPairs_2 : decode cX6_makeStepByPairs 2 = .ok (.iload_n 1, 1) := by decide +kernel
theorem dX6_makeStepByPairs_3 : decode cX6_makeStepByPairs 3 = .ok (.aload_n 0, 1) := by decide +kernel
theorem dX6_makeStepByPairs_4 : decode cX6_makeStepByPairs 4 = .ok (.getfield 26, 3) := by decide +kernel
theorem dX6_makeStepByPairs_7 : decode cX6_makeStepByPairs 7 = .ok (.invokevirtual 94, 3) := by decide +kernel
theorem dX6_makeStepByPairs_10 : decode cX6_makeStepByPairs 10 = .ok (.if_icmp .ge 58, 3) := by decide +kernel
theorem dX6_makeStepByPairs_13 : decode cX6_makeStepByPairs 13 = .ok (.iload_n 1, 1) := by decide +kernel
theorem dX6_makeStepByPairs_14 : decode cX6_makeStepByPairs 14 = .ok (.iconst 1, 1) := by decide +kernel
theorem dX6_makeStepByPairs_15 : decode cX6_makeStepByPairs 15 = .ok (.iadd, 1) := by decide +kernel
theorem dX6_makeStepByPairs_16 : decode cX6_makeStepByPairs 16 = .ok (.istore_n 2, 1) := by decide +kernel
theorem dX6_makeStepByPairs_17 : decode cX6_makeStepByPairs 17 = .ok (.iload_n 2, 1) := by decide +kernel
theorem dX6_makeStepByPairs_18 : decode cX6_makeStepByPairs 18 = .ok (.aload_n 0, 1) := by decide +kernel
theorem dX6_makeStepByPairs_19 : decode cX6_makeStepByPairs 19 = .ok (.getfield 26, 3) := by decide +kernel
theorem dX6_makeStepByPairs_22 : decode cX6_makeStepByPairs 22 = .ok (.invokevirtual 94, 3) := by decide +kernel
theorem dX6_makeStepByPairs_25 : decode cX6_makeStepByPairs 25 = .ok (.if_icmp .ge 37, 3) := by decide +kernel
theorem dX6_makeStepByPairs_28 : decode cX6_makeStepByPairs 28 = .ok (.bipush 10, 2) := by decide +kernel
theorem dX6_makeStepByPairs_30 : decode cX6_makeStepByPairs 30 = .ok (.iload_n 1, 1) := by decide +kernel
theorem dX6_makeStepByPairs_31 : decode cX6_makeStepByPairs 31 = .ok (.imul, 1) := by decide +kernel
theorem dX6_makeStepByPairs_32 : decode cX6_makeStepByPairs 32 = .ok (.iload_n 2, 1) := by decide +kernel
theorem dX6_makeStepByPairs_33 : decode cX6_makeStepByPairs 33 = .ok (.iadd, 1) := by decide +kernel
theorem dX6_makeStepByPairs_34 : decode cX6_makeStepByPairs 34 = .ok (.istore_n 3, 1) := by decide +kernel
theorem dX6_makeStepByPairs_35 : decode cX6_makeStepByPairs 35 = .ok (.aload_n 0, 1) := by decide +kernel
theorem dX6_makeStepByPairs_36 : decode cX6_makeStepByPairs 36 = .ok (.bipush 9, 2) := by decide +kernel
theorem dX6_makeStepByPairs_38 : decode cX6_makeStepByPairs 38 = .ok (.iload_n 3, 1) := by decide +kernel
theorem dX6_makeStepByPairs_39 : decode cX6_makeStepByPairs 39 = .ok (.aload_n 0, 1) := by decide +kernel
theorem dX6_makeStepByPairs_40 : decode cX6_makeStepByPairs 40 = .ok (.getfield 26, 3) := by decide +kernel
theorem dX6_makeStepByPairs_43 : decode cX6_makeStepByPairs 43 = .ok (.iload_n 1, 1) := by decide +kernel
theorem dX6_makeStepByPairs_44 : decode cX6_makeStepByPairs 44 = .ok (.iload_n 2, 1) := by decide +kernel
theorem dX6_makeStepByPairs_45 : decode cX6_makeStepByPairs 45 = .ok (.invokevirtual 104, 3) := by decide +kernel
theorem dX6_makeStepByPairs_48 : decode cX6_makeStepByPairs 48 = .ok (.invokevirtual 90, 3) := by decide +kernel
theorem dX6_makeStepByPairs_51 : decode cX6_makeStepByPairs 51 = .ok (.ifCond .eq 5, 3) := by decide +kernel
theorem dX6_makeStepByPairs_54 : decode cX6_makeStepByPairs 54 = .ok (.iconst 1, 1) := by decide +kernel
theorem dX6_makeStepByPairs_55 : decode cX6_makeStepByPairs 55 = .ok (.ireturn, 1) := by decide +kernel
theorem dX6_makeStepByPairs_56 : decode cX6_makeStepByPairs 56 = .ok (.iinc 2 1, 3) := by decide +kernel
theorem dX6_makeStepByPairs_59 : decode cX6_makeStepByPairs 59 = .ok (.goto (-42), 3) := by decide +kernel
theorem dX6_makeStepByPairs_62 : decode cX6_makeStepByPairs 62 = .ok (.iinc 1 1, 3) := by decide +kernel
theorem dX6_makeStepByPairs_65 : decode cX6_makeStepByPairs 65 = .ok (.goto (-63), 3) := by decide +kernel
theorem dX6_makeStepByPairs_68 : decode cX6_makeStepByPairs 68 = .ok (.iconst 0, 1) := by decide +kernel
theorem dX6_makeStepByPairs_69 : decode cX6_makeStepByPairs 69 = .ok (.ireturn, 1) := by decide +kernel
theorem dX6_makeStepByOwnRules_0 : decode cX6_makeStepByOwnRules 0 = .ok (.iconst 0, 1) := by decide +kernel
theorem dX6_makeStepByOwnRules_1 : decode cX6_makeStepByOwnRules 1 = .ok (.istore_n 3, 1) := by decide +kernel
theorem dX6_makeStepByOwnRules_2 : decode cX6_makeStepByOwnRules 2 = .ok (.iload_n 3, 1) := by decide +kernel
theorem dX6_makeStepByOwnRules_3 : decode cX6_makeStepByOwnRules 3 = .ok (.aload_n 2, 1) := by decide +kernel
theorem dX6_makeStepByOwnRules_4 : decode cX6_makeStepByOwnRules 4 = .ok (.invokeinterface 71 1, 5) := by decide +kernel
theorem dX6_makeStepByOwnRules_9 : decode cX6_makeStepByOwnRules 9 = .ok (.if_icmp .ge 88, 3) := by decide +kernel
theorem dX6_makeStepByOwnRules_12 : decode cX6_makeStepByOwnRules 12 = .ok (.aload_n 2, 1) := by decide +kernel
theorem dX6_makeStepByOwnRules_13 : decode cX6_makeStepByOwnRules 13 = .ok (.iload_n 3, 1) := by decide +kernel
theorem dX6_makeStepByOwnRules_14 : decode cX6_makeStepByOwnRules 14 = .ok (.invokeinterface 77 2, 5) := by decide +kernel
theorem dX6_makeStepByOwnRules_19 : decode cX6_makeStepByOwnRules 19 = .ok (.checkcast 108, 3) := by decide +kernel
theorem dX6_makeStepByOwnRules_22 : decode cX6_makeStepByOwnRules 22 = .ok (.astore 4, 2) := by decide +kernel
theorem dX6_makeStepByOwnRules_24 : decode cX6_makeStepByOwnRules 24 = .ok (.iconst 0, 1) := by decide +kernel
theorem dX6_makeStepByOwnRules_25 : decode cX6_makeStepByOwnRules 25 = .ok (.istore 5, 2) := by decide +kernel
theorem dX6_makeStepByOwnRules_27 : decode cX6_makeStepByOwnRules 27 = .ok (.aload 4, 2) := by decide +kernel
theorem dX6_makeStepByOwnRules_29 : decode cX6_makeStepByOwnRules 29 = .ok (.getfield 110, 3) := by decide +kernel
theorem dX6_makeStepByOwnRules_32 : decode cX6_makeStepByOwnRules 32 = .ok (.ifCond .eq 59, 3) := by decide +kernel
theorem dX6_makeStepByOwnRules_35 : decode cX6_makeStepByOwnRules 35 = .ok (.iload 5, 2) := by decide +kernel
theorem dX6_makeStepByOwnRules_37 : decode cX6_makeStepByOwnRules 37 = .ok (.aload_n 1, 1) := by decide +kernel
theorem dX6_makeStepByOwnRules_38 : decode cX6_makeStepByOwnRules 38 = .ok (.invokeinterface 71 1, 5) := by decide +kernel
theorem dX6_makeStepByOwnRules_43 : decode cX6_makeStepByOwnRules 43 = .ok (.if_icmp .ge 48, 3) := by decide +kernel
theorem dX6_makeStepByOwnRules_46 : decode cX6_makeStepByOwnRules 46 = .ok (.aload_n 0, 1) := by decide +kernel
theorem dX6_makeStepByOwnRules_47 : decode cX6_makeStepByOwnRules 47 = .ok (.getfield 26, 3) := by decide +kernel
theorem dX6_makeStepByOwnRules_50 : decode cX6_makeStepByOwnRules 50 = .ok (.aload 4, 2) := by decide +kernel
theorem dX6_makeStepByOwnRules_52 : decode cX6_makeStepByOwnRules 52 = .ok (.aload_n 1, 1) := by decide +kernel
theorem dX6_makeStepByOwnRules_53 : decode cX6_makeStepByOwnRules 53 = .ok (.iload 5, 2) := by decide +kernel
theorem dX6_makeStepByOwnRules_55 : decode cX6_makeStepByOwnRules 55 = .ok (.invokeinterface 77 2, 5) := by decide +kernel
theorem dX6_makeStepByOwnRules_60 : decode cX6_makeStepByOwnRules 60 = .ok (.checkcast 81, 3) := by decide +kernel
theorem dX6_makeStepByOwnRules_63 : decode cX6_makeStepByOwnRules 63 = .ok (.invokevirtual 114, 3) := by decide +kernel
theorem dX6_makeStepByOwnRules_66 : decode cX6_makeStepByOwnRules 66 = .ok (.istore 6, 2) := by decide +kernel
theorem dX6_makeStepByOwnRules_68 : decode cX6_makeStepByOwnRules 68 = .ok (.aload_n 0, 1) := by decide +kernel
theorem dX6_makeStepByOwnRules_69 : decode cX6_makeStepByOwnRules 69 = .ok (.bipush 10, 2) := by decide +kernel
theorem dX6_makeStepByOwnRules_71 : decode cX6_makeStepByOwnRules 71 = .ok (.iload_n 3, 1) := by decide +kernel
theorem dX6_makeStepByOwnRules_72 : decode cX6_makeStepByOwnRules 72 = .ok (.iadd, 1) := by decide +kernel
theorem dX6_makeStepByOwnRules_73 : decode cX6_makeStepByOwnRules 73 = .ok (.iload 5, 2) := by decide +kernel
theorem dX6_makeStepByOwnRules_75 : decode cX6_makeStepByOwnRules 75 = .ok (.iload 6, 2) := by decide +kernel
theorem dX6_makeStepByOwnRules_77 : decode cX6_makeStepByOwnRules 77 = .ok (.invokevirtual 90, 3) := by decide +kernel
theorem dX6_makeStepByOwnRules_80 : decode cX6_makeStepByOwnRules 80 = .ok (.ifCond .eq 5, 3) := by decide +kernel
theorem dX6_makeStepByOwnRules_83 : decode cX6_makeStepByOwnRules 83 = .ok (.iconst 1, 1) := by decide +kernel
theorem dX6_makeStepByOwnRules_84 : decode cX6_makeStepByOwnRules 84 = .ok (.ireturn, 1) := by decide +kernel
theorem dX6_makeStepByOwnRules_85 : decode cX6_makeStepByOwnRules 85 = .ok (.iinc 5 1, 3) := by decide +kernel
theorem dX6_makeStepByOwnRules_88 : decode cX6_makeStepByOwnRules 88 = .ok (.goto (-61), 3) := by decide +kernel
theorem dX6_makeStepByOwnRules_91 : decode cX6_makeStepByOwnRules 91 = .ok (.iinc 3 1, 3) := by decide +kernel
theorem dX6_makeStepByOwnRules_94 : decode cX6_makeStepByOwnRules 94 = .ok (.goto (-92), 3) := by decide +kernel
theorem dX6_makeStepByOwnRules_97 : decode cX6_makeStepByOwnRules 97 = .ok (.iconst 0, 1) := by decide +kernel
theorem dX6_makeStepByOwnRules_98 : decode cX6_makeStepByOwnRules 98 = .ok (.ireturn, 1) := by decide +kernel
theorem dX6_addStep_0 : decode cX6_addStep 0 = .ok (.iload_n 3, 1) := by decide +kernel
theorem dX6_addStep_1 : decode cX6_addStep 1 = .ok (.ifCond .eq 19, 3) := by decide +kernel
theorem dX6_addStep_4 : decode cX6_addStep 4 = .ok (.aload_n 0, 1) := by decide +kernel
theorem dX6_addStep_5 : decode cX6_addStep 5 = .ok (.getfield 30, 3) := by decide +kernel
theorem dX6_addStep_8 : decode cX6_addStep 8 = .ok (.ifCond .lt 12, 3) := by decide +kernel
theorem dX6_addStep_11 : decode cX6_addStep 11 = .ok (.aload_n 0, 1) := by decide +kernel
theorem dX6_addStep_12 : decode cX6_addStep 12 = .ok (.getfield 30, 3) := by decide +kernel
theorem dX6_addStep_15 : decode cX6_addStep 15 = .ok (.bipush 36, 2) := by decide +kernel
theorem dX6_addStep_17 : decode cX6_addStep 17 = .ok (.if_icmp .lt 5, 3) := by decide +kernel
theorem dX6_addStep_20 : decode cX6_addStep 20 = .ok (.iconst 0, 1) := by decide +kernel
theorem dX6_addStep_21 : decode cX6_addStep 21 = .ok (.ireturn, 1) := by decide +kernel
theorem dX6_addStep_22 : decode cX6_addStep 22 = .ok (.aload_n 0, 1) := by decide +kernel
theorem dX6_addStep_23 : decode cX6_addStep 23 = .ok (.getfield 9, 3) := by decide +kernel
theorem dX6_addStep_26 : decode cX6_addStep 26 = .ok (.aload_n 0, 1) := by decide +kernel
theorem dX6_addStep_27 : decode cX6_addStep 27 = .ok (.getfield 30, 3) := by decide +kernel
theorem dX6_addStep_30 : decode cX6_addStep 30 = .ok (.iload_n 1, 1) := by decide +kernel
theorem dX6_addStep_31 : decode cX6_addStep 31 = .ok (.iastore, 1) := by decide +kernel
theorem dX6_addStep_32 : decode cX6_addStep 32 = .ok (.aload_n 0, 1) := by decide +kernel
theorem dX6_addStep_33 : decode cX6_addStep 33 = .ok (.getfield 15, 3) := by decide +kernel
theorem dX6_addStep_36 : decode cX6_addStep 36 = .ok (.aload_n 0, 1) := by decide +kernel
theorem dX6_addStep_37 : decode cX6_addStep 37 = .ok (.getfield 30, 3) := by decide +kernel
theorem dX6_addStep_40 : decode cX6_addStep 40 = .ok (.iload_n 2, 1) := by decide +kernel
theorem dX6_addStep_41 : decode cX6_addStep 41 = .ok (.iastore, 1) := by decide +kernel
theorem dX6_addStep_42 : decode cX6_addStep 42 = .ok (.aload_n 0, 1) := by decide +kernel
theorem dX6_addStep_43 : decode cX6_addStep 43 = .ok (.getfield 18, 3) := by decide +kernel
theorem dX6_addStep_46 : decode cX6_addStep 46 = .ok (.aload_n 0, 1) := by decide +kernel
theorem dX6_addStep_47 : decode cX6_addStep 47 = .ok (.getfield 30, 3) := by decide +kernel
theorem dX6_addStep_50 : decode cX6_addStep 50 = .ok (.iload_n 3, 1) := by decide +kernel
theorem dX6_addStep_51 : decode cX6_addStep 51 = .ok (.iastore, 1) := by decide +kernel
theorem dX6_addStep_52 : decode cX6_addStep 52 = .ok (.aload_n 0, 1) := by decide +kernel
theorem dX6_addStep_53 : decode cX6_addStep 53 = .ok (.dup, 1) := by decide +kernel
theorem dX6_addStep_54 : decode cX6_addStep 54 = .ok (.getfield 38, 3) := by decide +kernel
theorem dX6_addStep_57 : decode cX6_addStep 57 = .ok (.iconst 1, 1) := by decide +kernel
theorem dX6_addStep_58 : decode cX6_addStep 58 = .ok (.iload_n 1, 1) := by decide +kernel
theorem dX6_addStep_59 : decode cX6_addStep 59 = .ok (.ishl, 1) := by decide +kernel
theorem dX6_addStep_60 : decode cX6_addStep 60 = .ok (.ior, 1) := by decide +kernel
theorem dX6_addStep_61 : decode cX6_addStep 61 = .ok (.putfield 38, 3) := by decide +kernel
theorem dX6_addStep_64 : decode cX6_addStep 64 = .ok (.aload_n 0, 1) := by decide +kernel
theorem dX6_addStep_65 : decode cX6_addStep 65 = .ok (.dup, 1) := by decide +kernel
theorem dX6_addStep_66 : decode cX6_addStep 66 = .ok (.getfield 30, 3) := by decide +kernel
theorem dX6_addStep_69 : decode cX6_addStep 69 = .ok (.iconst 1, 1) := by decide +kernel
theorem dX6_addStep_70 : decode cX6_addStep 70 = .ok (.iadd, 1) := by decide +kernel
theorem dX6_addStep_71 : decode cX6_addStep 71 = .ok (.putfield 30, 3) := by decide +kernel
theorem dX6_addStep_74 : decode cX6_addStep 74 = .ok (.iconst 1, 1) := by decide +kernel
theorem dX6_addStep_75 : decode cX6_addStep 75 = .ok (.ireturn, 1) := by decide +kernel
theorem dX7_init_0 : decode cX7_init 0 = .ok (.aload_n 0, 1) := by decide +kernel
theorem dX7_init_1 : decode cX7_init 1 = .ok (.invokespecial 3, 3) := by decide +kernel
theorem dX7_init_4 : decode cX7_init 4 = .ok (.aload_n 0, 1) := by decide +kernel
theorem dX7_init_5 : decode cX7_init 5 = .ok (.iload_n 1, 1) := by decide +kernel
theorem dX7_init_6 : decode cX7_init 6 = .ok (.putfield 9, 3) := by decide +kernel
theorem dX7_init_9 : decode cX7_init 9 = .ok (.aload_n 0, 1) := by decide +kernel
theorem dX7_init_10 : decode cX7_init 10 = .ok (.new 15, 3) := by decide +kernel
theorem dX7_init_13 : decode cX7_init 13 = .ok (.dup, 1) := by decide +kernel
theorem dX7_init_14 : decode cX7_init 14 = .ok (.invokespecial 17, 3) := by decide +kernel
theorem dX7_init_17 : decode cX7_init 17 = .ok (.putfield 18, 3) := by decide +kernel
theorem dX7_init_20 : decode cX7_init 20 = .ok (.aload_n 0, 1) := by decide +kernel
theorem dX7_init_21 : decode cX7_init 21 = .ok (.new 22, 3) := by decide +kernel
theorem dX7_init_24 : decode cX7_init 24 = .ok (.dup, 1) := by decide +kernel
theorem dX7_init_25 : decode cX7_init 25 = .ok (.iload_n 1, 1) := by decide +kernel
theorem dX7_init_26 : decode cX7_init 26 = .ok (.invokespecial 24, 3) := by decide +kernel
theorem dX7_init_29 : decode cX7_init 29 = .ok (.putfield 27, 3) := by decide +kernel
theorem dX7_init_32 : decode cX7_init 32 = .ok (.aload_n 0, 1) := by decide +kernel
theorem dX7_init_33 : decode cX7_init 33 = .ok (.iload_n 1, 1) := by decide +kernel
theorem dX7_init_34 : decode cX7_init 34 = .ok (.newarray .int, 2) := by decide +kernel
theorem dX7_init_36 : decode cX7_init 36 = .ok (.putfield 31, 3) := by decide +kernel
theorem dX7_init_39 : decode cX7_init 39 = .ok (.aload_n 0, 1) := by decide +kernel
theorem dX7_init_40 : decode cX7_init 40 = .ok (.iconst (-1), 1) := by decide +kernel
theorem dX7_init_41 : decode cX7_init 41 = .ok (.putfield 35, 3) := by decide +kernel
theorem dX7_init_44 : decode cX7_init 44 = .ok (.aload_n 0, 1) := by decide +kernel
theorem dX7_init_45 : decode cX7_init 45 = .ok (.bipush 111, 2) := by decide +kernel
theorem dX7_init_47 : decode cX7_init 47 = .ok (.putfield 38, 3) := by decide +kernel
theorem dX7_init_50 : decode cX7_init 50 = .ok (.aload_n 0, 1) := by decide +kernel
theorem dX7_init_51 : decode cX7_init 51 = .ok (.aconst_null, 1) := by decide +kernel
theorem dX7_init_52 : decode cX7_init 52 = .ok (.putfield 42, 3) := by decide +kernel
theorem dX7_init_55 : decode cX7_init 55 = .ok (.return_, 1) := by decide +kernel
theorem dX7_addClue_0 : decode cX7_addClue 0 = .ok (.aload_n 0, 1) := by decide +kernel
theorem dX7_addClue_1 : decode cX7_addClue 1 = .ok (.getfield 18, 3) := by decide +kernel
theorem dX7_addClue_4 : decode cX7_addClue 4 = .ok (.aload_n 1, 1) := by decide +kernel
theorem dX7_addClue_5 : decode cX7_addClue 5 = .ok (.invokeinterface 46 2, 5) := by decide +kernel
theorem dX7_addClue_10 : decode cX7_addClue 10 = .ok (.pop, 1) := by decide +kernel
theorem dX7_addClue_11 : decode cX7_addClue 11 = .ok (.aload_n 0, 1) := by decide +kernel
theorem dX7_addClue_12 : decode cX7_addClue 12 = .ok (.iconst (-1), 1) := by decide +kernel
theorem dX7_addClue_13 : decode cX7_addClue 13 = .ok (.putfield 35, 3) := by decide +kernel
theorem dX7_addClue_16 : decode cX7_addClue 16 = .ok (.return_, 1) := by decide +kernel
theorem dX7_findAnswers_0 : decode cX7_findAnswers 0 = .ok (.aload_n 0, 1) := by decide +kernel
theorem dX7_findAnswers_1 : decode cX7_findAnswers 1 = .ok (.getfield 35, 3) := by decide +kernel
theorem dX7_findAnswers_4 : decode cX7_findAnswers 4 = .ok (.iconst (-1), 1) := by decide +kernel
theorem dX7_findAnswers_5 : decode cX7_findAnswers 5 = .ok (.if_icmp .eq 4, 3) := by decide +kernel
theorem dX7_findAnswers_8 : decode cX7_findAnswers 8 = .ok (.return_, 1) := by decide +kernel
theorem dX7_findAnswers_9 : decode cX7_findAnswers 9 = .ok (.aload_n 0, 1) := by decide +kernel
theorem dX7_findAnswers_10 : decode cX7_findAnswers 10 = .ok (.iconst 0, 1) := by decide +kernel
theorem dX7_findAnswers_11 : decode cX7_findAnswers 11 = .ok (.putfield 35, 3) := by decide +kernel
theorem dX7_findAnswers_14 : decode cX7_findAnswers 14 = .ok (.new 52, 3) := by decide +kernel
theorem dX7_findAnswers_17 : decode cX7_findAnswers 17 = .ok (.dup, 1) := by decide +kernel
theorem dX7_findAnswers_18 : decode cX7_findAnswers 18 = .ok (.aload_n 0, 1) := by decide +kernel
theorem dX7_findAnswers_19 : decode cX7_findAnswers 19 = .ok (.getfield 9, 3) := by decide +kernel
theorem dX7_findAnswers_22 : decode cX7_findAnswers 22 = .ok (.invokespecial 54, 3) := by decide +kernel
theorem dX7_findAnswers_25 : decode cX7_findAnswers 25 = .ok (.astore_n 1, 1) := by decide +kernel
theorem dX7_findAnswers_26 : decode cX7_findAnswers 26 = .ok (.iconst 1, 1) := by decide +kernel
theorem dX7_findAnswers_27 : decode cX7_findAnswers 27 = .ok (.istore_n 2, 1) := by decide +kernel
theorem dX7_findAnswers_28 : decode cX7_findAnswers 28 = .ok (.iconst 0, 1) := by decide +kernel
theorem dX7_findAnswers_29 : decode cX7_findAnswers 29 = .ok (.istore_n 3, 1) := by decide +kernel
theorem dX7_findAnswers_30 : decode cX7_findAnswers 30 = .ok (.iload_n 2, 1) := by decide +kernel
theorem dX7_findAnswers_31 : decode cX7_findAnswers 31 = .ok (.ifCond .eq 34, 3) := by decide +kernel
theorem dX7_findAnswers_34 : decode cX7_findAnswers 34 = .ok (.iload_n 3, 1) := by decide +kernel
theorem dX7_findAnswers_35 : decode cX7_findAnswers 35 = .ok (.sipush 720, 3) := by decide +kernel
theorem dX7_findAnswers_38 : decode cX7_findAnswers 38 = .ok (.if_icmp .ge 27, 3) := by decide +kernel
theorem dX7_findAnswers_41 : decode cX7_findAnswers 41 = .ok (.aload_n 0, 1) := by decide +kernel
theorem dX7_findAnswers_42 : decode cX7_findAnswers 42 = .ok (.aload_n 1, 1) := by decide +kernel
theorem dX7_findAnswers_43 : decode cX7_findAnswers 43 = .ok (.invokevirtual 55, 3) := by decide +kernel
theorem dX7_findAnswers_46 : decode cX7_findAnswers 46 = .ok (.ifCond .eq 8, 3) := by decide +kernel
theorem dX7_findAnswers_49 : decode cX7_findAnswers 49 = .ok (.aload_n 0, 1) := by decide +kernel
theorem dX7_findAnswers_50 : decode cX7_findAnswers 50 = .ok (.aload_n 1, 1) := by decide +kernel
theorem dX7_findAnswers_51 : decode cX7_findAnswers 51 = .ok (.invokevirtual 59, 3) := by decide +kernel
theorem dX7_findAnswers_54 : decode cX7_findAnswers 54 = .ok (.aload_n 1, 1) := by decide +kernel
theorem dX7_findAnswers_55 : decode cX7_findAnswers 55 = .ok (.invokevirtual 63, 3) := by decide +kernel
theorem dX7_findAnswers_58 : decode cX7_findAnswers 58 = .ok (.istore_n 2, 1) := by decide +kernel
theorem dX7_findAnswers_59 : decode cX7_findAnswers 59 = .ok (.iinc 3 1, 3) := by decide +kernel
theorem dX7_findAnswers_62 : decode cX7_findAnswers 62 = .ok (.goto (-32), 3) := by decide +kernel
theorem dX7_findAnswers_65 : decode cX7_findAnswers 65 = .ok (.return_, 1) := by decide +kernel
theorem dX7_isAnsweredBy_0 : decode cX7_isAnsweredBy 0 = .ok (.iconst 0, 1) := by decide +kernel
theorem dX7_isAnsweredBy_1 : decode cX7_isAnsweredBy 1 = .ok (.istore_n 2, 1) := by decide +kernel
theorem dX7_isAnsweredBy_2 : decode cX7_isAnsweredBy 2 = .ok (.iload_n 2, 1) := by decide +kernel
theorem dX7_isAnsweredBy_3 : decode cX7_isAnsweredBy 3 = .ok (.aload_n 0, 1) := by decide +kernel
theorem dX7_isAnsweredBy_4 : decode cX7_isAnsweredBy 4 = .ok (.getfield 18, 3) := by decide +kernel
theorem dX7_isAnsweredBy_7 : decode cX7_isAnsweredBy 7 = .ok (.invokeinterface 67 1, 5) := by decide +kernel
theorem dX7_isAnsweredBy_12 : decode cX7_isAnsweredBy 12 = .ok (.if_icmp .ge 31, 3) := by decide +kernel
theorem dX7_isAnsweredBy_15 : decode cX7_isAnsweredBy 15 = .ok (.aload_n 0, 1) := by decide +kernel
theorem dX7_isAnsweredBy_16 : decode cX7_isAnsweredBy 16 = .ok (.getfield 18, 3) := by decide +kernel
theorem dX7_isAnsweredBy_19 : decode cX7_isAnsweredBy 19 = .ok (.iload_n 2, 1) := by decide +kernel
theorem dX7_isAnsweredBy_20 : decode cX7_isAnsweredBy 20 = .ok (.invokeinterface 71 2, 5) := by decide +kernel
theorem dX7_isAnsweredBy_25 : decode cX7_isAnsweredBy 25 = .ok (.checkcast 75, 3) := by decide +kernel
theorem dX7_isAnsweredBy_28 : decode cX7_isAnsweredBy 28 = .ok (.aload_n 1, 1) := by decide +kernel
theorem dX7_isAnsweredBy_29 : decode cX7_isAnsweredBy 29 = .ok (.invokevirtual 77, 3) := by decide +kernel
theorem dX7_isAnsweredBy_32 : decode cX7_isAnsweredBy 32 = .ok (.ifCond .ne 5, 3) := by decide +kernel
theorem dX7_isAnsweredBy_35 : decode cX7_isAnsweredBy 35 = .ok (.iconst 0, 1) := by decide +kernel
theorem dX7_isAnsweredBy_36 : decode cX7_isAnsweredBy 36 = .ok (.ireturn, 1) := by decide +kernel
theorem dX7_isAnsweredBy_37 : decode cX7_isAnsweredBy 37 = .ok (.iinc 2 1, 3) := by decide +kernel
theorem dX7_isAnsweredBy_40 : decode cX7_isAnsweredBy 40 = .ok (.goto (-38), 3) := by decide +kernel
theorem dX7_isAnsweredBy_43 : decode cX7_isAnsweredBy 43 = .ok (.iconst 1, 1) := by decide +kernel
theorem dX7_isAnsweredBy_44 : decode cX7_isAnsweredBy 44 = .ok (.ireturn, 1) := by decide +kernel
theorem dX7_addAnswer_0 : decode cX7_addAnswer 0 = .ok (.aload_n 0, 1) := by decide +kernel
theorem dX7_addAnswer_1 : decode cX7_addAnswer 1 = .ok (.getfield 35, 3) := by decide +kernel
theorem dX7_addAnswer_4 : decode cX7_addAnswer 4 = .ok (.ifCond .ne 31, 3) := by decide +kernel
theorem dX7_addAnswer_7 : decode cX7_addAnswer 7 = .ok (.iconst 0, 1) := by decide +kernel
theorem dX7_addAnswer_8 : decode cX7_addAnswer 8 = .ok (.istore_n 2, 1) := by decide +kernel
theorem dX7_addAnswer_9 : decode cX7_addAnswer 9 = .ok (.iload_n 2, 1) := by decide +kernel
theorem dX7_addAnswer_10 : decode cX7_addAnswer 10 = .ok (.aload_n 0, 1) := by decide +kernel
theorem dX7_addAnswer_11 : decode cX7_addAnswer 11 = .ok (.getfield 31, 3) := by decide +kernel
theorem dX7_addAnswer_14 : decode cX7_addAnswer 14 = .ok (.arraylength, 1) := by decide +kernel
theorem dX7_addAnswer_15 : decode cX7_addAnswer 15 = .ok (.if_icmp .ge 20, 3) := by decide +kernel
theorem dX7_addAnswer_18 : decode cX7_addAnswer 18 = .ok (.aload_n 0, 1) := by decide +kernel
theorem dX7_addAnswer_19 : decode cX7_addAnswer 19 = .ok (.getfield 31, 3) := by decide +kernel
theorem dX7_addAnswer_22 : decode cX7_addAnswer 22 = .ok (.iload_n 2, 1) := by decide +kernel
theorem dX7_addAnswer_23 : decode cX7_addAnswer 23 = .ok (.aload_n 1, 1) := by decide +kernel
theorem dX7_addAnswer_24 : decode cX7_addAnswer 24 = .ok (.iload_n 2, 1) := by decide +kernel
theorem dX7_addAnswer_25 : decode cX7_addAnswer 25 = .ok (.invokevirtual 80, 3) := by decide +kernel
theorem dX7_addAnswer_28 : decode cX7_addAnswer 28 = .ok (.iastore, 1) := by decide +kernel
theorem dX7_addAnswer_29 : decode cX7_addAnswer 29 = .ok (.iinc 2 1, 3) := by decide +kernel
theorem dX7_addAnswer_32 : decode cX7_addAnswer 32 = .ok (.goto (-23), 3) := by decide +kernel
theorem dX7_addAnswer_35 : decode cX7_addAnswer 35 = .ok (.aload_n 0, 1) := by decide +kernel
theorem dX7_addAnswer_36 : decode cX7_addAnswer 36 = .ok (.dup, 1) := by decide +kernel
theorem dX7_addAnswer_37 : decode cX7_addAnswer 37 = .ok (.getfield 35, 3) := by decide +kernel
theorem dX7_addAnswer_40 : decode cX7_addAnswer 40 = .ok (.iconst 1, 1) := by decide +kernel
theorem dX7_addAnswer_41 : decode cX7_addAnswer 41 = .ok (.iadd, 1) := by decide +kernel
theorem dX7_addAnswer_42 : decode cX7_addAnswer 42 = .ok (.putfield 35, 3) := by decide +kernel
theorem dX7_addAnswer_45 : decode cX7_addAnswer 45 = .ok (.return_, 1) := by decide +kernel
theorem dJ6_bitCount_0f7a4_0 : decode cJ6_bitCount_0f7a4 0 = .ok (.iload_n 0, 1) := by decide +kernel
theorem dJ6_bitCount_0f7a4_1 : decode cJ6_bitCount_0f7a4 1 = .ok (.iload_n 0, 1) := by decide +kernel
theorem dJ6_bitCount_0f7a4_2 : decode cJ6_bitCount_0f7a4 2 = .ok (.iconst 1, 1) := by decide +kernel
theorem dJ6_bitCount_0f7a4_3 : decode cJ6_bitCount_0f7a4 3 = .ok (.iushr, 1) := by decide +kernel
theorem dJ6_bitCount_0f7a4_4 : decode cJ6_bitCount_0f7a4 4 = .ok (.ldc_w 265, 3) := by decide +kernel
theorem dJ6_bitCount_0f7a4_7 : decode cJ6_bitCount_0f7a4 7 = .ok (.iand, 1) := by decide +kernel
theorem dJ6_bitCount_0f7a4_8 : decode cJ6_bitCount_0f7a4 8 = .ok (.isub, 1) := by decide +kernel
theorem dJ6_bitCount_0f7a4_9 : decode cJ6_bitCount_0f7a4 9 = .ok (.istore_n 0, 1) := by decide +kernel
theorem dJ6_bitCount_0f7a4_10 : decode cJ6_bitCount_0f7a4 10 = .ok (.iload_n 0, 1) := by decide +kernel
theorem dJ6_bitCount_0f7a4_11 : decode cJ6_bitCount_0f7a4 11 = .ok (.ldc_w 266, 3) := by decide +kernel
theorem dJ6_bitCount_0f7a4_14 : decode cJ6_bitCount_0f7a4 14 = .ok (.iand, 1) := by decide +kernel
theorem dJ6_bitCount_0f7a4_15 : decode cJ6_bitCount_0f7a4 15 = .ok (.iload_n 0, 1) := by decide +kernel
theorem dJ6_bitCount_0f7a4_16 : decode cJ6_bitCount_0f7a4 16 = .ok (.iconst 2, 1) := by decide +kernel
theorem dJ6_bitCount_0f7a4_17 : decode cJ6_bitCount_0f7a4 17 = .ok (.iushr, 1) := by decide +kernel
theorem dJ6_bitCount_0f7a4_18 : decode cJ6_bitCount_0f7a4 18 = .ok (.ldc_w 266, 3) := by decide +kernel
theorem dJ6_bitCount_0f7a4_21 : decode cJ6_bitCount_0f7a4 21 = .ok (.iand, 1) := by decide +kernel
theorem dJ6_bitCount_0f7a4_22 : decode cJ6_bitCount_0f7a4 22 = .ok (.iadd, 1) := by decide +kernel
theorem dJ6_bitCount_0f7a4_23 : decode cJ6_bitCount_0f7a4 23 = .ok (.istore_n 0, 1) := by decide +kernel
theorem dJ6_bitCount_0f7a4_24 : decode cJ6_bitCount_0f7a4 24 = .ok (.iload_n 0, 1) := by decide +kernel
theorem dJ6_bitCount_0f7a4_25 : decode cJ6_bitCount_0f7a4 25 = .ok (.iload_n 0, 1) := by decide +kernel
theorem dJ6_bitCount_0f7a4_26 : decode cJ6_bitCount_0f7a4 26 = .ok (.iconst 4, 1) := by decide +kernel
theorem dJ6_bitCount_0f7a4_27 : decode cJ6_bitCount_0f7a4 27 = .ok (.iushr, 1) := by decide +kernel
theorem dJ6_bitCount_0f7a4_28 : decode cJ6_bitCount_0f7a4 28 = .ok (.iadd, 1) := by decide +kernel
theorem dJ6_bitCount_0f7a4_29 : decode cJ6_bitCount_0f7a4 29 = .ok (.ldc_w 267, 3) := by decide +kernel
theorem dJ6_bitCount_0f7a4_32 : decode cJ6_bitCount_0f7a4 32 = .ok (.iand, 1) := by decide +kernel
theorem dJ6_bitCount_0f7a4_33 : decode cJ6_bitCount_0f7a4 33 = .ok (.istore_n 0, 1) := by decide +kernel
theorem dJ6_bitCount_0f7a4_34 : decode cJ6_bitCount_0f7a4 34 = .ok (.iload_n 0, 1) := by decide +kernel
theorem dJ6_bitCount_0f7a4_35 : decode cJ6_bitCount_0f7a4 35 = .ok (.iload_n 0, 1) := by decide +kernel
theorem dJ6_bitCount_0f7a4_36 : decode cJ6_bitCount_0f7a4 36 = .ok (.bipush 8, 2) := by decide +kernel
theorem dJ6_bitCount_0f7a4_38 : decode cJ6_bitCount_0f7a4 38 = .ok (.iushr, 1) := by decide +kernel
theorem dJ6_bitCount_0f7a4_39 : decode cJ6_bitCount_0f7a4 39 = .ok (.iadd, 1) := by decide +kernel
theorem dJ6_bitCount_0f7a4_40 : decode cJ6_bitCount_0f7a4 40 = .ok (.istore_n 0, 1) := by decide +kernel
theorem dJ6_bitCount_0f7a4_41 : decode cJ6_bitCount_0f7a4 41 = .ok (.iload_n 0, 1) := by decide +kernel
theorem dJ6_bitCount_0f7a4_42 : decode cJ6_bitCount_0f7a4 42 = .ok (.iload_n 0, 1) := by decide +kernel
theorem dJ6_bitCount_0f7a4_43 : decode cJ6_bitCount_0f7a4 43 = .ok (.bipush 16, 2) := by decide +kernel
theorem dJ6_bitCount_0f7a4_45 : decode cJ6_bitCount_0f7a4 45 = .ok (.iushr, 1) := by decide +kernel
theorem dJ6_bitCount_0f7a4_46 : decode cJ6_bitCount_0f7a4 46 = .ok (.iadd, 1) := by decide +kernel
theorem dJ6_bitCount_0f7a4_47 : decode cJ6_bitCount_0f7a4 47 = .ok (.istore_n 0, 1) := by decide +kernel
theorem dJ6_bitCount_0f7a4_48 : decode cJ6_bitCount_0f7a4 48 = .ok (.iload_n 0, 1) := by decide +kernel
theorem dJ6_bitCount_0f7a4_49 : decode cJ6_bitCount_0f7a4 49 = .ok (.bipush 63, 2) := by decide +kernel
theorem dJ6_bitCount_0f7a4_51 : decode cJ6_bitCount_0f7a4 51 = .ok (.iand, 1) := by decide +kernel
theorem dJ6_bitCount_0f7a4_52 : decode cJ6_bitCount_0f7a4 52 = .ok (.ireturn, 1) := by decide +kernel
theorem dJ0_length_8abf5_0 : decode cJ0_length_8abf5 0 = .ok (.aload_n 0, 1) := by decide +kernel
theorem dJ0_length_8abf5_1 : decode cJ0_length_8abf5 1 = .ok (.getfield 9, 3) := by decide +kernel
theorem dJ0_length_8abf5_4 : decode cJ0_length_8abf5 4 = .ok (.arraylength, 1) := by decide +kernel
theorem dJ0_length_8abf5_5 : decode cJ0_length_8abf5 5 = .ok (.aload_n 0, 1) := by decide +kernel
theorem dJ0_length_8abf5_6 : decode cJ0_length_8abf5 6 = .ok (.invokevirtual 335, 3) := by decide +kernel
theorem dJ0_length_8abf5_9 : decode cJ0_length_8abf5 9 = .ok (.ishr, 1) := by decide +kernel
theorem dJ0_length_8abf5_10 : decode cJ0_length_8abf5 10 = .ok (.ireturn, 1) := by decide +kernel
theorem dJ0_indexOf_0f7a4_0 : decode cJ0_indexOf_0f7a4 0 = .ok (.aload_n 0, 1) := by decide +kernel
theorem dJ0_indexOf_0f7a4_1 : decode cJ0_indexOf_0f7a4 1 = .ok (.iload_n 1, 1) := by decide +kernel
theorem dJ0_indexOf_0f7a4_2 : decode cJ0_indexOf_0f7a4 2 = .ok (.iconst 0, 1) := by decide +kernel
theorem dJ0_indexOf_0f7a4_3 : decode cJ0_indexOf_0f7a4 3 = .ok (.invokevirtual 633, 3) := by decide +kernel
theorem dJ0_indexOf_0f7a4_6 : decode cJ0_indexOf_0f7a4 6 = .ok (.ireturn, 1) := by decide +kernel
theorem dJ0_indexOf_7cf53_0 : decode cJ0_indexOf_7cf53 0 = .ok (.aload_n 0, 1) := by decide +kernel
theorem dJ0_indexOf_7cf53_1 : decode cJ0_indexOf_7cf53 1 = .ok (.invokevirtual 492, 3) := by decide +kernel
theorem dJ0_indexOf_7cf53_4 : decode cJ0_indexOf_7cf53 4 = .ok (.ifCond .eq 19, 3) := by decide +kernel
theorem dJ0_indexOf_7cf53_7 : decode cJ0_indexOf_7cf53 7 = .ok (.aload_n 0, 1) := by decide +kernel
theorem dJ0_indexOf_7cf53_8 : decode cJ0_indexOf_7cf53 8 = .ok (.getfield 9, 3) := by decide +kernel
theorem dJ0_indexOf_7cf53_11 : decode cJ0_indexOf_7cf53 11 = .ok (.iload_n 1, 1) := by decide +kernel
theorem dJ0_indexOf_7cf53_12 : decode cJ0_indexOf_7cf53 12 = .ok (.iload_n 2, 1) := by decide +kernel
theorem dJ0_indexOf_7cf53_13 : decode cJ0_indexOf_7cf53 13 = .ok (.aload_n 0, 1) := by decide +kernel
theorem dJ0_indexOf_7cf53_14 : decode cJ0_indexOf_7cf53 14 = .ok (.invokevirtual 505, 3) := by decide +kernel
theorem dJ0_indexOf_7cf53_17 : decode cJ0_indexOf_7cf53 17 = .ok (.invokestatic 637, 3) := by decide +kernel
theorem dJ0_indexOf_7cf53_20 : decode cJ0_indexOf_7cf53 20 = .ok (.goto 16, 3) := by decide +kernel
theorem dJ0_indexOf_7cf53_23 : decode cJ0_indexOf_7cf53 23 = .ok (.aload_n 0, 1) := by decide +kernel
theorem dJ0_indexOf_7cf53_24 : decode cJ0_indexOf_7cf53 24 = .ok (.getfield 9, 3) := by decide +kernel
theorem dJ0_indexOf_7cf53_27 : decode cJ0_indexOf_7cf53 27 = .ok (.iload_n 1, 1) := by decide +kernel
theorem dJ0_indexOf_7cf53_28 : decode cJ0_indexOf_7cf53 28 = .ok (.iload_n 2, 1) := by decide +kernel
theorem dJ0_indexOf_7cf53_29 : decode cJ0_indexOf_7cf53 29 = .ok (.aload_n 0, 1) := by decide +kernel
theorem dJ0_indexOf_7cf53_30 : decode cJ0_indexOf_7cf53 30 = .ok (.invokevirtual 505, 3) := by decide +kernel
theorem dJ0_indexOf_7cf53_33 : decode cJ0_indexOf_7cf53 33 = .ok (.invokestatic 640, 3) := by decide +kernel
theorem dJ0_indexOf_7cf53_36 : decode cJ0_indexOf_7cf53 36 = .ok (.ireturn, 1) := by decide +kernel
theorem dJ0_coder_7d493_0 : decode cJ0_coder_7d493 0 = .ok (.getstatic 38, 3) := by decide +kernel
theorem dJ0_coder_7d493_3 : decode cJ0_coder_7d493 3 = .ok (.ifCond .eq 10, 3) := by decide +kernel
theorem dJ0_coder_7d493_6 : decode cJ0_coder_7d493 6 = .ok (.aload_n 0, 1) := by decide +kernel
theorem dJ0_coder_7d493_7 : decode cJ0_coder_7d493 7 = .ok (.getfield 15, 3) := by decide +kernel
theorem dJ0_coder_7d493_10 : decode cJ0_coder_7d493 10 = .ok (.goto 4, 3) := by decide +kernel
theorem dJ0_coder_7d493_13 : decode cJ0_coder_7d493 13 = .ok (.iconst 1, 1) := by decide +kernel
theorem dJ0_coder_7d493_14 : decode cJ0_coder_7d493 14 = .ok (.ireturn, 1) := by decide +kernel
theorem dJ0_isLatin1_aae02_0 : decode cJ0_isLatin1_aae02 0 = .ok (.getstatic 38, 3) := by decide +kernel
theorem dJ0_isLatin1_aae02_3 : decode cJ0_isLatin1_aae02 3 = .ok (.ifCond .eq 14, 3) := by decide +kernel
theorem dJ0_isLatin1_aae02_6 : decode cJ0_isLatin1_aae02 6 = .ok (.aload_n 0, 1) := by decide +kernel
theorem dJ0_isLatin1_aae02_7 : decode cJ0_isLatin1_aae02 7 = .ok (.getfield 15, 3) := by decide +kernel
theorem dJ0_isLatin1_aae02_10 : decode cJ0_isLatin1_aae02 10 = .ok (.ifCond .ne 7, 3) := by decide +kernel
theorem dJ0_isLatin1_aae02_13 : decode cJ0_isLatin1_aae02 13 = .ok (.iconst 1, 1) := by decide +kernel
theorem dJ0_isLatin1_aae02_14 : decode cJ0_isLatin1_aae02 14 = .ok (.goto 4, 3) := by decide +kernel
theorem dJ0_isLatin1_aae02_17 : decode cJ0_isLatin1_aae02 17 = .ok (.iconst 0, 1) := by decide +kernel
theorem dJ0_isLatin1_aae02_18 : decode cJ0_isLatin1_aae02 18 = .ok (.ireturn, 1) := by decide +kernel
theorem dJ1_canEncode_9a6ad_0 : decode cJ1_canEncode_9a6ad 0 = .ok (.iload_n 0, 1) := by decide +kernel
theorem dJ1_canEncode_9a6ad_1 : decode cJ1_canEncode_9a6ad 1 = .ok (.ifCond .lt 14, 3) := by decide +kernel
theorem dJ1_canEncode_9a6ad_4 : decode cJ1_canEncode_9a6ad 4 = .ok (.iload_n 0, 1) := by decide +kernel
theorem dJ1_canEncode_9a6ad_5 : decode cJ1_canEncode_9a6ad 5 = .ok (.sipush 255, 3) := by decide +kernel
theorem dJ1_canEncode_9a6ad_8 : decode cJ1_canEncode_9a6ad 8 = .ok (.if_icmp .gt 7, 3) := by decide +kernel
theorem dJ1_canEncode_9a6ad_11 : decode cJ1_canEncode_9a6ad 11 = .ok (.iconst 1, 1) := by decide +kernel
theorem dJ1_canEncode_9a6ad_12 : decode cJ1_canEncode_9a6ad 12 = .ok (.goto 4, 3) := by decide +kernel
theorem dJ1_canEncode_9a6ad_15 : decode cJ1_canEncode_9a6ad 15 = .ok (.iconst 0, 1) := by decide +kernel
theorem dJ1_canEncode_9a6ad_16 : decode cJ1_canEncode_9a6ad 16 = .ok (.ireturn, 1) := by decide +kernel
theorem dJ1_indexOf_4cfef_0 : decode cJ1_indexOf_4cfef 0 = .ok (.iload_n 1, 1) := by decide +kernel
theorem dJ1_indexOf_4cfef_1 : decode cJ1_indexOf_4cfef 1 = .ok (.invokestatic 88, 3) := by decide +kernel
theorem dJ1_indexOf_4cfef_4 : decode cJ1_indexOf_4cfef 4 = .ok (.ifCond .ne 5, 3) := by decide +kernel
theorem dJ1_indexOf_4cfef_7 : decode cJ1_indexOf_4cfef 7 = .ok (.iconst (-1), 1) := by decide +kernel
theorem dJ1_indexOf_4cfef_8 : decode cJ1_indexOf_4cfef 8 = .ok (.ireturn, 1) := by decide +kernel
theorem dJ1_indexOf_4cfef_9 : decode cJ1_indexOf_4cfef 9 = .ok (.iload_n 2, 1) := by decide +kernel
theorem dJ1_indexOf_4cfef_10 : decode cJ1_indexOf_4cfef 10 = .ok (.iconst 0, 1) := by decide +kernel
theorem dJ1_indexOf_4cfef_11 : decode cJ1_indexOf_4cfef 11 = .ok (.invokestatic 92, 3) := by decide +kernel
theorem dJ1_indexOf_4cfef_14 : decode cJ1_indexOf_4cfef 14 = .ok (.istore_n 2, 1) := by decide +kernel
theorem dJ1_indexOf_4cfef_15 : decode cJ1_indexOf_4cfef 15 = .ok (.iload_n 3, 1) := by decide +kernel
theorem dJ1_indexOf_4cfef_16 : decode cJ1_indexOf_4cfef 16 = .ok (.aload_n 0, 1) := by decide +kernel
theorem dJ1_indexOf_4cfef_17 : decode cJ1_indexOf_4cfef 17 = .ok (.arraylength, 1) := by decide +kernel
theorem dJ1_indexOf_4cfef_18 : decode cJ1_indexOf_4cfef 18 = .ok (.invokestatic 38, 3) := by decide +kernel
theorem dJ1_indexOf_4cfef_21 : decode cJ1_indexOf_4cfef 21 = .ok (.istore_n 3, 1) := by decide +kernel
theorem dJ1_indexOf_4cfef_22 : decode cJ1_indexOf_4cfef 22 = .ok (.iload_n 2, 1) := by decide +kernel
theorem dJ1_indexOf_4cfef_23 : decode cJ1_indexOf_4cfef 23 = .ok (.iload_n 3, 1) := by decide +kernel
theorem dJ1_indexOf_4cfef_24 : decode cJ1_indexOf_4cfef 24 = .ok (.if_icmp .lt 5, 3) := by decide +kernel
theorem dJ1_indexOf_4cfef_27 : decode cJ1_indexOf_4cfef 27 = .ok (.iconst (-1), 1) := by decide +kernel
theorem dJ1_indexOf_4cfef_28 : decode cJ1_indexOf_4cfef 28 = .ok (.ireturn, 1) := by decide +kernel
theorem dJ1_indexOf_4cfef_29 : decode cJ1_indexOf_4cfef 29 = .ok (.aload_n 0, 1) := by decide +kernel
theorem dJ1_indexOf_4cfef_30 : decode cJ1_indexOf_4cfef 30 = .ok (.iload_n 1, 1) := by decide +kernel
theorem dJ1_indexOf_4cfef_31 : decode cJ1_indexOf_4cfef 31 = .ok (.iload_n 2, 1) := by decide +kernel
theorem dJ1_indexOf_4cfef_32 : decode cJ1_indexOf_4cfef 32 = .ok (.iload_n 3, 1) := by decide +kernel
theorem dJ1_indexOf_4cfef_33 : decode cJ1_indexOf_4cfef 33 = .ok (.invokestatic 95, 3) := by decide +kernel
theorem dJ1_indexOf_4cfef_36 : decode cJ1_indexOf_4cfef 36 = .ok (.ireturn, 1) := by decide +kernel
theorem dJ1_indexOfChar_4cfef_0 : decode cJ1_indexOfChar_4cfef 0 = .ok (.iload_n 1, 1) := by decide +kernel
theorem dJ1_indexOfChar_4cfef_1 : decode cJ1_indexOfChar_4cfef 1 = .ok (.i2b, 1) := by decide +kernel
theorem dJ1_indexOfChar_4cfef_2 : decode cJ1_indexOfChar_4cfef 2 = .ok (.istore 4, 2) := by decide +kernel
theorem dJ1_indexOfChar_4cfef_4 : decode cJ1_indexOfChar_4cfef 4 = .ok (.iload_n 2, 1) := by decide +kernel
theorem dJ1_indexOfChar_4cfef_5 : decode cJ1_indexOfChar_4cfef 5 = .ok (.istore 5, 2) := by decide +kernel
theorem dJ1_indexOfChar_4cfef_7 : decode cJ1_indexOfChar_4cfef 7 = .ok (.iload 5, 2) := by decide +kernel
theorem dJ1_indexOfChar_4cfef_9 : decode cJ1_indexOfChar_4cfef 9 = .ok (.iload_n 3, 1) := by decide +kernel
theorem dJ1_indexOfChar_4cfef_10 : decode cJ1_indexOfChar_4cfef 10 = .ok (.if_icmp .ge 21, 3) := by decide +kernel
theorem dJ1_indexOfChar_4cfef_13 : decode cJ1_indexOfChar_4cfef 13 = .ok (.aload_n 0, 1) := by decide +kernel
theorem dJ1_indexOfChar_4cfef_14 : decode cJ1_indexOfChar_4cfef 14 = .ok (.iload 5, 2) := by decide +kernel
theorem dJ1_indexOfChar_4cfef_16 : decode cJ1_indexOfChar_4cfef 16 = .ok (.baload, 1) := by decide +kernel
theorem dJ1_indexOfChar_4cfef_17 : decode cJ1_indexOfChar_4cfef 17 = .ok (.iload 4, 2) := by decide +kernel
theorem dJ1_indexOfChar_4cfef_19 : decode cJ1_indexOfChar_4cfef 19 = .ok (.if_icmp .ne 6, 3) := by decide +kernel
theorem dJ1_indexOfChar_4cfef_22 : decode cJ1_indexOfChar_4cfef 22 = .ok (.iload 5, 2) := by decide +kernel
theorem dJ1_indexOfChar_4cfef_24 : decode cJ1_indexOfChar_4cfef 24 = .ok (.ireturn, 1) := by decide +kernel
theorem dJ1_indexOfChar_4cfef_25 : decode cJ1_indexOfChar_4cfef 25 = .ok (.iinc 5 1, 3) := by decide +kernel
theorem dJ1_indexOfChar_4cfef_28 : decode cJ1_indexOfChar_4cfef 28 = .ok (.goto (-21), 3) := by decide +kernel
theorem dJ1_indexOfChar_4cfef_31 : decode cJ1_indexOfChar_4cfef 31 = .ok (.iconst (-1), 1) := by decide +kernel
theorem dJ1_indexOfChar_4cfef_32 : decode cJ1_indexOfChar_4cfef 32 = .ok (.ireturn, 1) := by decide +kernel
theorem dJxa1e45_init_da8c8_0 : decode cJxa1e45_init_da8c8 0 = .ok (.aload_n 0, 1) := by decide +kernel
theorem dJxa1e45_init_da8c8_1 : decode cJxa1e45_init_da8c8 1 = .ok (.invokespecial 1, 3) := by decide +kernel
theorem dJxa1e45_init_da8c8_4 : decode cJxa1e45_init_da8c8 4 = .ok (.return_, 1) := by decide +kernel
theorem dJxc12de_init_da8c8_0 : decode cJxc12de_init_da8c8 0 = .ok (.aload_n 0, 1) := by decide +kernel
theorem dJxc12de_init_da8c8_1 : decode cJxc12de_init_da8c8 1 = .ok (.invokespecial 1, 3) := by decide +kernel
theorem dJxc12de_init_da8c8_4 : decode cJxc12de_init_da8c8 4 = .ok (.aload_n 0, 1) := by decide +kernel
theorem dJxc12de_init_da8c8_5 : decode cJxc12de_init_da8c8 5 = .ok (.iconst 0, 1) := by decide +kernel
theorem dJxc12de_init_da8c8_6 : decode cJxc12de_init_da8c8 6 = .ok (.putfield 7, 3) := by decide +kernel
theorem dJxc12de_init_da8c8_9 : decode cJxc12de_init_da8c8 9 = .ok (.return_, 1) := by decide +kernel
theorem dJx4a65c_init_da8c8_0 : decode cJx4a65c_init_da8c8 0 = .ok (.aload_n 0, 1) := by decide +kernel
theorem dJx4a65c_init_da8c8_1 : decode cJx4a65c_init_da8c8 1 = .ok (.invokespecial 1, 3) := by decide +kernel
theorem dJx4a65c_init_da8c8_4 : decode cJx4a65c_init_da8c8 4 = .ok (.aload_n 0, 1) := by decide +kernel
theorem dJx4a65c_init_da8c8_5 : decode cJx4a65c_init_da8c8 5 = .ok (.getstatic 39, 3) := by decide +kernel
theorem dJx4a65c_init_da8c8_8 : decode cJx4a65c_init_da8c8 8 = .ok (.putfield 9, 3) := by decide +kernel
theorem dJx4a65c_init_da8c8_11 : decode cJx4a65c_init_da8c8 11 = .ok (.return_, 1) := by decide +kernel
theorem dJx4a65c_grow_92f84_0 : decode cJx4a65c_grow_92f84 0 = .ok (.aload_n 0, 1) := by decide +kernel
theorem dJx4a65c_grow_92f84_1 : decode cJx4a65c_grow_92f84 1 = .ok (.getfield 9, 3) := by decide +kernel
theorem dJx4a65c_grow_92f84_4 : decode cJx4a65c_grow_92f84 4 = .ok (.arraylength, 1) := by decide +kernel
theorem dJx4a65c_grow_92f84_5 : decode cJx4a65c_grow_92f84 5 = .ok (.istore_n 2, 1) := by decide +kernel
theorem dJx4a65c_grow_92f84_6 : decode cJx4a65c_grow_92f84 6 = .ok (.iload_n 2, 1) := by decide +kernel
theorem dJx4a65c_grow_92f84_7 : decode cJx4a65c_grow_92f84 7 = .ok (.ifCond .gt 13, 3) := by decide +kernel
theorem dJx4a65c_grow_92f84_10 : decode cJx4a65c_grow_92f84 10 = .ok (.aload_n 0, 1) := by decide +kernel
theorem dJx4a65c_grow_92f84_11 : decode cJx4a65c_grow_92f84 11 = .ok (.getfield 9, 3) := by decide +kernel
theorem dJx4a65c_grow_92f84_14 : decode cJx4a65c_grow_92f84 14 = .ok (.getstatic 39, 3) := by decide +kernel
theorem dJx4a65c_grow_92f84_17 : decode cJx4a65c_grow_92f84 17 = .ok (.if_acmp .eq 28, 3) := by decide +kernel
theorem dJx4a65c_grow_92f84_20 : decode cJx4a65c_grow_92f84 20 = .ok (.iload_n 2, 1) := by decide +kernel
theorem dJx4a65c_grow_92f84_21 : decode cJx4a65c_grow_92f84 21 = .ok (.iload_n 1, 1) := by decide +kernel
theorem dJx4a65c_grow_92f84_22 : decode cJx4a65c_grow_92f84 22 = .ok (.iload_n 2, 1) := by decide +kernel
theorem dJx4a65c_grow_92f84_23 : decode cJx4a65c_grow_92f84 23 = .ok (.isub, 1) := by decide +kernel
theorem dJx4a65c_grow_92f84_24 : decode cJx4a65c_grow_92f84 24 = .ok (.iload_n 2, 1) := by decide +kernel
theorem dJx4a65c_grow_92f84_25 : decode cJx4a65c_grow_92f84 25 = .ok (.iconst 1, 1) := by decide +kernel
theorem dJx4a65c_grow_92f84_26 : decode cJx4a65c_grow_92f84 26 = .ok (.ishr, 1) := by decide +kernel
theorem dJx4a65c_grow_92f84_27 : decode cJx4a65c_grow_92f84 27 = .ok (.invokestatic 73, 3) := by decide +kernel
theorem dJx4a65c_grow_92f84_30 : decode cJx4a65c_grow_92f84 30 = .ok (.istore_n 3, 1) := by decide +kernel
theorem dJx4a65c_grow_92f84_31 : decode cJx4a65c_grow_92f84 31 = .ok (.aload_n 0, 1) := by decide +kernel
theorem dJx4a65c_grow_92f84_32 : decode cJx4a65c_grow_92f84 32 = .ok (.aload_n 0, 1) := by decide +kernel
theorem dJx4a65c_grow_92f84_33 : decode cJx4a65c_grow_92f84 33 = .ok (.getfield 9, 3) := by decide +kernel
theorem dJx4a65c_grow_92f84_36 : decode cJx4a65c_grow_92f84 36 = .ok (.iload_n 3, 1) := by decide +kernel
theorem dJx4a65c_grow_92f84_37 : decode cJx4a65c_grow_92f84 37 = .ok (.invokestatic 66, 3) := by decide +kernel
theorem dJx4a65c_grow_92f84_40 : decode cJx4a65c_grow_92f84 40 = .ok (.dup_x1, 1) := by decide +kernel
theorem dJx4a65c_grow_92f84_41 : decode cJx4a65c_grow_92f84 41 = .ok (.putfield 9, 3) := by decide +kernel
theorem dJx4a65c_grow_92f84_44 : decode cJx4a65c_grow_92f84 44 = .ok (.areturn, 1) := by decide +kernel
theorem dJx4a65c_grow_92f84_45 : decode cJx4a65c_grow_92f84 45 = .ok (.aload_n 0, 1) := by decide +kernel
theorem dJx4a65c_grow_92f84_46 : decode cJx4a65c_grow_92f84 46 = .ok (.bipush 10, 2) := by decide +kernel
theorem dJx4a65c_grow_92f84_48 : decode cJx4a65c_grow_92f84 48 = .ok (.iload_n 1, 1) := by decide +kernel
theorem dJx4a65c_grow_92f84_49 : decode cJx4a65c_grow_92f84 49 = .ok (.invokestatic 79, 3) := by decide +kernel
theorem dJx4a65c_grow_92f84_52 : decode cJx4a65c_grow_92f84 52 = .ok (.anewarray 7, 3) := by decide +kernel
theorem dJx4a65c_grow_92f84_55 : decode cJx4a65c_grow_92f84 55 = .ok (.dup_x1, 1) := by decide +kernel
theorem dJx4a65c_grow_92f84_56 : decode cJx4a65c_grow_92f84 56 = .ok (.putfield 9, 3) := by decide +kernel
theorem dJx4a65c_grow_92f84_59 : decode cJx4a65c_grow_92f84 59 = .ok (.areturn, 1) := by decide +kernel
theorem dJx4a65c_grow_d5877_0 : decode cJx4a65c_grow_d5877 0 = .ok (.aload_n 0, 1) := by decide +kernel
theorem dJx4a65c_grow_d5877_1 : decode cJx4a65c_grow_d5877 1 = .ok (.aload_n 0, 1) := by decide +kernel
theorem dJx4a65c_grow_d5877_2 : decode cJx4a65c_grow_d5877 2 = .ok (.getfield 48, 3) := by decide +kernel
theorem dJx4a65c_grow_d5877_5 : decode cJx4a65c_grow_d5877 5 = .ok (.iconst 1, 1) := by decide +kernel
theorem dJx4a65c_grow_d5877_6 : decode cJx4a65c_grow_d5877 6 = .ok (.iadd, 1) := by decide +kernel
theorem dJx4a65c_grow_d5877_7 : decode cJx4a65c_grow_d5877 7 = .ok (.invokevirtual 69, 3) := by decide +kernel
theorem dJx4a65c_grow_d5877_10 : decode cJx4a65c_grow_d5877 10 = .ok (.areturn, 1) := by decide +kernel
theorem dJx4a65c_size_8abf5_0 : decode cJx4a65c_size_8abf5 0 = .ok (.aload_n 0, 1) := by decide +kernel
theorem dJx4a65c_size_8abf5_1 : decode cJx4a65c_size_8abf5 1 = .ok (.getfield 48, 3) := by decide +kernel
theorem dJx4a65c_size_8abf5_4 : decode cJx4a65c_size_8abf5 4 = .ok (.ireturn, 1) := by decide +kernel
theorem dJx4a65c_isEmpty_aae02_0 : decode cJx4a65c_isEmpty_aae02 0 = .ok (.aload_n 0, 1) := by decide +kernel
theorem dJx4a65c_isEmpty_aae02_1 : decode cJx4a65c_isEmpty_aae02 1 = .ok (.getfield 48, 3) := by decide +kernel
theorem dJx4a65c_isEmpty_aae02_4 : decode cJx4a65c_isEmpty_aae02 4 = .ok (.ifCond .ne 7, 3) := by decide +kernel
theorem dJx4a65c_isEmpty_aae02_7 : decode cJx4a65c_isEmpty_aae02 7 = .ok (.iconst 1, 1) := by decide +kernel
theorem dJx4a65c_isEmpty_aae02_8 : decode cJx4a65c_isEmpty_aae02 8 = .ok (.goto 4, 3) := by decide +kernel
theorem dJx4a65c_isEmpty_aae02_11 : decode cJx4a65c_isEmpty_aae02 11 = .ok (.iconst 0, 1) := by decide +kernel
theorem dJx4a65c_isEmpty_aae02_12 : decode cJx4a65c_isEmpty_aae02 12 = .ok (.ireturn, 1) := by decide +kernel
theorem dJx4a65c_elementData_915e3_0 : decode cJx4a65c_elementData_915e3 0 = .ok (.aload_n 0, 1) := by decide +kernel
theorem dJx4a65c_elementData_915e3_1 : decode cJx4a65c_elementData_915e3 1 = .ok (.getfield 9, 3) := by decide +kernel
theorem dJx4a65c_elementData_915e3_4 : decode cJx4a65c_elementData_915e3 4 = .ok (.iload_n 1, 1) := by decide +kernel
theorem dJx4a65c_elementData_915e3_5 : decode cJx4a65c_elementData_915e3 5 = .ok (.aaload, 1) := by decide +kernel
theorem dJx4a65c_elementData_915e3_6 : decode cJx4a65c_elementData_915e3 6 = .ok (.areturn, 1) := by decide +kernel
theorem dJx4a65c_get_915e3_0 : decode cJx4a65c_get_915e3 0 = .ok (.iload_n 1, 1) := by decide +kernel
theorem dJx4a65c_get_915e3_1 : decode cJx4a65c_get_915e3 1 = .ok (.aload_n 0, 1) := by decide +kernel
theorem dJx4a65c_get_915e3_2 : decode cJx4a65c_get_915e3 2 = .ok (.getfield 48, 3) := by decide +kernel
theorem dJx4a65c_get_915e3_5 : decode cJx4a65c_get_915e3 5 = .ok (.invokestatic 118, 3) := by decide +kernel
theorem dJx4a65c_get_915e3_8 : decode cJx4a65c_get_915e3 8 = .ok (.pop, 1) := by decide +kernel
theorem dJx4a65c_get_915e3_9 : decode cJx4a65c_get_915e3 9 = .ok (.aload_n 0, 1) := by decide +kernel
theorem dJx4a65c_get_915e3_10 : decode cJx4a65c_get_915e3 10 = .ok (.iload_n 1, 1) := by decide +kernel
theorem dJx4a65c_get_915e3_11 : decode cJx4a65c_get_915e3 11 = .ok (.invokevirtual 123, 3) := by decide +kernel
theorem dJx4a65c_get_915e3_14 : decode cJx4a65c_get_915e3 14 = .ok (.areturn, 1) := by decide +kernel
theorem dJx4a65c_add_72be8_0 : decode cJx4a65c_add_72be8 0 = .ok (.iload_n 3, 1) := by decide +kernel
theorem dJx4a65c_add_72be8_1 : decode cJx4a65c_add_72be8 1 = .ok (.aload_n 2, 1) := by decide +kernel
theorem dJx4a65c_add_72be8_2 : decode cJx4a65c_add_72be8 2 = .ok (.arraylength, 1) := by decide +kernel
theorem dJx4a65c_add_72be8_3 : decode cJx4a65c_add_72be8 3 = .ok (.if_icmp .ne 8, 3) := by decide +kernel
theorem dJx4a65c_add_72be8_6 : decode cJx4a65c_add_72be8 6 = .ok (.aload_n 0, 1) := by decide +kernel
theorem dJx4a65c_add_72be8_7 : decode cJx4a65c_add_72be8 7 = .ok (.invokevirtual 129, 3) := by decide +kernel
theorem dJx4a65c_add_72be8_10 : decode cJx4a65c_add_72be8 10 = .ok (.astore_n 2, 1) := by decide +kernel
theorem dJx4a65c_add_72be8_11 : decode cJx4a65c_add_72be8 11 = .ok (.aload_n 2, 1) := by decide +kernel
theorem dJx4a65c_add_72be8_12 : decode cJx4a65c_add_72be8 12 = .ok (.iload_n 3, 1) := by decide +kernel
theorem dJx4a65c_add_72be8_13 : decode cJx4a65c_add_72be8 13 = .ok (.aload_n 1, 1) := by decide +kernel
theorem dJx4a65c_add_72be8_14 : decode cJx4a65c_add_72be8 14 = .ok (.aastore, 1) := by decide +kernel
theorem dJx4a65c_add_72be8_15 : decode cJx4a65c_add_72be8 15 = .ok (.aload_n 0, 1) := by decide +kernel
theorem dJx4a65c_add_72be8_16 : decode cJx4a65c_add_72be8 16 = .ok (.iload_n 3, 1) := by decide +kernel
theorem dJx4a65c_add_72be8_17 : decode cJx4a65c_add_72be8 17 = .ok (.iconst 1, 1) := by decide +kernel
theorem dJx4a65c_add_72be8_18 : decode cJx4a65c_add_72be8 18 = .ok (.iadd, 1) := by decide +kernel
theorem dJx4a65c_add_72be8_19 : decode cJx4a65c_add_72be8 19 = .ok (.putfield 48, 3) := by decide +kernel
theorem dJx4a65c_add_72be8_22 : decode cJx4a65c_add_72be8 22 = .ok (.return_, 1) := by decide +kernel
theorem dJx4a65c_add_9ea2d_0 : decode cJx4a65c_add_9ea2d 0 = .ok (.aload_n 0, 1) := by decide +kernel
theorem dJx4a65c_add_9ea2d_1 : decode cJx4a65c_add_9ea2d 1 = .ok (.dup, 1) := by decide +kernel
theorem dJx4a65c_add_9ea2d_2 : decode cJx4a65c_add_9ea2d 2 = .ok (.getfield 63, 3) := by decide +kernel
theorem dJx4a65c_add_9ea2d_5 : decode cJx4a65c_add_9ea2d 5 = .ok (.iconst 1, 1) := by decide +kernel
theorem dJx4a65c_add_9ea2d_6 : decode cJx4a65c_add_9ea2d 6 = .ok (.iadd, 1) := by decide +kernel
theorem dJx4a65c_add_9ea2d_7 : decode cJx4a65c_add_9ea2d 7 = .ok (.putfield 63, 3) := by decide +kernel
theorem dJx4a65c_add_9ea2d_10 : decode cJx4a65c_add_9ea2d 10 = .ok (.aload_n 0, 1) := by decide +kernel
theorem dJx4a65c_add_9ea2d_11 : decode cJx4a65c_add_9ea2d 11 = .ok (.aload_n 1, 1) := by decide +kernel
theorem dJx4a65c_add_9ea2d_12 : decode cJx4a65c_add_9ea2d 12 = .ok (.aload_n 0, 1) := by decide +kernel
theorem dJx4a65c_add_9ea2d_13 : decode cJx4a65c_add_9ea2d 13 = .ok (.getfield 9, 3) := by decide +kernel
theorem dJx4a65c_add_9ea2d_16 : decode cJx4a65c_add_9ea2d 16 = .ok (.aload_n 0, 1) := by decide +kernel
theorem dJx4a65c_add_9ea2d_17 : decode cJx4a65c_add_9ea2d 17 = .ok (.getfield 48, 3) := by decide +kernel
theorem dJx4a65c_add_9ea2d_20 : decode cJx4a65c_add_9ea2d 20 = .ok (.invokevirtual 131, 3) := by decide +kernel
theorem dJx4a65c_add_9ea2d_23 : decode cJx4a65c_add_9ea2d 23 = .ok (.iconst 1, 1) := by decide +kernel
theorem dJx4a65c_add_9ea2d_24 : decode cJx4a65c_add_9ea2d 24 = .ok (.ireturn, 1) := by decide +kernel
theorem dJ7_copyOf_1904c_0 : decode cJ7_copyOf_1904c 0 = .ok (.aload_n 0, 1) := by decide +kernel
theorem dJ7_copyOf_1904c_1 : decode cJ7_copyOf_1904c 1 = .ok (.iload_n 1, 1) := by decide +kernel
theorem dJ7_copyOf_1904c_2 : decode cJ7_copyOf_1904c 2 = .ok (.aload_n 0, 1) := by decide +kernel
theorem dJ7_copyOf_1904c_3 : decode cJ7_copyOf_1904c 3 = .ok (.invokevirtual 86, 3) := by decide +kernel
theorem dJ7_copyOf_1904c_6 : decode cJ7_copyOf_1904c 6 = .ok (.invokestatic 300, 3) := by decide +kernel
theorem dJ7_copyOf_1904c_9 : decode cJ7_copyOf_1904c 9 = .ok (.areturn, 1) := by decide +kernel
theorem dJ7_copyOf_6403c_0 : decode cJ7_copyOf_6403c 0 = .ok (.aload_n 2, 1) := by decide +kernel
theorem dJ7_copyOf_6403c_1 : decode cJ7_copyOf_6403c 1 = .ok (.ldc 110, 2) := by decide +kernel
theorem dJ7_copyOf_6403c_3 : decode cJ7_copyOf_6403c 3 = .ok (.if_acmp .ne 10, 3) := by decide +kernel
theorem dJ7_copyOf_6403c_6 : decode cJ7_copyOf_6403c 6 = .ok (.iload_n 1, 1) := by decide +kernel
theorem dJ7_copyOf_6403c_7 : decode cJ7_copyOf_6403c 7 = .ok (.anewarray 2, 3) := by decide +kernel
theorem dJ7_copyOf_6403c_10 : decode cJ7_copyOf_6403c 10 = .ok (.goto 14, 3) := by decide +kernel
theorem dJ7_copyOf_6403c_13 : decode cJ7_copyOf_6403c 13 = .ok (.aload_n 2, 1) := by decide +kernel
theorem dJ7_copyOf_6403c_14 : decode cJ7_copyOf_6403c 14 = .ok (.invokevirtual 90, 3) := by decide +kernel
theorem dJ7_copyOf_6403c_17 : decode cJ7_copyOf_6403c 17 = .ok (.iload_n 1, 1) := by decide +kernel
theorem dJ7_copyOf_6403c_18 : decode cJ7_copyOf_6403c 18 = .ok (.invokestatic 95, 3) := by decide +kernel
theorem dJ7_copyOf_6403c_21 : decode cJ7_copyOf_6403c 21 = .ok (.checkcast 110, 3) := by decide +kernel
theorem dJ7_copyOf_6403c_24 : decode cJ7_copyOf_6403c 24 = .ok (.astore_n 3, 1) := by decide +kernel
theorem dJ7_copyOf_6403c_25 : decode cJ7_copyOf_6403c 25 = .ok (.aload_n 0, 1) := by decide +kernel
theorem dJ7_copyOf_6403c_26 : decode cJ7_copyOf_6403c 26 = .ok (.iconst 0, 1) := by decide +kernel
theorem dJ7_copyOf_6403c_27 : decode cJ7_copyOf_6403c 27 = .ok (.aload_n 3, 1) := by decide +kernel
theorem dJ7_copyOf_6403c_28 : decode cJ7_copyOf_6403c 28 = .ok (.iconst 0, 1) := by decide +kernel
theorem dJ7_copyOf_6403c_29 : decode cJ7_copyOf_6403c 29 = .ok (.aload_n 0, 1) := by decide +kernel
theorem dJ7_copyOf_6403c_30 : decode cJ7_copyOf_6403c 30 = .ok (.arraylength, 1) := by decide +kernel
theorem dJ7_copyOf_6403c_31 : decode cJ7_copyOf_6403c 31 = .ok (.iload_n 1, 1) := by decide +kernel
theorem dJ7_copyOf_6403c_32 : decode cJ7_copyOf_6403c 32 = .ok (.invokestatic 304, 3) := by decide +kernel
theorem dJ7_copyOf_6403c_35 : decode cJ7_copyOf_6403c 35 = .ok (.invokestatic 150, 3) := by decide +kernel
theorem dJ7_copyOf_6403c_38 : decode cJ7_copyOf_6403c 38 = .ok (.aload_n 3, 1) := by decide +kernel
theorem dJ7_copyOf_6403c_39 : decode cJ7_copyOf_6403c 39 = .ok (.areturn, 1) := by decide +kernel
theorem dJ15_checkIndex_7cf53_0 : decode cJ15_checkIndex_7cf53 0 = .ok (.iload_n 0, 1) := by decide +kernel
theorem dJ15_checkIndex_7cf53_1 : decode cJ15_checkIndex_7cf53 1 = .ok (.iload_n 1, 1) := by decide +kernel
theorem dJ15_checkIndex_7cf53_2 : decode cJ15_checkIndex_7cf53 2 = .ok (.aconst_null, 1) := by decide +kernel
theorem dJ15_checkIndex_7cf53_3 : decode cJ15_checkIndex_7cf53 3 = .ok (.invokestatic 105, 3) := by decide +kernel
theorem dJ15_checkIndex_7cf53_6 : decode cJ15_checkIndex_7cf53 6 = .ok (.ireturn, 1) := by decide +kernel
theorem dJ8_newLength_cabcc_0 : decode cJ8_newLength_cabcc 0 = .ok (.iload_n 0, 1) := by decide +kernel
theorem dJ8_newLength_cabcc_1 : decode cJ8_newLength_cabcc 1 = .ok (.iload_n 1, 1) := by decide +kernel
theorem dJ8_newLength_cabcc_2 : decode cJ8_newLength_cabcc 2 = .ok (.iload_n 2, 1) := by decide +kernel
theorem dJ8_newLength_cabcc_3 : decode cJ8_newLength_cabcc 3 = .ok (.invokestatic 194, 3) := by decide +kernel
theorem dJ8_newLength_cabcc_6 : decode cJ8_newLength_cabcc 6 = .ok (.iadd, 1) := by decide +kernel
theorem dJ8_newLength_cabcc_7 : decode cJ8_newLength_cabcc 7 = .ok (.istore_n 3, 1) := by decide +kernel
theorem dJ8_newLength_cabcc_8 : decode cJ8_newLength_cabcc 8 = .ok (.iconst 0, 1) := by decide +kernel
theorem dJ8_newLength_cabcc_9 : decode cJ8_newLength_cabcc 9 = .ok (.iload_n 3, 1) := by decide +kernel
theorem dJ8_newLength_cabcc_10 : decode cJ8_newLength_cabcc 10 = .ok (.if_icmp .ge 11, 3) := by decide +kernel
theorem dJ8_newLength_cabcc_13 : decode cJ8_newLength_cabcc 13 = .ok (.iload_n 3, 1) := by decide +kernel
theorem dJ8_newLength_cabcc_14 : decode cJ8_newLength_cabcc 14 = .ok (.ldc 200, 2) := by decide +kernel
theorem dJ8_newLength_cabcc_16 : decode cJ8_newLength_cabcc 16 = .ok (.if_icmp .gt 5, 3) := by decide +kernel
theorem dJ8_newLength_cabcc_19 : decode cJ8_newLength_cabcc 19 = .ok (.iload_n 3, 1) := by decide +kernel
theorem dJ8_newLength_cabcc_20 : decode cJ8_newLength_cabcc 20 = .ok (.ireturn, 1) := by decide +kernel
theorem dJ8_newLength_cabcc_21 : decode cJ8_newLength_cabcc 21 = .ok (.iload_n 0, 1) := by decide +kernel
theorem dJ8_newLength_cabcc_22 : decode cJ8_newLength_cabcc 22 = .ok (.iload_n 1, 1) := by decide +kernel
theorem dJ8_newLength_cabcc_23 : decode cJ8_newLength_cabcc 23 = .ok (.invokestatic 201, 3) := by decide +kernel
theorem dJ8_newLength_cabcc_26 : decode cJ8_newLength_cabcc 26 = .ok (.ireturn, 1) := by decide +kernel
theorem dJ3_checkIndex_8e157_0 : decode cJ3_checkIndex_8e157 0 = .ok (.iload_n 0, 1) := by decide +kernel
theorem dJ3_checkIndex_8e157_1 : decode cJ3_checkIndex_8e157 1 = .ok (.ifCond .lt 8, 3) := by decide +kernel
theorem dJ3_checkIndex_8e157_4 : decode cJ3_checkIndex_8e157 4 = .ok (.iload_n 0, 1) := by decide +kernel
theorem dJ3_checkIndex_8e157_5 : decode cJ3_checkIndex_8e157 5 = .ok (.iload_n 1, 1) := by decide +kernel
theorem dJ3_checkIndex_8e157_6 : decode cJ3_checkIndex_8e157 6 = .ok (.if_icmp .lt 10, 3) := by decide +kernel
theorem dJ3_checkIndex_8e157_9 : decode cJ3_checkIndex_8e157 9 = .ok (.aload_n 2, 1) := by decide +kernel
theorem dJ3_checkIndex_8e157_10 : decode cJ3_checkIndex_8e157 10 = .ok (.iload_n 0, 1) := by decide +kernel
theorem dJ3_checkIndex_8e157_11 : decode cJ3_checkIndex_8e157 11 = .ok (.iload_n 1, 1) := by decide +kernel
theorem dJ3_checkIndex_8e157_12 : decode cJ3_checkIndex_8e157 12 = .ok (.invokestatic 95, 3) := by decide +kernel
theorem dJ3_checkIndex_8e157_15 : decode cJ3_checkIndex_8e157 15 = .ok (.athrow, 1) := by decide +kernel
theorem dJ3_checkIndex_8e157_16 : decode cJ3_checkIndex_8e157 16 = .ok (.iload_n 0, 1) := by decide +kernel
theorem dJ3_checkIndex_8e157_17 : decode cJ3_checkIndex_8e157 17 = .ok (.ireturn, 1) := by decide +kernel
