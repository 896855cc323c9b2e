theorem dL_cell_0 : decode cL_cell 0 = .ok (.iload_n 1, 1) := by decide +kernel
theorem dL_cell_1 : decode cL_cell 1 = .ok (.aload_n 0, 1) := by decide +kernel
theorem dL_cell_2 : decode cL_cell 2 = .ok (.arraylength, 1) := by decide +kernel
theorem dL_cell_3 : decode cL_cell 3 = .ok (.if_icmp .ge 9, 3) := by decide +kernel
theorem dL_cell_6 : decode cL_cell 6 = .ok (.aload_n 0, 1) := by decide +kernel
theorem dL_cell_7 : decode cL_cell 7 = .ok (.iload_n 1, 1) := by decide +kernel
theorem dL_cell_8 : decode cL_cell 8 = .ok (.iaload, 1) := by decide +kernel
theorem dL_cell_9 : decode cL_cell 9 = .ok (.goto 15, 3) := by decide +kernel
theorem dL_cell_12 : decode cL_cell 12 = .ok (.sipush 7919, 3) := by decide +kernel
theorem dL_cell_15 : decode cL_cell 15 = .ok (.iload_n 1, 1) := by decide +kernel
theorem dL_cell_16 : decode cL_cell 16 = .ok (.iconst 3, 1) := by decide +kernel
theorem dL_cell_17 : decode cL_cell 17 = .ok (.iadd, 1) := by decide +kernel
theorem dL_cell_18 : decode cL_cell 18 = .ok (.imul, 1) := by decide +kernel
theorem dL_cell_19 : decode cL_cell 19 = .ok (.iload_n 1, 1) := by decide +kernel
theorem dL_cell_20 : decode cL_cell 20 = .ok (.bipush 11, 2) := by decide +kernel
theorem dL_cell_22 : decode cL_cell 22 = .ok (.iadd, 1) := by decide +kernel
theorem dL_cell_23 : decode cL_cell 23 = .ok (.imul, 1) := by decide +kernel
theorem dL_cell_24 : decode cL_cell 24 = .ok (.ireturn, 1) := by decide +kernel
theorem dL_low_0 : decode cL_low 0 = .ok (.iload_n 0, 1) := by decide +kernel
theorem dL_low_1 : decode cL_low 1 = .ok (.ldc 7, 2) := by decide +kernel
theorem dL_low_3 : decode cL_low 3 = .ok (.iand, 1) := by decide +kernel
theorem dL_low_4 : decode cL_low 4 = .ok (.iload_n 1, 1) := by decide +kernel
theorem dL_low_5 : decode cL_low 5 = .ok (.irem, 1) := by decide +kernel
theorem dL_low_6 : decode cL_low 6 = .ok (.ireturn, 1) := by decide +kernel
set_option maxRecDepth 20000 in
theorem ggL_does_X2_columns : GoodIn wsL_does wsX2_columns := goodIn_r _ [5, 6, 252, 253, 254, 255, 256, 257, 258] (by decide +kernel) (by decide +kernel)
set_option maxRecDepth 20000 in
theorem gL_does_X2_columns : GoodIn wsL_does (wsV RL 8 RX2 yX2_columns wsX2_columns) := goodIn_app (goodIn_of _ (by decide +kernel)) ggL_does_X2_columns
set_option maxRecDepth 20000 in
theorem ggL_does_L_low : GoodIn wsL_does wsL_low := goodIn_r _ [10, 11] (by decide +kernel) (by decide +kernel)
set_option maxRecDepth 20000 in
theorem gL_does_L_low : GoodIn wsL_does (va_wsS RL 14 yL_low wsL_low) := goodIn_app (goodIn_of _ (by decide +kernel)) ggL_does_L_low
set_option maxRecDepth 20000 in
theorem ggL_does_X2_layOut : GoodIn wsL_does wsX2_layOut := goodIn_r _ [15, 16, 6, 17, 18, 19, 4, 20, 21, 22, 23, 24, 25, 26, 27, 28, 29, 30, 31, 32, 33, 34, 35, 36, 37, 38, 39, 40, 41, 42, 43, 44, 45, 46, 47, 48, 49, 50, 51, 52, 53, 54, 55, 56, 57, 252, 253, 254, 259, 260, 261, 262, 263, 264, 265, 266, 267, 255, 256, 257, 258] (by decide +kernel) (by decide +kernel)
set_option maxRecDepth 20000 in
theorem gL_does_X2_layOut : GoodIn wsL_does (wsV RL 20 RX2 yX2_layOut wsX2_layOut) := goodIn_app (goodIn_of _ (by decide +kernel)) ggL_does_X2_layOut
set_option maxRecDepth 20000 in
theorem ggL_does_X2_visits : GoodIn wsL_does wsX2_visits := goodIn_r _ [61, 16, 252, 253, 254, 259, 260, 261, 262, 263, 264, 265, 266, 267] (by decide +kernel) (by decide +kernel)
set_option maxRecDepth 20000 in
theorem gL_does_X2_visits : GoodIn wsL_does (wsV RL 23 RX2 yX2_visits wsX2_visits) := goodIn_app (goodIn_of _ (by decide +kernel)) ggL_does_X2_visits
set_option maxRecDepth 20000 in
theorem ggL_does_X2_allVisits : GoodIn wsL_does wsX2_allVisits := goodIn_r _ [65, 16, 252, 253, 254, 259, 260, 261, 262, 263, 264, 265, 266, 267] (by decide +kernel) (by decide +kernel)
set_option maxRecDepth 20000 in
theorem gL_does_X2_allVisits : GoodIn wsL_does (wsV RL 26 RX2 yX2_allVisits wsX2_allVisits) := goodIn_app (goodIn_of _ (by decide +kernel)) ggL_does_X2_allVisits
set_option maxRecDepth 20000 in
theorem ggL_does_X2_lagging : GoodIn wsL_does wsX2_lagging := goodIn_r _ [69, 16, 70, 71, 72, 26, 73, 74, 75, 76, 77, 28, 78, 79, 80, 81, 30, 252, 253, 254, 259, 260, 261, 262, 263, 264, 265, 266, 267] (by decide +kernel) (by decide +kernel)
set_option maxRecDepth 20000 in
theorem gL_does_X2_lagging : GoodIn wsL_does (wsV RL 29 RX2 yX2_lagging wsX2_lagging) := goodIn_app (goodIn_of _ (by decide +kernel)) ggL_does_X2_lagging
set_option maxRecDepth 20000 in
theorem ggL_does_X2_pressedAway : GoodIn wsL_does wsX2_pressedAway := goodIn_r _ [85, 17, 252, 253, 254] (by decide +kernel) (by decide +kernel)
set_option maxRecDepth 20000 in
theorem gL_does_X2_pressedAway : GoodIn wsL_does (wsV RL 32 RX2 yX2_pressedAway wsX2_pressedAway) := goodIn_app (goodIn_of _ (by decide +kernel)) ggL_does_X2_pressedAway
set_option maxRecDepth 20000 in
theorem ggL_does_L_isPiled : GoodIn wsL_does wsL_isPiled := goodIn_r _ [88, 89, 90, 91, 4, 92, 16, 93, 94, 95, 96, 97, 98, 6, 99, 100, 101, 26, 102, 30, 103, 104, 105, 106, 74, 75, 76, 77, 28, 107, 108, 109, 110, 29, 111, 112, 113, 114, 62, 63, 64, 65, 115, 116, 117, 118, 119, 120, 18, 19, 20, 21, 22, 121, 122, 123, 52, 124, 56, 57, 55, 125, 126, 127, 128, 129, 130, 131, 132, 36, 34, 133, 134, 135, 136, 33, 137, 138, 139, 140, 35, 45, 46, 47, 48, 141, 142, 143, 144, 145, 146, 147, 148, 78, 79, 80, 81, 149, 150, 151, 152, 32, 153, 154, 155, 156, 157, 158, 159, 31, 160, 161, 162, 163, 164, 165, 166, 167, 58, 59, 60, 61, 252, 253, 254, 255, 256, 257, 258, 259, 260, 261, 262, 263, 264, 265, 266, 267] (by decide +kernel) (by decide +kernel)
set_option maxRecDepth 20000 in
theorem gL_does_L_isPiled : GoodIn wsL_does (va_wsS RL 35 yL_isPiled wsL_isPiled) := goodIn_app (goodIn_of _ (by decide +kernel)) ggL_does_L_isPiled
set_option maxRecDepth 20000 in
theorem ggL_does_L_isAsked : GoodIn wsL_does wsL_isAsked := goodIn_r _ [170, 171, 172, 173, 4, 174, 6, 175, 176, 177, 178, 21, 22, 93, 94, 95, 96, 97, 98, 179, 180, 181, 52, 182, 56, 183, 158, 105, 159, 111, 112, 113, 114, 184, 185, 186, 187, 16, 188, 189, 190, 26, 191, 129, 130, 131, 132, 36, 34, 192, 193, 194, 195, 33, 137, 138, 139, 140, 35, 107, 108, 109, 110, 28, 29, 196, 197, 198, 199, 45, 46, 47, 48, 141, 142, 143, 144, 145, 146, 147, 148, 30, 78, 79, 80, 81, 149, 150, 151, 152, 32, 58, 59, 60, 61, 1, 2, 3, 5, 200, 201, 202, 203, 204, 205, 206, 207, 208, 209, 210, 211, 157, 212, 213, 214, 215, 216, 217, 218, 18, 19, 20, 219, 220, 221, 222, 223, 224, 225, 226, 227, 252, 253, 254, 255, 256, 257, 258, 259, 260, 261, 262, 263, 264, 265, 266, 267] (by decide +kernel) (by decide +kernel)
set_option maxRecDepth 20000 in
theorem gL_does_L_isAsked : GoodIn wsL_does (va_wsS RL 39 yL_isAsked wsL_isAsked) := goodIn_app (goodIn_of _ (by decide +kernel)) ggL_does_L_isAsked
set_option maxRecDepth 20000 in
theorem ggL_does_L_isLowered : GoodIn wsL_does wsL_isLowered := goodIn_r _ [230, 224, 225, 226, 4, 227, 6, 175, 176, 177, 178, 21, 22, 93, 94, 95, 96, 97, 98, 18, 19, 20, 179, 180, 181, 52, 182, 56, 183, 158, 105, 159, 82, 83, 84, 85, 17, 62, 63, 64, 65, 16, 231, 232, 233, 234, 235, 236, 237, 26, 238, 33, 129, 130, 131, 132, 36, 34, 239, 240, 241, 242, 30, 31, 137, 138, 139, 140, 35, 107, 108, 109, 110, 28, 29, 196, 197, 198, 199, 45, 46, 47, 48, 149, 150, 151, 152, 32, 141, 142, 143, 144, 145, 146, 147, 148, 78, 79, 80, 81, 153, 154, 155, 156, 157, 160, 161, 162, 163, 164, 165, 166, 167, 243, 244, 245, 246, 247, 104, 106, 57, 58, 59, 60, 61, 1, 2, 3, 5, 248, 249, 250, 251, 216, 217, 89, 90, 91, 92, 99, 100, 101, 102, 103, 74, 75, 76, 77, 252, 253, 254, 255, 256, 257, 258, 259, 260, 261, 262, 263, 264, 265, 266, 267] (by decide +kernel) (by decide +kernel)
set_option maxRecDepth 20000 in
theorem gL_does_L_isLowered : GoodIn wsL_does (va_wsS RL 43 yL_isLowered wsL_isLowered) := goodIn_app (goodIn_of _ (by decide +kernel)) ggL_does_L_isLowered
theorem dL_does_0 : decode cL_does 0 = .ok (.aload_n 0, 1) := by decide +kernel
theorem dL_does_1 : decode cL_does 1 = .ok (.invokevirtual 8, 3) := by decide +kernel
theorem dL_does_4 : decode cL_does 4 = .ok (.istore_n 3, 1) := by decide +kernel
theorem dL_does_5 : decode cL_does 5 = .ok (.iload_n 2, 1) := by decide +kernel
theorem dL_does_6 : decode cL_does 6 = .ok (.iload_n 3, 1) := by decide +kernel
theorem dL_does_7 : decode cL_does 7 = .ok (.invokestatic 14, 3) := by decide +kernel
theorem dL_does_10 : decode cL_does 10 = .ok (.istore 4, 2) := by decide +kernel
theorem dL_does_12 : decode cL_does 12 = .ok (.iload 4, 2) := by decide +kernel
theorem dL_does_14 : decode cL_does 14 = .ok (.iload_n 2, 1) := by decide +kernel
theorem dL_does_15 : decode cL_does 15 = .ok (.iconst 4, 1) := by decide +kernel
theorem dL_does_16 : decode cL_does 16 = .ok (.ishr, 1) := by decide +kernel
theorem dL_does_17 : decode cL_does 17 = .ok (.iload_n 3, 1) := by decide +kernel
theorem dL_does_18 : decode cL_does 18 = .ok (.iload 4, 2) := by decide +kernel
theorem dL_does_20 : decode cL_does 20 = .ok (.isub, 1) := by decide +kernel
theorem dL_does_21 : decode cL_does 21 = .ok (.invokestatic 14, 3) := by decide +kernel
theorem dL_does_24 : decode cL_does 24 = .ok (.iadd, 1) := by decide +kernel
theorem dL_does_25 : decode cL_does 25 = .ok (.istore 5, 2) := by decide +kernel
theorem dL_does_27 : decode cL_does 27 = .ok (.iload_n 1, 1) := by decide +kernel
theorem dL_does_28 : decode cL_does 28 = .ok (.bipush 15, 2) := by decide +kernel
theorem dL_does_30 : decode cL_does 30 = .ok (.iand, 1) := by decide +kernel
theorem dL_does_31 : decode cL_does 31 = .ok (.tableswitch 176 0 6 #[41, 129, 129, 129, 129, 129, 167], 41) := by decide +kernel
theorem dL_does_72 : decode cL_does 72 = .ok (.iconst 1, 1) := by decide +kernel
theorem dL_does_73 : decode cL_does 73 = .ok (.iload_n 2, 1) := by decide +kernel
theorem dL_does_74 : decode cL_does 74 = .ok (.bipush 64, 2) := by decide +kernel
theorem dL_does_76 : decode cL_does 76 = .ok (.invokestatic 14, 3) := by decide +kernel
theorem dL_does_79 : decode cL_does 79 = .ok (.iadd, 1) := by decide +kernel
theorem dL_does_80 : decode cL_does 80 = .ok (.istore 6, 2) := by decide +kernel
theorem dL_does_82 : decode cL_does 82 = .ok (.iload_n 2, 1) := by decide +kernel
theorem dL_does_83 : decode cL_does 83 = .ok (.bipush 6, 2) := by decide +kernel
theorem dL_does_85 : decode cL_does 85 = .ok (.ishr, 1) := by decide +kernel
theorem dL_does_86 : decode cL_does 86 = .ok (.sipush 1001, 3) := by decide +kernel
theorem dL_does_89 : decode cL_does 89 = .ok (.invokestatic 14, 3) := by decide +kernel
theorem dL_does_92 : decode cL_does 92 = .ok (.istore 7, 2) := by decide +kernel
theorem dL_does_94 : decode cL_does 94 = .ok (.iload_n 1, 1) := by decide +kernel
theorem dL_does_95 : decode cL_does 95 = .ok (.bipush 48, 2) := by decide +kernel
theorem dL_does_97 : decode cL_does 97 = .ok (.iand, 1) := by decide +kernel
theorem dL_does_98 : decode cL_does 98 = .ok (.ifCond .gt 56, 3) := by decide +kernel
theorem dL_does_101 : decode cL_does 101 = .ok (.aload_n 0, 1) := by decide +kernel
theorem dL_does_102 : decode cL_does 102 = .ok (.iload 6, 2) := by decide +kernel
theorem dL_does_104 : decode cL_does 104 = .ok (.iload 7, 2) := by decide +kernel
theorem dL_does_106 : decode cL_does 106 = .ok (.invokevirtual 20, 3) := by decide +kernel
theorem dL_does_109 : decode cL_does 109 = .ok (.iload 6, 2) := by decide +kernel
theorem dL_does_111 : decode cL_does 111 = .ok (.iload 7, 2) := by decide +kernel
theorem dL_does_113 : decode cL_does 113 = .ok (.imul, 1) := by decide +kernel
theorem dL_does_114 : decode cL_does 114 = .ok (.if_icmp .ne 44, 3) := by decide +kernel
theorem dL_does_117 : decode cL_does 117 = .ok (.aload_n 0, 1) := by decide +kernel
theorem dL_does_118 : decode cL_does 118 = .ok (.invokevirtual 8, 3) := by decide +kernel
theorem dL_does_121 : decode cL_does 121 = .ok (.iload 6, 2) := by decide +kernel
theorem dL_does_123 : decode cL_does 123 = .ok (.if_icmp .ne 35, 3) := by decide +kernel
theorem dL_does_126 : decode cL_does 126 = .ok (.aload_n 0, 1) := by decide +kernel
theorem dL_does_127 : decode cL_does 127 = .ok (.invokevirtual 23, 3) := by decide +kernel
theorem dL_does_130 : decode cL_does 130 = .ok (.ifCond .ne 28, 3) := by decide +kernel
theorem dL_does_133 : decode cL_does 133 = .ok (.aload_n 0, 1) := by decide +kernel
theorem dL_does_134 : decode cL_does 134 = .ok (.invokevirtual 26, 3) := by decide +kernel
theorem dL_does_137 : decode cL_does 137 = .ok (.ifCond .ne 21, 3) := by decide +kernel
theorem dL_does_140 : decode cL_does 140 = .ok (.aload_n 0, 1) := by decide +kernel
theorem dL_does_141 : decode cL_does 141 = .ok (.invokevirtual 29, 3) := by decide +kernel
theorem dL_does_144 : decode cL_does 144 = .ok (.ifCond .ne 14, 3) := by decide +kernel
theorem dL_does_147 : decode cL_does 147 = .ok (.aload_n 0, 1) := by decide +kernel
theorem dL_does_148 : decode cL_does 148 = .ok (.invokevirtual 32, 3) := by decide +kernel
theorem dL_does_151 : decode cL_does 151 = .ok (.ifCond .ne 7, 3) := by decide +kernel
theorem dL_does_154 : decode cL_does 154 = .ok (.iconst 1, 1) := by decide +kernel
theorem dL_does_155 : decode cL_does 155 = .ok (.goto 4, 3) := by decide +kernel
theorem dL_does_158 : decode cL_does 158 = .ok (.iconst 0, 1) := by decide +kernel
theorem dL_does_159 : decode cL_does 159 = .ok (.ireturn, 1) := by decide +kernel
theorem dL_does_160 : decode cL_does 160 = .ok (.aload_n 0, 1) := by decide +kernel
theorem dL_does_161 : decode cL_does 161 = .ok (.iload 4, 2) := by decide +kernel
theorem dL_does_163 : decode cL_does 163 = .ok (.iconst 1, 1) := by decide +kernel
theorem dL_does_164 : decode cL_does 164 = .ok (.iload_n 1, 1) := by decide +kernel
theorem dL_does_165 : decode cL_does 165 = .ok (.iconst 4, 1) := by decide +kernel
theorem dL_does_166 : decode cL_does 166 = .ok (.ishr, 1) := by decide +kernel
theorem dL_does_167 : decode cL_does 167 = .ok (.iload_n 1, 1) := by decide +kernel
theorem dL_does_168 : decode cL_does 168 = .ok (.bipush 64, 2) := by decide +kernel
theorem dL_does_170 : decode cL_does 170 = .ok (.iand, 1) := by decide +kernel
theorem dL_does_171 : decode cL_does 171 = .ok (.ifCond .ne 9, 3) := by decide +kernel
theorem dL_does_174 : decode cL_does 174 = .ok (.sipush 1000, 3) := by decide +kernel
theorem dL_does_177 : decode cL_does 177 = .ok (.goto 5, 3) := by decide +kernel
theorem dL_does_180 : decode cL_does 180 = .ok (.bipush 90, 2) := by decide +kernel
theorem dL_does_182 : decode cL_does 182 = .ok (.invokestatic 14, 3) := by decide +kernel
theorem dL_does_185 : decode cL_does 185 = .ok (.iadd, 1) := by decide +kernel
theorem dL_does_186 : decode cL_does 186 = .ok (.iload_n 1, 1) := by decide +kernel
theorem dL_does_187 : decode cL_does 187 = .ok (.bipush 7, 2) := by decide +kernel
theorem dL_does_189 : decode cL_does 189 = .ok (.ishr, 1) := by decide +kernel
theorem dL_does_190 : decode cL_does 190 = .ok (.iload_n 3, 1) := by decide +kernel
theorem dL_does_191 : decode cL_does 191 = .ok (.invokestatic 14, 3) := by decide +kernel
theorem dL_does_194 : decode cL_does 194 = .ok (.invokestatic 35, 3) := by decide +kernel
theorem dL_does_197 : decode cL_does 197 = .ok (.ireturn, 1) := by decide +kernel
theorem dL_does_198 : decode cL_does 198 = .ok (.aload_n 0, 1) := by decide +kernel
theorem dL_does_199 : decode cL_does 199 = .ok (.iload 4, 2) := by decide +kernel
theorem dL_does_201 : decode cL_does 201 = .ok (.iload 5, 2) := by decide +kernel
theorem dL_does_203 : decode cL_does 203 = .ok (.invokestatic 39, 3) := by decide +kernel
theorem dL_does_206 : decode cL_does 206 = .ok (.ireturn, 1) := by decide +kernel
theorem dL_does_207 : decode cL_does 207 = .ok (.aload_n 0, 1) := by decide +kernel
theorem dL_does_208 : decode cL_does 208 = .ok (.iload 4, 2) := by decide +kernel
theorem dL_does_210 : decode cL_does 210 = .ok (.iload 5, 2) := by decide +kernel
theorem dL_does_212 : decode cL_does 212 = .ok (.iload_n 1, 1) := by decide +kernel
theorem dL_does_213 : decode cL_does 213 = .ok (.iconst 4, 1) := by decide +kernel
theorem dL_does_214 : decode cL_does 214 = .ok (.ishr, 1) := by decide +kernel
theorem dL_does_215 : decode cL_does 215 = .ok (.iload_n 1, 1) := by decide +kernel
theorem dL_does_216 : decode cL_does 216 = .ok (.bipush 16, 2) := by decide +kernel
theorem dL_does_218 : decode cL_does 218 = .ok (.iand, 1) := by decide +kernel
theorem dL_does_219 : decode cL_does 219 = .ok (.ifCond .ne 9, 3) := by decide +kernel
theorem dL_does_222 : decode cL_does 222 = .ok (.sipush 1001, 3) := by decide +kernel
theorem dL_does_225 : decode cL_does 225 = .ok (.goto 6, 3) := by decide +kernel
theorem dL_does_228 : decode cL_does 228 = .ok (.sipush 300, 3) := by decide +kernel
theorem dL_does_231 : decode cL_does 231 = .ok (.invokestatic 14, 3) := by decide +kernel
theorem dL_does_234 : decode cL_does 234 = .ok (.invokestatic 43, 3) := by decide +kernel
theorem dL_does_237 : decode cL_does 237 = .ok (.ireturn, 1) := by decide +kernel
set_option maxRecDepth 20000 in
theorem ggL_isPiled_X2_height : GoodIn wsL_isPiled wsX2_height := goodIn_r _ [5, 6, 7, 8, 9, 4, 10, 11, 12, 13, 14, 15, 16, 17, 18, 19, 20, 21, 22, 23, 24, 25, 26, 27, 28, 29, 30, 31, 32, 33, 122, 123, 124, 125, 126, 127, 128, 129, 130, 131, 132, 133, 134, 135, 136, 137] (by decide +kernel) (by decide +kernel)
set_option maxRecDepth 20000 in
theorem gL_isPiled_X2_height : GoodIn wsL_isPiled (wsV RL 46 RX2 yX2_height wsX2_height) := goodIn_app (goodIn_of _ (by decide +kernel)) ggL_isPiled_X2_height
set_option maxRecDepth 20000 in
theorem ggL_isPiled_X2_heightOfColumn : GoodIn wsL_isPiled wsX2_heightOfColumn := goodIn_r _ [37, 13, 7, 8, 9, 4, 10, 11, 12, 122, 123, 124, 125, 126, 127, 128] (by decide +kernel) (by decide +kernel)
set_option maxRecDepth 20000 in
theorem gL_isPiled_X2_heightOfColumn : GoodIn wsL_isPiled (wsV RL 50 RX2 yX2_heightOfColumn wsX2_heightOfColumn) := goodIn_app (goodIn_of _ (by decide +kernel)) ggL_isPiled_X2_heightOfColumn
set_option maxRecDepth 20000 in
theorem ggL_isPiled_X2_allVisits : GoodIn wsL_isPiled wsX2_allVisits := goodIn_r _ [41, 6, 122, 123, 124, 129, 130, 131, 132, 133, 134, 135, 136, 137] (by decide +kernel) (by decide +kernel)
set_option maxRecDepth 20000 in
theorem gL_isPiled_X2_allVisits : GoodIn wsL_isPiled (wsV RL 26 RX2 yX2_allVisits wsX2_allVisits) := goodIn_app (goodIn_of _ (by decide +kernel)) ggL_isPiled_X2_allVisits
set_option maxRecDepth 20000 in
theorem ggL_isPiled_X2_pile : GoodIn wsL_isPiled wsX2_pile := goodIn_r _ [45, 46, 47, 13, 6, 7, 8, 9, 4, 10, 11, 12, 48, 49, 50, 51, 52, 53, 54, 55, 56, 57, 58, 59, 60, 61, 62, 63, 17, 64, 65, 66, 67, 68, 69, 70, 71, 72, 73, 74, 19, 75, 28, 76, 77, 78, 79, 80, 81, 82, 83, 84, 33, 85, 86, 87, 88, 89, 90, 91, 92, 93, 94, 95, 96, 97, 98, 99, 100, 101, 102, 103, 104, 105, 106, 107, 22, 108, 109, 110, 111, 112, 113, 114, 115, 116, 117, 122, 123, 124, 125, 126, 127, 128, 129, 130, 131, 132, 133, 134, 135, 136, 137] (by decide +kernel) (by decide +kernel)
set_option maxRecDepth 20000 in
theorem gL_isPiled_X2_pile : GoodIn wsL_isPiled (wsV RL 53 RX2 yX2_pile wsX2_pile) := goodIn_app (goodIn_of _ (by decide +kernel)) ggL_isPiled_X2_pile
set_option maxRecDepth 20000 in
theorem ggL_isPiled_X2_visits : GoodIn wsL_isPiled wsX2_visits := goodIn_r _ [121, 6, 122, 123, 124, 129, 130, 131, 132, 133, 134, 135, 136, 137] (by decide +kernel) (by decide +kernel)
set_option maxRecDepth 20000 in
theorem gL_isPiled_X2_visits : GoodIn wsL_isPiled (wsV RL 23 RX2 yX2_visits wsX2_visits) := goodIn_app (goodIn_of _ (by decide +kernel)) ggL_isPiled_X2_visits
theorem dL_isPiled_0 : decode cL_isPiled 0 = .ok (.aload_n 0, 1) := by decide +kernel
theorem dL_isPiled_1 : decode cL_isPiled 1 = .ok (.iload_n 1, 1) := by decide +kernel
theorem dL_isPiled_2 : decode cL_isPiled 2 = .ok (.invokevirtual 46, 3) := by decide +kernel
theorem dL_isPiled_5 : decode cL_isPiled 5 = .ok (.istore 4, 2) := by decide +kernel
theorem dL_isPiled_7 : decode cL_isPiled 7 = .ok (.iload 4, 2) := by decide +kernel
theorem dL_isPiled_9 : decode cL_isPiled 9 = .ok (.iload_n 2, 1) := by decide +kernel
theorem dL_isPiled_10 : decode cL_isPiled 10 = .ok (.iadd, 1) := by decide +kernel
theorem dL_isPiled_11 : decode cL_isPiled 11 = .ok (.sipush 1000, 3) := by decide +kernel
theorem dL_isPiled_14 : decode cL_isPiled 14 = .ok (.if_icmp .le 5, 3) := by decide +kernel
theorem dL_isPiled_17 : decode cL_isPiled 17 = .ok (.iconst 1, 1) := by decide +kernel
theorem dL_isPiled_18 : decode cL_isPiled 18 = .ok (.ireturn, 1) := by decide +kernel
theorem dL_isPiled_19 : decode cL_isPiled 19 = .ok (.aload_n 0, 1) := by decide +kernel
theorem dL_isPiled_20 : decode cL_isPiled 20 = .ok (.iload_n 3, 1) := by decide +kernel
theorem dL_isPiled_21 : decode cL_isPiled 21 = .ok (.invokevirtual 50, 3) := by decide +kernel
theorem dL_isPiled_24 : decode cL_isPiled 24 = .ok (.istore 5, 2) := by decide +kernel
theorem dL_isPiled_26 : decode cL_isPiled 26 = .ok (.aload_n 0, 1) := by decide +kernel
theorem dL_isPiled_27 : decode cL_isPiled 27 = .ok (.invokevirtual 26, 3) := by decide +kernel
theorem dL_isPiled_30 : decode cL_isPiled 30 = .ok (.istore 6, 2) := by decide +kernel
theorem dL_isPiled_32 : decode cL_isPiled 32 = .ok (.aload_n 0, 1) := by decide +kernel
theorem dL_isPiled_33 : decode cL_isPiled 33 = .ok (.iload_n 1, 1) := by decide +kernel
theorem dL_isPiled_34 : decode cL_isPiled 34 = .ok (.iload_n 2, 1) := by decide +kernel
theorem dL_isPiled_35 : decode cL_isPiled 35 = .ok (.invokevirtual 53, 3) := by decide +kernel
theorem dL_isPiled_38 : decode cL_isPiled 38 = .ok (.iload 4, 2) := by decide +kernel
theorem dL_isPiled_40 : decode cL_isPiled 40 = .ok (.iload_n 2, 1) := by decide +kernel
theorem dL_isPiled_41 : decode cL_isPiled 41 = .ok (.iadd, 1) := by decide +kernel
theorem dL_isPiled_42 : decode cL_isPiled 42 = .ok (.if_icmp .ne 34, 3) := by decide +kernel
theorem dL_isPiled_45 : decode cL_isPiled 45 = .ok (.aload_n 0, 1) := by decide +kernel
theorem dL_isPiled_46 : decode cL_isPiled 46 = .ok (.iload_n 1, 1) := by decide +kernel
theorem dL_isPiled_47 : decode cL_isPiled 47 = .ok (.invokevirtual 46, 3) := by decide +kernel
theorem dL_isPiled_50 : decode cL_isPiled 50 = .ok (.iload 4, 2) := by decide +kernel
theorem dL_isPiled_52 : decode cL_isPiled 52 = .ok (.iload_n 2, 1) := by decide +kernel
theorem dL_isPiled_53 : decode cL_isPiled 53 = .ok (.iadd, 1) := by decide +kernel
theorem dL_isPiled_54 : decode cL_isPiled 54 = .ok (.if_icmp .ne 22, 3) := by decide +kernel
theorem dL_isPiled_57 : decode cL_isPiled 57 = .ok (.iload_n 3, 1) := by decide +kernel
theorem dL_isPiled_58 : decode cL_isPiled 58 = .ok (.iload_n 1, 1) := by decide +kernel
theorem dL_isPiled_59 : decode cL_isPiled 59 = .ok (.if_icmp .eq 13, 3) := by decide +kernel
theorem dL_isPiled_62 : decode cL_isPiled 62 = .ok (.aload_n 0, 1) := by decide +kernel
theorem dL_isPiled_63 : decode cL_isPiled 63 = .ok (.iload_n 3, 1) := by decide +kernel
theorem dL_isPiled_64 : decode cL_isPiled 64 = .ok (.invokevirtual 50, 3) := by decide +kernel
theorem dL_isPiled_67 : decode cL_isPiled 67 = .ok (.iload 5, 2) := by decide +kernel
theorem dL_isPiled_69 : decode cL_isPiled 69 = .ok (.if_icmp .ne 7, 3) := by decide +kernel
theorem dL_isPiled_72 : decode cL_isPiled 72 = .ok (.iconst 1, 1) := by decide +kernel
theorem dL_isPiled_73 : decode cL_isPiled 73 = .ok (.goto 4, 3) := by decide +kernel
theorem dL_isPiled_76 : decode cL_isPiled 76 = .ok (.iconst 0, 1) := by decide +kernel
theorem dL_isPiled_77 : decode cL_isPiled 77 = .ok (.istore 7, 2) := by decide +kernel
theorem dL_isPiled_79 : decode cL_isPiled 79 = .ok (.iload 7, 2) := by decide +kernel
theorem dL_isPiled_81 : decode cL_isPiled 81 = .ok (.ifCond .eq 38, 3) := by decide +kernel
theorem dL_isPiled_84 : decode cL_isPiled 84 = .ok (.aload_n 0, 1) := by decide +kernel
theorem dL_isPiled_85 : decode cL_isPiled 85 = .ok (.invokevirtual 23, 3) := by decide +kernel
theorem dL_isPiled_88 : decode cL_isPiled 88 = .ok (.iconst 1, 1) := by decide +kernel
theorem dL_isPiled_89 : decode cL_isPiled 89 = .ok (.if_icmp .lt 30, 3) := by decide +kernel
theorem dL_isPiled_92 : decode cL_isPiled 92 = .ok (.aload_n 0, 1) := by decide +kernel
theorem dL_isPiled_93 : decode cL_isPiled 93 = .ok (.invokevirtual 23, 3) := by decide +kernel
theorem dL_isPiled_96 : decode cL_isPiled 96 = .ok (.bipush 7, 2) := by decide +kernel
theorem dL_isPiled_98 : decode cL_isPiled 98 = .ok (.if_icmp .gt 21, 3) := by decide +kernel
theorem dL_isPiled_101 : decode cL_isPiled 101 = .ok (.aload_n 0, 1) := by decide +kernel
theorem dL_isPiled_102 : decode cL_isPiled 102 = .ok (.invokevirtual 26, 3) := by decide +kernel
theorem dL_isPiled_105 : decode cL_isPiled 105 = .ok (.iload 6, 2) := by decide +kernel
theorem dL_isPiled_107 : decode cL_isPiled 107 = .ok (.aload_n 0, 1) := by decide +kernel
theorem dL_isPiled_108 : decode cL_isPiled 108 = .ok (.invokevirtual 23, 3) := by decide +kernel
theorem dL_isPiled_111 : decode cL_isPiled 111 = .ok (.iadd, 1) := by decide +kernel
theorem dL_isPiled_112 : decode cL_isPiled 112 = .ok (.if_icmp .ne 7, 3) := by decide +kernel
theorem dL_isPiled_115 : decode cL_isPiled 115 = .ok (.iconst 1, 1) := by decide +kernel
theorem dL_isPiled_116 : decode cL_isPiled 116 = .ok (.goto 4, 3) := by decide +kernel
theorem dL_isPiled_119 : decode cL_isPiled 119 = .ok (.iconst 0, 1) := by decide +kernel
theorem dL_isPiled_120 : decode cL_isPiled 120 = .ok (.ireturn, 1) := by decide +kernel
set_option maxRecDepth 20000 in
theorem ggL_isAsked_X2_earthByColumns : GoodIn wsL_isAsked wsX2_earthByColumns := goodIn_r _ [5, 6, 7, 8, 9, 4, 10, 11, 12, 13, 14, 15, 16, 17, 18, 19, 20, 21, 22, 23, 24, 25, 26, 27, 28, 131, 132, 133, 134, 135, 136, 137] (by decide +kernel) (by decide +kernel)
set_option maxRecDepth 20000 in
theorem gL_isAsked_X2_earthByColumns : GoodIn wsL_isAsked (wsV RL 56 RX2 yX2_earthByColumns wsX2_earthByColumns) := goodIn_app (goodIn_of _ (by decide +kernel)) ggL_isAsked_X2_earthByColumns
set_option maxRecDepth 20000 in
theorem ggL_isAsked_X2_heightOfColumn : GoodIn wsL_isAsked wsX2_heightOfColumn := goodIn_r _ [32, 6, 13, 14, 15, 4, 16, 17, 18, 131, 132, 133, 134, 135, 136, 137] (by decide +kernel) (by decide +kernel)
set_option maxRecDepth 20000 in
theorem gL_isAsked_X2_heightOfColumn : GoodIn wsL_isAsked (wsV RL 50 RX2 yX2_heightOfColumn wsX2_heightOfColumn) := goodIn_app (goodIn_of _ (by decide +kernel)) ggL_isAsked_X2_heightOfColumn
set_option maxRecDepth 20000 in
theorem ggL_isAsked_X2_earth : GoodIn wsL_isAsked wsX2_earth := goodIn_r _ [36, 37, 7, 8, 9, 4, 10, 11, 12, 13, 14, 15, 16, 17, 18, 6, 38, 39, 40, 41, 42, 43, 44, 45, 46, 47, 48, 49, 50, 51, 52, 53, 54, 55, 56, 57, 58, 59, 60, 61, 62, 63, 64, 65, 66, 67, 68, 69, 70, 71, 72, 73, 74, 75, 76, 77, 78, 79, 80, 81, 82, 83, 84, 85, 86, 87, 88, 89, 90, 131, 132, 133, 134, 135, 136, 137, 138, 139, 140, 141, 142, 143, 144, 145, 146] (by decide +kernel) (by decide +kernel)
set_option maxRecDepth 20000 in
theorem gL_isAsked_X2_earth : GoodIn wsL_isAsked (wsV RL 59 RX2 yX2_earth wsX2_earth) := goodIn_app (goodIn_of _ (by decide +kernel)) ggL_isAsked_X2_earth
set_option maxRecDepth 20000 in
theorem ggL_isAsked_X2_visits : GoodIn wsL_isAsked wsX2_visits := goodIn_r _ [94, 37, 131, 132, 133, 138, 139, 140, 141, 142, 143, 144, 145, 146] (by decide +kernel) (by decide +kernel)
set_option maxRecDepth 20000 in
theorem gL_isAsked_X2_visits : GoodIn wsL_isAsked (wsV RL 23 RX2 yX2_visits wsX2_visits) := goodIn_app (goodIn_of _ (by decide +kernel)) ggL_isAsked_X2_visits
set_option maxRecDepth 20000 in
theorem ggL_isAsked_X2_columns : GoodIn wsL_isAsked wsX2_columns := goodIn_r _ [98, 6, 131, 132, 133, 134, 135, 136, 137] (by decide +kernel) (by decide +kernel)
set_option maxRecDepth 20000 in
theorem gL_isAsked_X2_columns : GoodIn wsL_isAsked (wsV RL 8 RX2 yX2_columns wsX2_columns) := goodIn_app (goodIn_of _ (by decide +kernel)) ggL_isAsked_X2_columns
set_option maxRecDepth 20000 in
theorem ggL_isAsked_X2_top : GoodIn wsL_isAsked wsX2_top := goodIn_r _ [102, 37, 7, 8, 9, 4, 10, 11, 12, 13, 14, 15, 16, 17, 18, 6, 103, 104, 105, 41, 106, 43, 44, 45, 46, 47, 48, 107, 108, 109, 110, 81, 111, 26, 27, 28, 54, 55, 56, 57, 58, 59, 60, 61, 62, 63, 64, 65, 66, 67, 68, 69, 70, 71, 72, 73, 74, 75, 76, 77, 78, 79, 80, 82, 83, 84, 85, 86, 87, 88, 89, 53, 90, 131, 132, 133, 134, 135, 136, 137, 138, 139, 140, 141, 142, 143, 144, 145, 146] (by decide +kernel) (by decide +kernel)
set_option maxRecDepth 20000 in
theorem gL_isAsked_X2_top : GoodIn wsL_isAsked (wsV RL 62 RX2 yX2_top wsX2_top) := goodIn_app (goodIn_of _ (by decide +kernel)) ggL_isAsked_X2_top
set_option maxRecDepth 20000 in
theorem ggL_isAsked_X2_ceilingFor : GoodIn wsL_isAsked wsX2_ceilingFor := goodIn_r _ [115, 116, 117, 118, 6, 7, 8, 9, 4, 10, 11, 12, 13, 14, 15, 16, 17, 18, 119, 120, 121, 122, 123, 124, 22, 125, 126, 20, 21, 23, 24, 25, 26, 27, 28, 131, 132, 133, 134, 135, 136, 137] (by decide +kernel) (by decide +kernel)
set_option maxRecDepth 20000 in
theorem gL_isAsked_X2_ceilingFor : GoodIn wsL_isAsked (wsV RL 65 RX2 yX2_ceilingFor wsX2_ceilingFor) := goodIn_app (goodIn_of _ (by decide +kernel)) ggL_isAsked_X2_ceilingFor
set_option maxRecDepth 20000 in
theorem ggL_isAsked_X2_wouldPress : GoodIn wsL_isAsked wsX2_wouldPress := goodIn_r _ [130, 6, 7, 8, 9, 4, 10, 11, 12, 13, 14, 15, 16, 17, 18, 119, 120, 121, 19, 20, 21, 22, 23, 24, 25, 26, 27, 28, 131, 132, 133, 134, 135, 136, 137] (by decide +kernel) (by decide +kernel)
set_option maxRecDepth 20000 in
theorem gL_isAsked_X2_wouldPress : GoodIn wsL_isAsked (wsV RL 69 RX2 yX2_wouldPress wsX2_wouldPress) := goodIn_app (goodIn_of _ (by decide +kernel)) ggL_isAsked_X2_wouldPress
theorem dL_isAsked_0 : decode cL_isAsked 0 = .ok (.aload_n 0, 1) := by decide +kernel
theorem dL_isAsked_1 : decode cL_isAsked 1 = .ok (.iload_n 1, 1) := by decide +kernel
theorem dL_isAsked_2 : decode cL_isAsked 2 = .ok (.iload_n 2, 1) := by decide +kernel
theorem dL_isAsked_3 : decode cL_isAsked 3 = .ok (.invokevirtual 56, 3) := by decide +kernel
theorem dL_isAsked_6 : decode cL_isAsked 6 = .ok (.istore_n 3, 1) := by decide +kernel
theorem dL_isAsked_7 : decode cL_isAsked 7 = .ok (.iconst 0, 1) := by decide +kernel
theorem dL_isAsked_8 : decode cL_isAsked 8 = .ok (.istore 4, 2) := by decide +kernel
theorem dL_isAsked_10 : decode cL_isAsked 10 = .ok (.iload_n 1, 1) := by decide +kernel
theorem dL_isAsked_11 : decode cL_isAsked 11 = .ok (.istore 5, 2) := by decide +kernel
theorem dL_isAsked_13 : decode cL_isAsked 13 = .ok (.iload 5, 2) := by decide +kernel
theorem dL_isAsked_15 : decode cL_isAsked 15 = .ok (.iload_n 2, 1) := by decide +kernel
theorem dL_isAsked_16 : decode cL_isAsked 16 = .ok (.if_icmp .gt 33, 3) := by decide +kernel
theorem dL_isAsked_19 : decode cL_isAsked 19 = .ok (.aload_n 0, 1) := by decide +kernel
theorem dL_isAsked_20 : decode cL_isAsked 20 = .ok (.iload 5, 2) := by decide +kernel
theorem dL_isAsked_22 : decode cL_isAsked 22 = .ok (.invokevirtual 50, 3) := by decide +kernel
theorem dL_isAsked_25 : decode cL_isAsked 25 = .ok (.iload 4, 2) := by decide +kernel
theorem dL_isAsked_27 : decode cL_isAsked 27 = .ok (.if_icmp .le 12, 3) := by decide +kernel
theorem dL_isAsked_30 : decode cL_isAsked 30 = .ok (.aload_n 0, 1) := by decide +kernel
theorem dL_isAsked_31 : decode cL_isAsked 31 = .ok (.iload 5, 2) := by decide +kernel
theorem dL_isAsked_33 : decode cL_isAsked 33 = .ok (.invokevirtual 50, 3) := by decide +kernel
theorem dL_isAsked_36 : decode cL_isAsked 36 = .ok (.goto 5, 3) := by decide +kernel
theorem dL_isAsked_39 : decode cL_isAsked 39 = .ok (.iload 4, 2) := by decide +kernel
theorem dL_isAsked_41 : decode cL_isAsked 41 = .ok (.istore 4, 2) := by decide +kernel
theorem dL_isAsked_43 : decode cL_isAsked 43 = .ok (.iinc 5 1, 3) := by decide +kernel
theorem dL_isAsked_46 : decode cL_isAsked 46 = .ok (.goto (-33), 3) := by decide +kernel
theorem dL_isAsked_49 : decode cL_isAsked 49 = .ok (.aload_n 0, 1) := by decide +kernel
theorem dL_isAsked_50 : decode cL_isAsked 50 = .ok (.iload_n 1, 1) := by decide +kernel
theorem dL_isAsked_51 : decode cL_isAsked 51 = .ok (.iload_n 2, 1) := by decide +kernel
theorem dL_isAsked_52 : decode cL_isAsked 52 = .ok (.invokevirtual 59, 3) := by decide +kernel
theorem dL_isAsked_55 : decode cL_isAsked 55 = .ok (.iload_n 3, 1) := by decide +kernel
theorem dL_isAsked_56 : decode cL_isAsked 56 = .ok (.if_icmp .ne 39, 3) := by decide +kernel
theorem dL_isAsked_59 : decode cL_isAsked 59 = .ok (.aload_n 0, 1) := by decide +kernel
theorem dL_isAsked_60 : decode cL_isAsked 60 = .ok (.invokevirtual 23, 3) := by decide +kernel
theorem dL_isAsked_63 : decode cL_isAsked 63 = .ok (.iconst 1, 1) := by decide +kernel
theorem dL_isAsked_64 : decode cL_isAsked 64 = .ok (.if_icmp .lt 31, 3) := by decide +kernel
theorem dL_isAsked_67 : decode cL_isAsked 67 = .ok (.aload_n 0, 1) := by decide +kernel
theorem dL_isAsked_68 : decode cL_isAsked 68 = .ok (.invokevirtual 23, 3) := by decide +kernel
theorem dL_isAsked_71 : decode cL_isAsked 71 = .ok (.iconst 2, 1) := by decide +kernel
theorem dL_isAsked_72 : decode cL_isAsked 72 = .ok (.aload_n 0, 1) := by decide +kernel
theorem dL_isAsked_73 : decode cL_isAsked 73 = .ok (.invokevirtual 8, 3) := by decide +kernel
theorem dL_isAsked_76 : decode cL_isAsked 76 = .ok (.imul, 1) := by decide +kernel
theorem dL_isAsked_77 : decode cL_isAsked 77 = .ok (.if_icmp .gt 18, 3) := by decide +kernel
theorem dL_isAsked_80 : decode cL_isAsked 80 = .ok (.aload_n 0, 1) := by decide +kernel
theorem dL_isAsked_81 : decode cL_isAsked 81 = .ok (.iload_n 1, 1) := by decide +kernel
theorem dL_isAsked_82 : decode cL_isAsked 82 = .ok (.iload_n 2, 1) := by decide +kernel
theorem dL_isAsked_83 : decode cL_isAsked 83 = .ok (.invokevirtual 62, 3) := by decide +kernel
theorem dL_isAsked_86 : decode cL_isAsked 86 = .ok (.iload 4, 2) := by decide +kernel
theorem dL_isAsked_88 : decode cL_isAsked 88 = .ok (.if_icmp .ne 7, 3) := by decide +kernel
theorem dL_isAsked_91 : decode cL_isAsked 91 = .ok (.iconst 1, 1) := by decide +kernel
theorem dL_isAsked_92 : decode cL_isAsked 92 = .ok (.goto 4, 3) := by decide +kernel
theorem dL_isAsked_95 : decode cL_isAsked 95 = .ok (.iconst 0, 1) := by decide +kernel
theorem dL_isAsked_96 : decode cL_isAsked 96 = .ok (.istore 5, 2) := by decide +kernel
theorem dL_isAsked_98 : decode cL_isAsked 98 = .ok (.iload_n 3, 1) := by decide +kernel
theorem dL_isAsked_99 : decode cL_isAsked 99 = .ok (.ifCond .le 60, 3) := by decide +kernel
theorem dL_isAsked_102 : decode cL_isAsked 102 = .ok (.iconst 1, 1) := by decide +kernel
theorem dL_isAsked_103 : decode cL_isAsked 103 = .ok (.iload_n 3, 1) := by decide +kernel
theorem dL_isAsked_104 : decode cL_isAsked 104 = .ok (.iconst 3, 1) := by decide +kernel
theorem dL_isAsked_105 : decode cL_isAsked 105 = .ok (.idiv, 1) := by decide +kernel
theorem dL_isAsked_106 : decode cL_isAsked 106 = .ok (.iadd, 1) := by decide +kernel
theorem dL_isAsked_107 : decode cL_isAsked 107 = .ok (.istore 6, 2) := by decide +kernel
theorem dL_isAsked_109 : decode cL_isAsked 109 = .ok (.aload_n 0, 1) := by decide +kernel
theorem dL_isAsked_110 : decode cL_isAsked 110 = .ok (.iload_n 1, 1) := by decide +kernel
theorem dL_isAsked_111 : decode cL_isAsked 111 = .ok (.iload_n 2, 1) := by decide +kernel
theorem dL_isAsked_112 : decode cL_isAsked 112 = .ok (.iload 6, 2) := by decide +kernel
theorem dL_isAsked_114 : decode cL_isAsked 114 = .ok (.invokevirtual 65, 3) := by decide +kernel
theorem dL_isAsked_117 : decode cL_isAsked 117 = .ok (.istore 7, 2) := by decide +kernel
theorem dL_isAsked_119 : decode cL_isAsked 119 = .ok (.iload 5, 2) := by decide +kernel
theorem dL_isAsked_121 : decode cL_isAsked 121 = .ok (.ifCond .eq 35, 3) := by decide +kernel
theorem dL_isAsked_124 : decode cL_isAsked 124 = .ok (.aload_n 0, 1) := by decide +kernel
theorem dL_isAsked_125 : decode cL_isAsked 125 = .ok (.iload_n 1, 1) := by decide +kernel
theorem dL_isAsked_126 : decode cL_isAsked 126 = .ok (.iload_n 2, 1) := by decide +kernel
theorem dL_isAsked_127 : decode cL_isAsked 127 = .ok (.iload 7, 2) := by decide +kernel
theorem dL_isAsked_129 : decode cL_isAsked 129 = .ok (.invokevirtual 69, 3) := by decide +kernel
theorem dL_isAsked_132 : decode cL_isAsked 132 = .ok (.iload 6, 2) := by decide +kernel
theorem dL_isAsked_134 : decode cL_isAsked 134 = .ok (.if_icmp .lt 22, 3) := by decide +kernel
theorem dL_isAsked_137 : decode cL_isAsked 137 = .ok (.aload_n 0, 1) := by decide +kernel
theorem dL_isAsked_138 : decode cL_isAsked 138 = .ok (.iload_n 1, 1) := by decide +kernel
theorem dL_isAsked_139 : decode cL_isAsked 139 = .ok (.iload_n 2, 1) := by decide +kernel
theorem dL_isAsked_140 : decode cL_isAsked 140 = .ok (.iload 7, 2) := by decide +kernel
theorem dL_isAsked_142 : decode cL_isAsked 142 = .ok (.iconst 1, 1) := by decide +kernel
theorem dL_isAsked_143 : decode cL_isAsked 143 = .ok (.iadd, 1) := by decide +kernel
theorem dL_isAsked_144 : decode cL_isAsked 144 = .ok (.invokevirtual 69, 3) := by decide +kernel
theorem dL_isAsked_147 : decode cL_isAsked 147 = .ok (.iload 6, 2) := by decide +kernel
theorem dL_isAsked_149 : decode cL_isAsked 149 = .ok (.if_icmp .ge 7, 3) := by decide +kernel
theorem dL_isAsked_152 : decode cL_isAsked 152 = .ok (.iconst 1, 1) := by decide +kernel
theorem dL_isAsked_153 : decode cL_isAsked 153 = .ok (.goto 4, 3) := by decide +kernel
theorem dL_isAsked_156 : decode cL_isAsked 156 = .ok (.iconst 0, 1) := by decide +kernel
theorem dL_isAsked_157 : decode cL_isAsked 157 = .ok (.istore 5, 2) := by decide +kernel
theorem dL_isAsked_159 : decode cL_isAsked 159 = .ok (.iload 5, 2) := by decide +kernel
theorem dL_isAsked_161 : decode cL_isAsked 161 = .ok (.ifCond .eq 17, 3) := by decide +kernel
theorem dL_isAsked_164 : decode cL_isAsked 164 = .ok (.aload_n 0, 1) := by decide +kernel
theorem dL_isAsked_165 : decode cL_isAsked 165 = .ok (.iload_n 1, 1) := by decide +kernel
theorem dL_isAsked_166 : decode cL_isAsked 166 = .ok (.iload_n 2, 1) := by decide +kernel
theorem dL_isAsked_167 : decode cL_isAsked 167 = .ok (.invokevirtual 56, 3) := by decide +kernel
theorem dL_isAsked_170 : decode cL_isAsked 170 = .ok (.iload_n 3, 1) := by decide +kernel
theorem dL_isAsked_171 : decode cL_isAsked 171 = .ok (.if_icmp .ne 7, 3) := by decide +kernel
theorem dL_isAsked_174 : decode cL_isAsked 174 = .ok (.iconst 1, 1) := by decide +kernel
theorem dL_isAsked_175 : decode cL_isAsked 175 = .ok (.goto 4, 3) := by decide +kernel
theorem dL_isAsked_178 : decode cL_isAsked 178 = .ok (.iconst 0, 1) := by decide +kernel
theorem dL_isAsked_179 : decode cL_isAsked 179 = .ok (.ireturn, 1) := by decide +kernel
set_option maxRecDepth 20000 in
theorem ggL_isLowered_X2_wouldPress : GoodIn wsL_isLowered wsX2_wouldPress := goodIn_r _ [5, 6, 7, 8, 9, 4, 10, 11, 12, 13, 14, 15, 16, 17, 18, 19, 20, 21, 22, 23, 24, 25, 26, 27, 28, 29, 30, 31, 148, 149, 150, 151, 152, 153, 154] (by decide +kernel) (by decide +kernel)
set_option maxRecDepth 20000 in
theorem gL_isLowered_X2_wouldPress : GoodIn wsL_isLowered (wsV RL 69 RX2 yX2_wouldPress wsX2_wouldPress) := goodIn_app (goodIn_of _ (by decide +kernel)) ggL_isLowered_X2_wouldPress
set_option maxRecDepth 20000 in
theorem ggL_isLowered_X2_pressedAway : GoodIn wsL_isLowered wsX2_pressedAway := goodIn_r _ [35, 36, 148, 149, 150] (by decide +kernel) (by decide +kernel)
set_option maxRecDepth 20000 in
theorem gL_isLowered_X2_pressedAway : GoodIn wsL_isLowered (wsV RL 32 RX2 yX2_pressedAway wsX2_pressedAway) := goodIn_app (goodIn_of _ (by decide +kernel)) ggL_isLowered_X2_pressedAway
set_option maxRecDepth 20000 in
theorem ggL_isLowered_X2_allVisits : GoodIn wsL_isLowered wsX2_allVisits := goodIn_r _ [40, 41, 148, 149, 150, 155, 156, 157, 158, 159, 160, 161, 162, 163] (by decide +kernel) (by decide +kernel)
set_option maxRecDepth 20000 in
theorem gL_isLowered_X2_allVisits : GoodIn wsL_isLowered (wsV RL 26 RX2 yX2_allVisits wsX2_allVisits) := goodIn_app (goodIn_of _ (by decide +kernel)) ggL_isLowered_X2_allVisits
set_option maxRecDepth 20000 in
theorem ggL_isLowered_X2_lower : GoodIn wsL_isLowered wsX2_lower := goodIn_r _ [45, 41, 6, 36, 7, 8, 9, 4, 10, 11, 12, 13, 14, 15, 16, 17, 18, 19, 20, 21, 46, 47, 48, 49, 50, 51, 52, 53, 54, 55, 56, 57, 58, 59, 60, 61, 62, 63, 64, 65, 66, 67, 68, 69, 70, 71, 72, 73, 74, 75, 76, 77, 78, 79, 80, 81, 82, 83, 84, 85, 86, 87, 88, 89, 90, 91, 92, 93, 94, 95, 96, 97, 98, 99, 100, 101, 102, 103, 104, 29, 30, 31, 105, 106, 107, 108, 109, 110, 111, 112, 113, 114, 115, 25, 116, 27, 117, 118, 119, 120, 148, 149, 150, 151, 152, 153, 154, 155, 156, 157, 158, 159, 160, 161, 162, 163] (by decide +kernel) (by decide +kernel)
set_option maxRecDepth 20000 in
theorem gL_isLowered_X2_lower : GoodIn wsL_isLowered (wsV RL 72 RX2 yX2_lower wsX2_lower) := goodIn_app (goodIn_of _ (by decide +kernel)) ggL_isLowered_X2_lower
set_option maxRecDepth 20000 in
theorem ggL_isLowered_X2_visits : GoodIn wsL_isLowered wsX2_visits := goodIn_r _ [124, 41, 148, 149, 150, 155, 156, 157, 158, 159, 160, 161, 162, 163] (by decide +kernel) (by decide +kernel)
set_option maxRecDepth 20000 in
theorem gL_isLowered_X2_visits : GoodIn wsL_isLowered (wsV RL 23 RX2 yX2_visits wsX2_visits) := goodIn_app (goodIn_of _ (by decide +kernel)) ggL_isLowered_X2_visits
set_option maxRecDepth 20000 in
theorem ggL_isLowered_X2_columns : GoodIn wsL_isLowered wsX2_columns := goodIn_r _ [128, 6, 148, 149, 150, 151, 152, 153, 154] (by decide +kernel) (by decide +kernel)
set_option maxRecDepth 20000 in
theorem gL_isLowered_X2_columns : GoodIn wsL_isLowered (wsV RL 8 RX2 yX2_columns wsX2_columns) := goodIn_app (goodIn_of _ (by decide +kernel)) ggL_isLowered_X2_columns
set_option maxRecDepth 20000 in
theorem ggL_isLowered_X2_ceilingOver : GoodIn wsL_isLowered wsX2_ceilingOver := goodIn_r _ [132, 133, 134, 6, 13, 14, 15, 4, 16, 17, 18, 148, 149, 150, 151, 152, 153, 154] (by decide +kernel) (by decide +kernel)
set_option maxRecDepth 20000 in
theorem gL_isLowered_X2_ceilingOver : GoodIn wsL_isLowered (wsV RL 75 RX2 yX2_ceilingOver wsX2_ceilingOver) := goodIn_app (goodIn_of _ (by decide +kernel)) ggL_isLowered_X2_ceilingOver
set_option maxRecDepth 20000 in
theorem ggL_isLowered_X2_height : GoodIn wsL_isLowered wsX2_height := goodIn_r _ [138, 41, 13, 14, 15, 4, 16, 17, 18, 6, 139, 140, 141, 49, 142, 62, 143, 118, 30, 119, 144, 145, 146, 147, 73, 69, 70, 71, 72, 74, 148, 149, 150, 151, 152, 153, 154, 155, 156, 157, 158, 159, 160, 161, 162, 163] (by decide +kernel) (by decide +kernel)
set_option maxRecDepth 20000 in
theorem gL_isLowered_X2_height : GoodIn wsL_isLowered (wsV RL 46 RX2 yX2_height wsX2_height) := goodIn_app (goodIn_of _ (by decide +kernel)) ggL_isLowered_X2_height
theorem dL_isLowered_0 : decode cL_isLowered 0 = .ok (.aload_n 0, 1) := by decide +kernel
theorem dL_isLowered_1 : decode cL_isLowered 1 = .ok (.iload_n 1, 1) := by decide +kernel
theorem dL_isLowered_2 : decode cL_isLowered 2 = .ok (.iload_n 2, 1) := by decide +kernel
theorem dL_isLowered_3 : decode cL_isLowered 3 = .ok (.iload_n 3, 1) := by decide +kernel
theorem dL_isLowered_4 : decode cL_isLowered 4 = .ok (.invokevirtual 69, 3) := by decide +kernel
theorem dL_isLowered_7 : decode cL_isLowered 7 = .ok (.istore 4, 2) := by decide +kernel
theorem dL_isLowered_9 : decode cL_isLowered 9 = .ok (.aload_n 0, 1) := by decide +kernel
theorem dL_isLowered_10 : decode cL_isLowered 10 = .ok (.invokevirtual 32, 3) := by decide +kernel
theorem dL_isLowered_13 : decode cL_isLowered 13 = .ok (.istore 5, 2) := by decide +kernel
theorem dL_isLowered_15 : decode cL_isLowered 15 = .ok (.aload_n 0, 1) := by decide +kernel
theorem dL_isLowered_16 : decode cL_isLowered 16 = .ok (.invokevirtual 26, 3) := by decide +kernel
theorem dL_isLowered_19 : decode cL_isLowered 19 = .ok (.istore 6, 2) := by decide +kernel
theorem dL_isLowered_21 : decode cL_isLowered 21 = .ok (.aload_n 0, 1) := by decide +kernel
theorem dL_isLowered_22 : decode cL_isLowered 22 = .ok (.iload_n 1, 1) := by decide +kernel
theorem dL_isLowered_23 : decode cL_isLowered 23 = .ok (.iload_n 2, 1) := by decide +kernel
theorem dL_isLowered_24 : decode cL_isLowered 24 = .ok (.iload_n 3, 1) := by decide +kernel
theorem dL_isLowered_25 : decode cL_isLowered 25 = .ok (.invokevirtual 72, 3) := by decide +kernel
theorem dL_isLowered_28 : decode cL_isLowered 28 = .ok (.iload 4, 2) := by decide +kernel
theorem dL_isLowered_30 : decode cL_isLowered 30 = .ok (.if_icmp .ne 29, 3) := by decide +kernel
theorem dL_isLowered_33 : decode cL_isLowered 33 = .ok (.aload_n 0, 1) := by decide +kernel
theorem dL_isLowered_34 : decode cL_isLowered 34 = .ok (.iload_n 1, 1) := by decide +kernel
theorem dL_isLowered_35 : decode cL_isLowered 35 = .ok (.iload_n 2, 1) := by decide +kernel
theorem dL_isLowered_36 : decode cL_isLowered 36 = .ok (.iload_n 3, 1) := by decide +kernel
theorem dL_isLowered_37 : decode cL_isLowered 37 = .ok (.invokevirtual 69, 3) := by decide +kernel
theorem dL_isLowered_40 : decode cL_isLowered 40 = .ok (.ifCond .ne 19, 3) := by decide +kernel
theorem dL_isLowered_43 : decode cL_isLowered 43 = .ok (.aload_n 0, 1) := by decide +kernel
theorem dL_isLowered_44 : decode cL_isLowered 44 = .ok (.invokevirtual 32, 3) := by decide +kernel
theorem dL_isLowered_47 : decode cL_isLowered 47 = .ok (.iload 5, 2) := by decide +kernel
theorem dL_isLowered_49 : decode cL_isLowered 49 = .ok (.iload 4, 2) := by decide +kernel
theorem dL_isLowered_51 : decode cL_isLowered 51 = .ok (.iadd, 1) := by decide +kernel
theorem dL_isLowered_52 : decode cL_isLowered 52 = .ok (.if_icmp .ne 7, 3) := by decide +kernel
theorem dL_isLowered_55 : decode cL_isLowered 55 = .ok (.iconst 1, 1) := by decide +kernel
theorem dL_isLowered_56 : decode cL_isLowered 56 = .ok (.goto 4, 3) := by decide +kernel
theorem dL_isLowered_59 : decode cL_isLowered 59 = .ok (.iconst 0, 1) := by decide +kernel
theorem dL_isLowered_60 : decode cL_isLowered 60 = .ok (.istore 7, 2) := by decide +kernel
theorem dL_isLowered_62 : decode cL_isLowered 62 = .ok (.iload 7, 2) := by decide +kernel
theorem dL_isLowered_64 : decode cL_isLowered 64 = .ok (.ifCond .eq 42, 3) := by decide +kernel
theorem dL_isLowered_67 : decode cL_isLowered 67 = .ok (.aload_n 0, 1) := by decide +kernel
theorem dL_isLowered_68 : decode cL_isLowered 68 = .ok (.invokevirtual 23, 3) := by decide +kernel
theorem dL_isLowered_71 : decode cL_isLowered 71 = .ok (.iconst 1, 1) := by decide +kernel
theorem dL_isLowered_72 : decode cL_isLowered 72 = .ok (.if_icmp .lt 34, 3) := by decide +kernel
theorem dL_isLowered_75 : decode cL_isLowered 75 = .ok (.aload_n 0, 1) := by decide +kernel
theorem dL_isLowered_76 : decode cL_isLowered 76 = .ok (.invokevirtual 23, 3) := by decide +kernel
theorem dL_isLowered_79 : decode cL_isLowered 79 = .ok (.iconst 2, 1) := by decide +kernel
theorem dL_isLowered_80 : decode cL_isLowered 80 = .ok (.aload_n 0, 1) := by decide +kernel
theorem dL_isLowered_81 : decode cL_isLowered 81 = .ok (.invokevirtual 8, 3) := by decide +kernel
theorem dL_isLowered_84 : decode cL_isLowered 84 = .ok (.imul, 1) := by decide +kernel
theorem dL_isLowered_85 : decode cL_isLowered 85 = .ok (.if_icmp .gt 21, 3) := by decide +kernel
theorem dL_isLowered_88 : decode cL_isLowered 88 = .ok (.aload_n 0, 1) := by decide +kernel
theorem dL_isLowered_89 : decode cL_isLowered 89 = .ok (.invokevirtual 26, 3) := by decide +kernel
theorem dL_isLowered_92 : decode cL_isLowered 92 = .ok (.iload 6, 2) := by decide +kernel
theorem dL_isLowered_94 : decode cL_isLowered 94 = .ok (.aload_n 0, 1) := by decide +kernel
theorem dL_isLowered_95 : decode cL_isLowered 95 = .ok (.invokevirtual 23, 3) := by decide +kernel
theorem dL_isLowered_98 : decode cL_isLowered 98 = .ok (.iadd, 1) := by decide +kernel
theorem dL_isLowered_99 : decode cL_isLowered 99 = .ok (.if_icmp .ne 7, 3) := by decide +kernel
theorem dL_isLowered_102 : decode cL_isLowered 102 = .ok (.iconst 1, 1) := by decide +kernel
theorem dL_isLowered_103 : decode cL_isLowered 103 = .ok (.goto 4, 3) := by decide +kernel
theorem dL_isLowered_106 : decode cL_isLowered 106 = .ok (.iconst 0, 1) := by decide +kernel
theorem dL_isLowered_107 : decode cL_isLowered 107 = .ok (.istore 7, 2) := by decide +kernel
theorem dL_isLowered_109 : decode cL_isLowered 109 = .ok (.iload 7, 2) := by decide +kernel
theorem dL_isLowered_111 : decode cL_isLowered 111 = .ok (.ifCond .eq 29, 3) := by decide +kernel
theorem dL_isLowered_114 : decode cL_isLowered 114 = .ok (.aload_n 0, 1) := by decide +kernel
theorem dL_isLowered_115 : decode cL_isLowered 115 = .ok (.iload_n 1, 1) := by decide +kernel
theorem dL_isLowered_116 : decode cL_isLowered 116 = .ok (.invokevirtual 75, 3) := by decide +kernel
theorem dL_isLowered_119 : decode cL_isLowered 119 = .ok (.iload_n 3, 1) := by decide +kernel
theorem dL_isLowered_120 : decode cL_isLowered 120 = .ok (.if_icmp .gt 20, 3) := by decide +kernel
theorem dL_isLowered_123 : decode cL_isLowered 123 = .ok (.aload_n 0, 1) := by decide +kernel
theorem dL_isLowered_124 : decode cL_isLowered 124 = .ok (.iload_n 2, 1) := by decide +kernel
theorem dL_isLowered_125 : decode cL_isLowered 125 = .ok (.invokevirtual 46, 3) := by decide +kernel
theorem dL_isLowered_128 : decode cL_isLowered 128 = .ok (.aload_n 0, 1) := by decide +kernel
theorem dL_isLowered_129 : decode cL_isLowered 129 = .ok (.iload_n 2, 1) := by decide +kernel
theorem dL_isLowered_130 : decode cL_isLowered 130 = .ok (.invokevirtual 75, 3) := by decide +kernel
theorem dL_isLowered_133 : decode cL_isLowered 133 = .ok (.if_icmp .gt 7, 3) := by decide +kernel
theorem dL_isLowered_136 : decode cL_isLowered 136 = .ok (.iconst 1, 1) := by decide +kernel
theorem dL_isLowered_137 : decode cL_isLowered 137 = .ok (.goto 4, 3) := by decide +kernel
theorem dL_isLowered_140 : decode cL_isLowered 140 = .ok (.iconst 0, 1) := by decide +kernel
theorem dL_isLowered_141 : decode cL_isLowered 141 = .ok (.ireturn, 1) := by decide +kernel
set_option maxRecDepth 20000 in
theorem ggL_isEntrySo_X2_greatest : GoodIn wsL_isEntrySo wsX2_greatest := goodIn_r _ [5, 6, 7, 8, 9, 4, 10, 11, 12, 13, 14, 15, 16, 17, 18, 82, 83, 84, 85, 86, 87, 88, 89, 90, 91, 92, 93] (by decide +kernel) (by decide +kernel)
set_option maxRecDepth 20000 in
theorem gL_isEntrySo_X2_greatest : GoodIn wsL_isEntrySo (wsV RL 78 RX2 yX2_greatest wsX2_greatest) := goodIn_app (goodIn_of _ (by decide +kernel)) ggL_isEntrySo_X2_greatest
set_option maxRecDepth 20000 in
theorem ggL_isEntrySo_X2_spanOf : GoodIn wsL_isEntrySo wsX2_spanOf := goodIn_r _ [22, 6, 7, 8, 9, 4, 10, 11, 12, 13, 14, 15, 16, 17, 18, 82, 83, 84, 85, 86, 87, 88, 89, 90, 91, 92, 93] (by decide +kernel) (by decide +kernel)
set_option maxRecDepth 20000 in
theorem gL_isEntrySo_X2_spanOf : GoodIn wsL_isEntrySo (wsV RL 81 RX2 yX2_spanOf wsX2_spanOf) := goodIn_app (goodIn_of _ (by decide +kernel)) ggL_isEntrySo_X2_spanOf
set_option maxRecDepth 20000 in
theorem ggL_isEntrySo_X2_heightOfColumn : GoodIn wsL_isEntrySo wsX2_heightOfColumn := goodIn_r _ [26, 27, 28, 29, 30, 4, 31, 11, 12, 82, 83, 84, 94, 95, 96, 97] (by decide +kernel) (by decide +kernel)
set_option maxRecDepth 20000 in
theorem gL_isEntrySo_X2_heightOfColumn : GoodIn wsL_isEntrySo (wsV RL 50 RX2 yX2_heightOfColumn wsX2_heightOfColumn) := goodIn_app (goodIn_of _ (by decide +kernel)) ggL_isEntrySo_X2_heightOfColumn
set_option maxRecDepth 20000 in
theorem ggL_isEntrySo_X2_earthByColumns : GoodIn wsL_isEntrySo wsX2_earthByColumns := goodIn_r _ [35, 27, 36, 37, 38, 4, 39, 40, 41, 28, 29, 30, 31, 11, 12, 42, 43, 44, 45, 46, 47, 48, 49, 50, 51, 82, 83, 84, 94, 95, 96, 97] (by decide +kernel) (by decide +kernel)
set_option maxRecDepth 20000 in
theorem gL_isEntrySo_X2_earthByColumns : GoodIn wsL_isEntrySo (wsV RL 56 RX2 yX2_earthByColumns wsX2_earthByColumns) := goodIn_app (goodIn_of _ (by decide +kernel)) ggL_isEntrySo_X2_earthByColumns
set_option maxRecDepth 20000 in
theorem ggL_isEntrySo_X2_noted : GoodIn wsL_isEntrySo wsX2_noted := goodIn_r _ [55, 6, 7, 8, 9, 4, 10, 11, 12, 13, 14, 15, 16, 17, 18, 82, 83, 84, 85, 86, 87, 88, 89, 90, 91, 92, 93] (by decide +kernel) (by decide +kernel)
set_option maxRecDepth 20000 in
theorem gL_isEntrySo_X2_noted : GoodIn wsL_isEntrySo (wsV RL 84 RX2 yX2_noted wsX2_noted) := goodIn_app (goodIn_of _ (by decide +kernel)) ggL_isEntrySo_X2_noted
set_option maxRecDepth 20000 in
theorem ggL_isEntrySo_X2_second : GoodIn wsL_isEntrySo wsX2_second := goodIn_r _ [59, 6, 7, 8, 9, 4, 10, 11, 12, 13, 14, 15, 16, 17, 18, 82, 83, 84, 85, 86, 87, 88, 89, 90, 91, 92, 93] (by decide +kernel) (by decide +kernel)
set_option maxRecDepth 20000 in
theorem gL_isEntrySo_X2_second : GoodIn wsL_isEntrySo (wsV RL 87 RX2 yX2_second wsX2_second) := goodIn_app (goodIn_of _ (by decide +kernel)) ggL_isEntrySo_X2_second
set_option maxRecDepth 20000 in
theorem ggL_isEntrySo_X2_many : GoodIn wsL_isEntrySo wsX2_many := goodIn_r _ [63, 6, 7, 8, 9, 4, 10, 11, 12, 13, 14, 15, 16, 17, 18, 82, 83, 84, 85, 86, 87, 88, 89, 90, 91, 92, 93] (by decide +kernel) (by decide +kernel)
set_option maxRecDepth 20000 in
theorem gL_isEntrySo_X2_many : GoodIn wsL_isEntrySo (wsV RL 90 RX2 yX2_many wsX2_many) := goodIn_app (goodIn_of _ (by decide +kernel)) ggL_isEntrySo_X2_many
set_option maxRecDepth 20000 in
theorem ggL_isEntrySo_X2_height : GoodIn wsL_isEntrySo wsX2_height := goodIn_r _ [67, 6, 28, 29, 30, 4, 31, 11, 12, 27, 68, 69, 70, 16, 71, 72, 73, 74, 50, 75, 76, 14, 15, 17, 18, 77, 78, 79, 80, 81, 82, 83, 84, 94, 95, 96, 97, 85, 86, 87, 88, 89, 90, 91, 92, 93] (by decide +kernel) (by decide +kernel)
set_option maxRecDepth 20000 in
theorem gL_isEntrySo_X2_height : GoodIn wsL_isEntrySo (wsV RL 46 RX2 yX2_height wsX2_height) := goodIn_app (goodIn_of _ (by decide +kernel)) ggL_isEntrySo_X2_height
theorem dL_isEntrySo_0 : decode cL_isEntrySo 0 = .ok (.iconst 1, 1) := by decide +kernel
theorem dL_isEntrySo_1 : decode cL_isEntrySo 1 = .ok (.istore_n 2, 1) := by decide +kernel
theorem dL_isEntrySo_2 : decode cL_isEntrySo 2 = .ok (.iconst 1, 1) := by decide +kernel
theorem dL_isEntrySo_3 : decode cL_isEntrySo 3 = .ok (.istore_n 3, 1) := by decide +kernel
theorem dL_isEntrySo_4 : decode cL_isEntrySo 4 = .ok (.iconst 1, 1) := by decide +kernel
theorem dL_isEntrySo_5 : decode cL_isEntrySo 5 = .ok (.istore 4, 2) := by decide +kernel
theorem dL_isEntrySo_7 : decode cL_isEntrySo 7 = .ok (.aload_n 0, 1) := by decide +kernel
theorem dL_isEntrySo_8 : decode cL_isEntrySo 8 = .ok (.iconst 1, 1) := by decide +kernel
theorem dL_isEntrySo_9 : decode cL_isEntrySo 9 = .ok (.invokevirtual 78, 3) := by decide +kernel
theorem dL_isEntrySo_12 : decode cL_isEntrySo 12 = .ok (.istore 5, 2) := by decide +kernel
theorem dL_isEntrySo_14 : decode cL_isEntrySo 14 = .ok (.iconst 1, 1) := by decide +kernel
theorem dL_isEntrySo_15 : decode cL_isEntrySo 15 = .ok (.istore 6, 2) := by decide +kernel
theorem dL_isEntrySo_17 : decode cL_isEntrySo 17 = .ok (.iload 6, 2) := by decide +kernel
theorem dL_isEntrySo_19 : decode cL_isEntrySo 19 = .ok (.ifCond .eq 468, 3) := by decide +kernel
theorem dL_isEntrySo_22 : decode cL_isEntrySo 22 = .ok (.iload 4, 2) := by decide +kernel
theorem dL_isEntrySo_24 : decode cL_isEntrySo 24 = .ok (.ifCond .eq 463, 3) := by decide +kernel
theorem dL_isEntrySo_27 : decode cL_isEntrySo 27 = .ok (.aload_n 0, 1) := by decide +kernel
theorem dL_isEntrySo_28 : decode cL_isEntrySo 28 = .ok (.iload_n 2, 1) := by decide +kernel
theorem dL_isEntrySo_29 : decode cL_isEntrySo 29 = .ok (.invokevirtual 81, 3) := by decide +kernel
theorem dL_isEntrySo_32 : decode cL_isEntrySo 32 = .ok (.bipush 100, 2) := by decide +kernel
theorem dL_isEntrySo_34 : decode cL_isEntrySo 34 = .ok (.idiv, 1) := by decide +kernel
theorem dL_isEntrySo_35 : decode cL_isEntrySo 35 = .ok (.istore 7, 2) := by decide +kernel
theorem dL_isEntrySo_37 : decode cL_isEntrySo 37 = .ok (.aload_n 0, 1) := by decide +kernel
theorem dL_isEntrySo_38 : decode cL_isEntrySo 38 = .ok (.iload_n 2, 1) := by decide +kernel
theorem dL_isEntrySo_39 : decode cL_isEntrySo 39 = .ok (.invokevirtual 81, 3) := by decide +kernel
theorem dL_isEntrySo_42 : decode cL_isEntrySo 42 = .ok (.bipush 100, 2) := by decide +kernel
theorem dL_isEntrySo_44 : decode cL_isEntrySo 44 = .ok (.irem, 1) := by decide +kernel
theorem dL_isEntrySo_45 : decode cL_isEntrySo 45 = .ok (.istore 8, 2) := by decide +kernel
theorem dL_isEntrySo_47 : decode cL_isEntrySo 47 = .ok (.iload_n 3, 1) := by decide +kernel
theorem dL_isEntrySo_48 : decode cL_isEntrySo 48 = .ok (.ifCond .eq 27, 3) := by decide +kernel
theorem dL_isEntrySo_51 : decode cL_isEntrySo 51 = .ok (.iload_n 2, 1) := by decide +kernel
theorem dL_isEntrySo_52 : decode cL_isEntrySo 52 = .ok (.iconst 1, 1) := by decide +kernel
theorem dL_isEntrySo_53 : decode cL_isEntrySo 53 = .ok (.if_icmp .eq 18, 3) := by decide +kernel
theorem dL_isEntrySo_56 : decode cL_isEntrySo 56 = .ok (.aload_n 0, 1) := by decide +kernel
theorem dL_isEntrySo_57 : decode cL_isEntrySo 57 = .ok (.iload_n 2, 1) := by decide +kernel
theorem dL_isEntrySo_58 : decode cL_isEntrySo 58 = .ok (.invokevirtual 78, 3) := by decide +kernel
theorem dL_isEntrySo_61 : decode cL_isEntrySo 61 = .ok (.aload_n 0, 1) := by decide +kernel
theorem dL_isEntrySo_62 : decode cL_isEntrySo 62 = .ok (.iload_n 2, 1) := by decide +kernel
theorem dL_isEntrySo_63 : decode cL_isEntrySo 63 = .ok (.iconst 2, 1) := by decide +kernel
theorem dL_isEntrySo_64 : decode cL_isEntrySo 64 = .ok (.idiv, 1) := by decide +kernel
theorem dL_isEntrySo_65 : decode cL_isEntrySo 65 = .ok (.invokevirtual 78, 3) := by decide +kernel
theorem dL_isEntrySo_68 : decode cL_isEntrySo 68 = .ok (.if_icmp .gt 7, 3) := by decide +kernel
theorem dL_isEntrySo_71 : decode cL_isEntrySo 71 = .ok (.iconst 1, 1) := by decide +kernel
theorem dL_isEntrySo_72 : decode cL_isEntrySo 72 = .ok (.goto 4, 3) := by decide +kernel
theorem dL_isEntrySo_75 : decode cL_isEntrySo 75 = .ok (.iconst 0, 1) := by decide +kernel
theorem dL_isEntrySo_76 : decode cL_isEntrySo 76 = .ok (.istore_n 3, 1) := by decide +kernel
theorem dL_isEntrySo_77 : decode cL_isEntrySo 77 = .ok (.iconst 0, 1) := by decide +kernel
theorem dL_isEntrySo_78 : decode cL_isEntrySo 78 = .ok (.istore 9, 2) := by decide +kernel
theorem dL_isEntrySo_80 : decode cL_isEntrySo 80 = .ok (.iconst (-1), 1) := by decide +kernel
theorem dL_isEntrySo_81 : decode cL_isEntrySo 81 = .ok (.istore 10, 2) := by decide +kernel
theorem dL_isEntrySo_83 : decode cL_isEntrySo 83 = .ok (.iconst 0, 1) := by decide +kernel
theorem dL_isEntrySo_84 : decode cL_isEntrySo 84 = .ok (.istore 11, 2) := by decide +kernel
theorem dL_isEntrySo_86 : decode cL_isEntrySo 86 = .ok (.iload 7, 2) := by decide +kernel
theorem dL_isEntrySo_88 : decode cL_isEntrySo 88 = .ok (.istore 12, 2) := by decide +kernel
theorem dL_isEntrySo_90 : decode cL_isEntrySo 90 = .ok (.iload 12, 2) := by decide +kernel
theorem dL_isEntrySo_92 : decode cL_isEntrySo 92 = .ok (.iload 8, 2) := by decide +kernel
theorem dL_isEntrySo_94 : decode cL_isEntrySo 94 = .ok (.if_icmp .gt 120, 3) := by decide +kernel
theorem dL_isEntrySo_97 : decode cL_isEntrySo 97 = .ok (.aload_n 0, 1) := by decide +kernel
theorem dL_isEntrySo_98 : decode cL_isEntrySo 98 = .ok (.iload 12, 2) := by decide +kernel
theorem dL_isEntrySo_100 : decode cL_isEntrySo 100 = .ok (.invokevirtual 50, 3) := by decide +kernel
theorem dL_isEntrySo_103 : decode cL_isEntrySo 103 = .ok (.istore 13, 2) := by decide +kernel
theorem dL_isEntrySo_105 : decode cL_isEntrySo 105 = .ok (.iload 13, 2) := by decide +kernel
theorem dL_isEntrySo_107 : decode cL_isEntrySo 107 = .ok (.iload 9, 2) := by decide +kernel
theorem dL_isEntrySo_109 : decode cL_isEntrySo 109 = .ok (.if_icmp .le 18, 3) := by decide +kernel
theorem dL_isEntrySo_112 : decode cL_isEntrySo 112 = .ok (.iload 11, 2) := by decide +kernel
theorem dL_isEntrySo_114 : decode cL_isEntrySo 114 = .ok (.ifCond .le 8, 3) := by decide +kernel
theorem dL_isEntrySo_117 : decode cL_isEntrySo 117 = .ok (.iload 9, 2) := by decide +kernel
theorem dL_isEntrySo_119 : decode cL_isEntrySo 119 = .ok (.goto 29, 3) := by decide +kernel
theorem dL_isEntrySo_122 : decode cL_isEntrySo 122 = .ok (.iload 10, 2) := by decide +kernel
theorem dL_isEntrySo_124 : decode cL_isEntrySo 124 = .ok (.goto 24, 3) := by decide +kernel
theorem dL_isEntrySo_127 : decode cL_isEntrySo 127 = .ok (.iload 13, 2) := by decide +kernel
theorem dL_isEntrySo_129 : decode cL_isEntrySo 129 = .ok (.iload 9, 2) := by decide +kernel
theorem dL_isEntrySo_131 : decode cL_isEntrySo 131 = .ok (.if_icmp .ge 15, 3) := by decide +kernel
theorem dL_isEntrySo_134 : decode cL_isEntrySo 134 = .ok (.iload 13, 2) := by decide +kernel
theorem dL_isEntrySo_136 : decode cL_isEntrySo 136 = .ok (.iload 10, 2) := by decide +kernel
theorem dL_isEntrySo_138 : decode cL_isEntrySo 138 = .ok (.if_icmp .le 8, 3) := by decide +kernel
theorem dL_isEntrySo_141 : decode cL_isEntrySo 141 = .ok (.iload 13, 2) := by decide +kernel
theorem dL_isEntrySo_143 : decode cL_isEntrySo 143 = .ok (.goto 5, 3) := by decide +kernel
theorem dL_isEntrySo_146 : decode cL_isEntrySo 146 = .ok (.iload 10, 2) := by decide +kernel
theorem dL_isEntrySo_148 : decode cL_isEntrySo 148 = .ok (.istore 10, 2) := by decide +kernel
theorem dL_isEntrySo_150 : decode cL_isEntrySo 150 = .ok (.iload 13, 2) := by decide +kernel
theorem dL_isEntrySo_152 : decode cL_isEntrySo 152 = .ok (.iload 9, 2) := by decide +kernel
theorem dL_isEntrySo_154 : decode cL_isEntrySo 154 = .ok (.if_icmp .gt 10, 3) := by decide +kernel
theorem dL_isEntrySo_157 : decode cL_isEntrySo 157 = .ok (.iload 12, 2) := by decide +kernel
theorem dL_isEntrySo_159 : decode cL_isEntrySo 159 = .ok (.iload 7, 2) := by decide +kernel
theorem dL_isEntrySo_161 : decode cL_isEntrySo 161 = .ok (.if_icmp .ne 7, 3) := by decide +kernel
theorem dL_isEntrySo_164 : decode cL_isEntrySo 164 = .ok (.iconst 1, 1) := by decide +kernel
theorem dL_isEntrySo_165 : decode cL_isEntrySo 165 = .ok (.goto 18, 3) := by decide +kernel
theorem dL_isEntrySo_168 : decode cL_isEntrySo 168 = .ok (.iload 11, 2) := by decide +kernel
theorem dL_isEntrySo_170 : decode cL_isEntrySo 170 = .ok (.iload 13, 2) := by decide +kernel
theorem dL_isEntrySo_172 : decode cL_isEntrySo 172 = .ok (.iload 9, 2) := by decide +kernel
theorem dL_isEntrySo_174 : decode cL_isEntrySo 174 = .ok (.if_icmp .ne 7, 3) := by decide +kernel
theorem dL_isEntrySo_177 : decode cL_isEntrySo 177 = .ok (.iconst 1, 1) := by decide +kernel
theorem dL_isEntrySo_178 : decode cL_isEntrySo 178 = .ok (.goto 4, 3) := by decide +kernel
theorem dL_isEntrySo_181 : decode cL_isEntrySo 181 = .ok (.iconst 0, 1) := by decide +kernel
theorem dL_isEntrySo_182 : decode cL_isEntrySo 182 = .ok (.iadd, 1) := by decide +kernel
theorem dL_isEntrySo_183 : decode cL_isEntrySo 183 = .ok (.istore 11, 2) := by decide +kernel
theorem dL_isEntrySo_185 : decode cL_isEntrySo 185 = .ok (.iload 13, 2) := by decide +kernel
theorem dL_isEntrySo_187 : decode cL_isEntrySo 187 = .ok (.iload 9, 2) := by decide +kernel
theorem dL_isEntrySo_189 : decode cL_isEntrySo 189 = .ok (.if_icmp .gt 10, 3) := by decide +kernel
theorem dL_isEntrySo_192 : decode cL_isEntrySo 192 = .ok (.iload 12, 2) := by decide +kernel
theorem dL_isEntrySo_194 : decode cL_isEntrySo 194 = .ok (.iload 7, 2) := by decide +kernel
theorem dL_isEntrySo_196 : decode cL_isEntrySo 196 = .ok (.if_icmp .ne 8, 3) := by decide +kernel
theorem dL_isEntrySo_199 : decode cL_isEntrySo 199 = .ok (.iload 13, 2) := by decide +kernel
theorem dL_isEntrySo_201 : decode cL_isEntrySo 201 = .ok (.goto 5, 3) := by decide +kernel
theorem dL_isEntrySo_204 : decode cL_isEntrySo 204 = .ok (.iload 9, 2) := by decide +kernel
theorem dL_isEntrySo_206 : decode cL_isEntrySo 206 = .ok (.istore 9, 2) := by decide +kernel
theorem dL_isEntrySo_208 : decode cL_isEntrySo 208 = .ok (.iinc 12 1, 3) := by decide +kernel
theorem dL_isEntrySo_211 : decode cL_isEntrySo 211 = .ok (.goto (-121), 3) := by decide +kernel
theorem dL_isEntrySo_214 : decode cL_isEntrySo 214 = .ok (.aload_n 0, 1) := by decide +kernel
theorem dL_isEntrySo_215 : decode cL_isEntrySo 215 = .ok (.iload 7, 2) := by decide +kernel
theorem dL_isEntrySo_217 : decode cL_isEntrySo 217 = .ok (.iload 8, 2) := by decide +kernel
theorem dL_isEntrySo_219 : decode cL_isEntrySo 219 = .ok (.invokevirtual 56, 3) := by decide +kernel
theorem dL_isEntrySo_222 : decode cL_isEntrySo 222 = .ok (.istore 12, 2) := by decide +kernel
theorem dL_isEntrySo_224 : decode cL_isEntrySo 224 = .ok (.aload_n 0, 1) := by decide +kernel
theorem dL_isEntrySo_225 : decode cL_isEntrySo 225 = .ok (.iload_n 2, 1) := by decide +kernel
theorem dL_isEntrySo_226 : decode cL_isEntrySo 226 = .ok (.invokevirtual 78, 3) := by decide +kernel
theorem dL_isEntrySo_229 : decode cL_isEntrySo 229 = .ok (.iload 5, 2) := by decide +kernel
theorem dL_isEntrySo_231 : decode cL_isEntrySo 231 = .ok (.if_icmp .ge 11, 3) := by decide +kernel
theorem dL_isEntrySo_234 : decode cL_isEntrySo 234 = .ok (.aload_n 0, 1) := by decide +kernel
theorem dL_isEntrySo_235 : decode cL_isEntrySo 235 = .ok (.iload_n 2, 1) := by decide +kernel
theorem dL_isEntrySo_236 : decode cL_isEntrySo 236 = .ok (.invokevirtual 78, 3) := by decide +kernel
theorem dL_isEntrySo_239 : decode cL_isEntrySo 239 = .ok (.goto 5, 3) := by decide +kernel
theorem dL_isEntrySo_242 : decode cL_isEntrySo 242 = .ok (.iload 5, 2) := by decide +kernel
theorem dL_isEntrySo_244 : decode cL_isEntrySo 244 = .ok (.istore 5, 2) := by decide +kernel
theorem dL_isEntrySo_246 : decode cL_isEntrySo 246 = .ok (.aload_n 0, 1) := by decide +kernel
theorem dL_isEntrySo_247 : decode cL_isEntrySo 247 = .ok (.iload_n 2, 1) := by decide +kernel
theorem dL_isEntrySo_248 : decode cL_isEntrySo 248 = .ok (.invokevirtual 78, 3) := by decide +kernel
theorem dL_isEntrySo_251 : decode cL_isEntrySo 251 = .ok (.iload 9, 2) := by decide +kernel
theorem dL_isEntrySo_253 : decode cL_isEntrySo 253 = .ok (.if_icmp .lt 54, 3) := by decide +kernel
theorem dL_isEntrySo_256 : decode cL_isEntrySo 256 = .ok (.aload_n 0, 1) := by decide +kernel
theorem dL_isEntrySo_257 : decode cL_isEntrySo 257 = .ok (.iload_n 2, 1) := by decide +kernel
theorem dL_isEntrySo_258 : decode cL_isEntrySo 258 = .ok (.invokevirtual 84, 3) := by decide +kernel
theorem dL_isEntrySo_261 : decode cL_isEntrySo 261 = .ok (.iload 12, 2) := by decide +kernel
theorem dL_isEntrySo_263 : decode cL_isEntrySo 263 = .ok (.if_icmp .lt 44, 3) := by decide +kernel
theorem dL_isEntrySo_266 : decode cL_isEntrySo 266 = .ok (.aload_n 0, 1) := by decide +kernel
theorem dL_isEntrySo_267 : decode cL_isEntrySo 267 = .ok (.iload_n 2, 1) := by decide +kernel
theorem dL_isEntrySo_268 : decode cL_isEntrySo 268 = .ok (.invokevirtual 87, 3) := by decide +kernel
theorem dL_isEntrySo_271 : decode cL_isEntrySo 271 = .ok (.aload_n 0, 1) := by decide +kernel
theorem dL_isEntrySo_272 : decode cL_isEntrySo 272 = .ok (.iload_n 2, 1) := by decide +kernel
theorem dL_isEntrySo_273 : decode cL_isEntrySo 273 = .ok (.invokevirtual 78, 3) := by decide +kernel
theorem dL_isEntrySo_276 : decode cL_isEntrySo 276 = .ok (.if_icmp .ge 31, 3) := by decide +kernel
theorem dL_isEntrySo_279 : decode cL_isEntrySo 279 = .ok (.aload_n 0, 1) := by decide +kernel
theorem dL_isEntrySo_280 : decode cL_isEntrySo 280 = .ok (.iload_n 2, 1) := by decide +kernel
theorem dL_isEntrySo_281 : decode cL_isEntrySo 281 = .ok (.invokevirtual 90, 3) := by decide +kernel
theorem dL_isEntrySo_284 : decode cL_isEntrySo 284 = .ok (.iconst 1, 1) := by decide +kernel
theorem dL_isEntrySo_285 : decode cL_isEntrySo 285 = .ok (.if_icmp .lt 22, 3) := by decide +kernel
theorem dL_isEntrySo_288 : decode cL_isEntrySo 288 = .ok (.aload_n 0, 1) := by decide +kernel
theorem dL_isEntrySo_289 : decode cL_isEntrySo 289 = .ok (.iload_n 2, 1) := by decide +kernel
theorem dL_isEntrySo_290 : decode cL_isEntrySo 290 = .ok (.invokevirtual 90, 3) := by decide +kernel
theorem dL_isEntrySo_293 : decode cL_isEntrySo 293 = .ok (.iload 8, 2) := by decide +kernel
theorem dL_isEntrySo_295 : decode cL_isEntrySo 295 = .ok (.iload 7, 2) := by decide +kernel
theorem dL_isEntrySo_297 : decode cL_isEntrySo 297 = .ok (.isub, 1) := by decide +kernel
theorem dL_isEntrySo_298 : decode cL_isEntrySo 298 = .ok (.iconst 1, 1) := by decide +kernel
theorem dL_isEntrySo_299 : decode cL_isEntrySo 299 = .ok (.iadd, 1) := by decide +kernel
theorem dL_isEntrySo_300 : decode cL_isEntrySo 300 = .ok (.if_icmp .gt 7, 3) := by decide +kernel
theorem dL_isEntrySo_303 : decode cL_isEntrySo 303 = .ok (.iconst 1, 1) := by decide +kernel
theorem dL_isEntrySo_304 : decode cL_isEntrySo 304 = .ok (.goto 4, 3) := by decide +kernel
theorem dL_isEntrySo_307 : decode cL_isEntrySo 307 = .ok (.iconst 0, 1) := by decide +kernel
theorem dL_isEntrySo_308 : decode cL_isEntrySo 308 = .ok (.istore 4, 2) := by decide +kernel
theorem dL_isEntrySo_310 : decode cL_isEntrySo 310 = .ok (.iload_n 3, 1) := by decide +kernel
theorem dL_isEntrySo_311 : decode cL_isEntrySo 311 = .ok (.ifCond .eq 55, 3) := by decide +kernel
theorem dL_isEntrySo_314 : decode cL_isEntrySo 314 = .ok (.iload 4, 2) := by decide +kernel
theorem dL_isEntrySo_316 : decode cL_isEntrySo 316 = .ok (.ifCond .eq 47, 3) := by decide +kernel
theorem dL_isEntrySo_319 : decode cL_isEntrySo 319 = .ok (.aload_n 0, 1) := by decide +kernel
theorem dL_isEntrySo_320 : decode cL_isEntrySo 320 = .ok (.iload_n 2, 1) := by decide +kernel
theorem dL_isEntrySo_321 : decode cL_isEntrySo 321 = .ok (.invokevirtual 78, 3) := by decide +kernel
theorem dL_isEntrySo_324 : decode cL_isEntrySo 324 = .ok (.iload 9, 2) := by decide +kernel
theorem dL_isEntrySo_326 : decode cL_isEntrySo 326 = .ok (.if_icmp .ne 37, 3) := by decide +kernel
theorem dL_isEntrySo_329 : decode cL_isEntrySo 329 = .ok (.aload_n 0, 1) := by decide +kernel
theorem dL_isEntrySo_330 : decode cL_isEntrySo 330 = .ok (.iload_n 2, 1) := by decide +kernel
theorem dL_isEntrySo_331 : decode cL_isEntrySo 331 = .ok (.invokevirtual 84, 3) := by decide +kernel
theorem dL_isEntrySo_334 : decode cL_isEntrySo 334 = .ok (.iload 12, 2) := by decide +kernel
theorem dL_isEntrySo_336 : decode cL_isEntrySo 336 = .ok (.if_icmp .ne 27, 3) := by decide +kernel
theorem dL_isEntrySo_339 : decode cL_isEntrySo 339 = .ok (.aload_n 0, 1) := by decide +kernel
theorem dL_isEntrySo_340 : decode cL_isEntrySo 340 = .ok (.iload_n 2, 1) := by decide +kernel
theorem dL_isEntrySo_341 : decode cL_isEntrySo 341 = .ok (.invokevirtual 90, 3) := by decide +kernel
theorem dL_isEntrySo_344 : decode cL_isEntrySo 344 = .ok (.iload 11, 2) := by decide +kernel
theorem dL_isEntrySo_346 : decode cL_isEntrySo 346 = .ok (.if_icmp .ne 17, 3) := by decide +kernel
theorem dL_isEntrySo_349 : decode cL_isEntrySo 349 = .ok (.aload_n 0, 1) := by decide +kernel
theorem dL_isEntrySo_350 : decode cL_isEntrySo 350 = .ok (.iload_n 2, 1) := by decide +kernel
theorem dL_isEntrySo_351 : decode cL_isEntrySo 351 = .ok (.invokevirtual 87, 3) := by decide +kernel
theorem dL_isEntrySo_354 : decode cL_isEntrySo 354 = .ok (.iload 10, 2) := by decide +kernel
theorem dL_isEntrySo_356 : decode cL_isEntrySo 356 = .ok (.if_icmp .ne 7, 3) := by decide +kernel
theorem dL_isEntrySo_359 : decode cL_isEntrySo 359 = .ok (.iconst 1, 1) := by decide +kernel
theorem dL_isEntrySo_360 : decode cL_isEntrySo 360 = .ok (.goto 4, 3) := by decide +kernel
theorem dL_isEntrySo_363 : decode cL_isEntrySo 363 = .ok (.iconst 0, 1) := by decide +kernel
theorem dL_isEntrySo_364 : decode cL_isEntrySo 364 = .ok (.istore 4, 2) := by decide +kernel
theorem dL_isEntrySo_366 : decode cL_isEntrySo 366 = .ok (.iload 7, 2) := by decide +kernel
theorem dL_isEntrySo_368 : decode cL_isEntrySo 368 = .ok (.iload 8, 2) := by decide +kernel
theorem dL_isEntrySo_370 : decode cL_isEntrySo 370 = .ok (.if_icmp .ge 13, 3) := by decide +kernel
theorem dL_isEntrySo_373 : decode cL_isEntrySo 373 = .ok (.iload_n 2, 1) := by decide +kernel
theorem dL_isEntrySo_374 : decode cL_isEntrySo 374 = .ok (.bipush 64, 2) := by decide +kernel
theorem dL_isEntrySo_376 : decode cL_isEntrySo 376 = .ok (.if_icmp .ge 7, 3) := by decide +kernel
theorem dL_isEntrySo_379 : decode cL_isEntrySo 379 = .ok (.iconst 1, 1) := by decide +kernel
theorem dL_isEntrySo_380 : decode cL_isEntrySo 380 = .ok (.goto 4, 3) := by decide +kernel
theorem dL_isEntrySo_383 : decode cL_isEntrySo 383 = .ok (.iconst 0, 1) := by decide +kernel
theorem dL_isEntrySo_384 : decode cL_isEntrySo 384 = .ok (.istore 6, 2) := by decide +kernel
theorem dL_isEntrySo_386 : decode cL_isEntrySo 386 = .ok (.iload 6, 2) := by decide +kernel
theorem dL_isEntrySo_388 : decode cL_isEntrySo 388 = .ok (.ifCond .eq 96, 3) := by decide +kernel
theorem dL_isEntrySo_391 : decode cL_isEntrySo 391 = .ok (.aload_n 0, 1) := by decide +kernel
theorem dL_isEntrySo_392 : decode cL_isEntrySo 392 = .ok (.iconst 2, 1) := by decide +kernel
theorem dL_isEntrySo_393 : decode cL_isEntrySo 393 = .ok (.iload_n 2, 1) := by decide +kernel
theorem dL_isEntrySo_394 : decode cL_isEntrySo 394 = .ok (.imul, 1) := by decide +kernel
theorem dL_isEntrySo_395 : decode cL_isEntrySo 395 = .ok (.invokevirtual 81, 3) := by decide +kernel
theorem dL_isEntrySo_398 : decode cL_isEntrySo 398 = .ok (.bipush 100, 2) := by decide +kernel
theorem dL_isEntrySo_400 : decode cL_isEntrySo 400 = .ok (.irem, 1) := by decide +kernel
theorem dL_isEntrySo_401 : decode cL_isEntrySo 401 = .ok (.istore 13, 2) := by decide +kernel
theorem dL_isEntrySo_403 : decode cL_isEntrySo 403 = .ok (.iload 4, 2) := by decide +kernel
theorem dL_isEntrySo_405 : decode cL_isEntrySo 405 = .ok (.ifCond .eq 58, 3) := by decide +kernel
theorem dL_isEntrySo_408 : decode cL_isEntrySo 408 = .ok (.iload 13, 2) := by decide +kernel
theorem dL_isEntrySo_410 : decode cL_isEntrySo 410 = .ok (.iload 7, 2) := by decide +kernel
theorem dL_isEntrySo_412 : decode cL_isEntrySo 412 = .ok (.if_icmp .lt 51, 3) := by decide +kernel
theorem dL_isEntrySo_415 : decode cL_isEntrySo 415 = .ok (.iload 13, 2) := by decide +kernel
theorem dL_isEntrySo_417 : decode cL_isEntrySo 417 = .ok (.iload 8, 2) := by decide +kernel
theorem dL_isEntrySo_419 : decode cL_isEntrySo 419 = .ok (.if_icmp .ge 44, 3) := by decide +kernel
theorem dL_isEntrySo_422 : decode cL_isEntrySo 422 = .ok (.aload_n 0, 1) := by decide +kernel
theorem dL_isEntrySo_423 : decode cL_isEntrySo 423 = .ok (.iconst 2, 1) := by decide +kernel
theorem dL_isEntrySo_424 : decode cL_isEntrySo 424 = .ok (.iload_n 2, 1) := by decide +kernel
theorem dL_isEntrySo_425 : decode cL_isEntrySo 425 = .ok (.imul, 1) := by decide +kernel
theorem dL_isEntrySo_426 : decode cL_isEntrySo 426 = .ok (.invokevirtual 81, 3) := by decide +kernel
theorem dL_isEntrySo_429 : decode cL_isEntrySo 429 = .ok (.bipush 100, 2) := by decide +kernel
theorem dL_isEntrySo_431 : decode cL_isEntrySo 431 = .ok (.idiv, 1) := by decide +kernel
theorem dL_isEntrySo_432 : decode cL_isEntrySo 432 = .ok (.iload 7, 2) := by decide +kernel
theorem dL_isEntrySo_434 : decode cL_isEntrySo 434 = .ok (.if_icmp .ne 29, 3) := by decide +kernel
theorem dL_isEntrySo_437 : decode cL_isEntrySo 437 = .ok (.aload_n 0, 1) := by decide +kernel
theorem dL_isEntrySo_438 : decode cL_isEntrySo 438 = .ok (.iconst 2, 1) := by decide +kernel
theorem dL_isEntrySo_439 : decode cL_isEntrySo 439 = .ok (.iload_n 2, 1) := by decide +kernel
theorem dL_isEntrySo_440 : decode cL_isEntrySo 440 = .ok (.imul, 1) := by decide +kernel
theorem dL_isEntrySo_441 : decode cL_isEntrySo 441 = .ok (.iconst 1, 1) := by decide +kernel
theorem dL_isEntrySo_442 : decode cL_isEntrySo 442 = .ok (.iadd, 1) := by decide +kernel
theorem dL_isEntrySo_443 : decode cL_isEntrySo 443 = .ok (.invokevirtual 81, 3) := by decide +kernel
theorem dL_isEntrySo_446 : decode cL_isEntrySo 446 = .ok (.bipush 100, 2) := by decide +kernel
theorem dL_isEntrySo_448 : decode cL_isEntrySo 448 = .ok (.iload 13, 2) := by decide +kernel
theorem dL_isEntrySo_450 : decode cL_isEntrySo 450 = .ok (.iconst 1, 1) := by decide +kernel
theorem dL_isEntrySo_451 : decode cL_isEntrySo 451 = .ok (.iadd, 1) := by decide +kernel
theorem dL_isEntrySo_452 : decode cL_isEntrySo 452 = .ok (.imul, 1) := by decide +kernel
theorem dL_isEntrySo_453 : decode cL_isEntrySo 453 = .ok (.iload 8, 2) := by decide +kernel
theorem dL_isEntrySo_455 : decode cL_isEntrySo 455 = .ok (.iadd, 1) := by decide +kernel
theorem dL_isEntrySo_456 : decode cL_isEntrySo 456 = .ok (.if_icmp .ne 7, 3) := by decide +kernel
theorem dL_isEntrySo_459 : decode cL_isEntrySo 459 = .ok (.iconst 1, 1) := by decide +kernel
theorem dL_isEntrySo_460 : decode cL_isEntrySo 460 = .ok (.goto 4, 3) := by decide +kernel
theorem dL_isEntrySo_463 : decode cL_isEntrySo 463 = .ok (.iconst 0, 1) := by decide +kernel
theorem dL_isEntrySo_464 : decode cL_isEntrySo 464 = .ok (.istore 4, 2) := by decide +kernel
theorem dL_isEntrySo_466 : decode cL_isEntrySo 466 = .ok (.iload_n 1, 1) := by decide +kernel
theorem dL_isEntrySo_467 : decode cL_isEntrySo 467 = .ok (.iload 13, 2) := by decide +kernel
theorem dL_isEntrySo_469 : decode cL_isEntrySo 469 = .ok (.if_icmp .gt 9, 3) := by decide +kernel
theorem dL_isEntrySo_472 : decode cL_isEntrySo 472 = .ok (.iconst 2, 1) := by decide +kernel
theorem dL_isEntrySo_473 : decode cL_isEntrySo 473 = .ok (.iload_n 2, 1) := by decide +kernel
theorem dL_isEntrySo_474 : decode cL_isEntrySo 474 = .ok (.imul, 1) := by decide +kernel
theorem dL_isEntrySo_475 : decode cL_isEntrySo 475 = .ok (.goto 8, 3) := by decide +kernel
theorem dL_isEntrySo_478 : decode cL_isEntrySo 478 = .ok (.iconst 2, 1) := by decide +kernel
theorem dL_isEntrySo_479 : decode cL_isEntrySo 479 = .ok (.iload_n 2, 1) := by decide +kernel
theorem dL_isEntrySo_480 : decode cL_isEntrySo 480 = .ok (.imul, 1) := by decide +kernel
theorem dL_isEntrySo_481 : decode cL_isEntrySo 481 = .ok (.iconst 1, 1) := by decide +kernel
theorem dL_isEntrySo_482 : decode cL_isEntrySo 482 = .ok (.iadd, 1) := by decide +kernel
theorem dL_isEntrySo_483 : decode cL_isEntrySo 483 = .ok (.istore_n 2, 1) := by decide +kernel
theorem dL_isEntrySo_484 : decode cL_isEntrySo 484 = .ok (.goto (-467), 3) := by decide +kernel
theorem dL_isEntrySo_487 : decode cL_isEntrySo 487 = .ok (.iload 4, 2) := by decide +kernel
theorem dL_isEntrySo_489 : decode cL_isEntrySo 489 = .ok (.ifCond .eq 27, 3) := by decide +kernel
theorem dL_isEntrySo_492 : decode cL_isEntrySo 492 = .ok (.aload_n 0, 1) := by decide +kernel
theorem dL_isEntrySo_493 : decode cL_isEntrySo 493 = .ok (.iload_n 1, 1) := by decide +kernel
theorem dL_isEntrySo_494 : decode cL_isEntrySo 494 = .ok (.invokevirtual 46, 3) := by decide +kernel
theorem dL_isEntrySo_497 : decode cL_isEntrySo 497 = .ok (.iload 5, 2) := by decide +kernel
theorem dL_isEntrySo_499 : decode cL_isEntrySo 499 = .ok (.if_icmp .ne 17, 3) := by decide +kernel
theorem dL_isEntrySo_502 : decode cL_isEntrySo 502 = .ok (.aload_n 0, 1) := by decide +kernel
theorem dL_isEntrySo_503 : decode cL_isEntrySo 503 = .ok (.iload_n 1, 1) := by decide +kernel
theorem dL_isEntrySo_504 : decode cL_isEntrySo 504 = .ok (.invokevirtual 50, 3) := by decide +kernel
theorem dL_isEntrySo_507 : decode cL_isEntrySo 507 = .ok (.iload 5, 2) := by decide +kernel
theorem dL_isEntrySo_509 : decode cL_isEntrySo 509 = .ok (.if_icmp .ne 7, 3) := by decide +kernel
theorem dL_isEntrySo_512 : decode cL_isEntrySo 512 = .ok (.iconst 1, 1) := by decide +kernel
theorem dL_isEntrySo_513 : decode cL_isEntrySo 513 = .ok (.goto 4, 3) := by decide +kernel
theorem dL_isEntrySo_516 : decode cL_isEntrySo 516 = .ok (.iconst 0, 1) := by decide +kernel
theorem dL_isEntrySo_517 : decode cL_isEntrySo 517 = .ok (.ireturn, 1) := by decide +kernel
set_option maxRecDepth 20000 in
theorem ggL_isSo_X2_columns : GoodIn wsL_isSo wsX2_columns := goodIn_r _ [5, 6, 87, 88, 89, 90, 91, 92, 93] (by decide +kernel) (by decide +kernel)
set_option maxRecDepth 20000 in
theorem gL_isSo_X2_columns : GoodIn wsL_isSo (wsV RL 8 RX2 yX2_columns wsX2_columns) := goodIn_app (goodIn_of _ (by decide +kernel)) ggL_isSo_X2_columns
set_option maxRecDepth 20000 in
theorem ggL_isSo_X2_heightOfColumn : GoodIn wsL_isSo wsX2_heightOfColumn := goodIn_r _ [10, 6, 11, 12, 13, 4, 14, 15, 16, 87, 88, 89, 90, 91, 92, 93] (by decide +kernel) (by decide +kernel)
set_option maxRecDepth 20000 in
theorem gL_isSo_X2_heightOfColumn : GoodIn wsL_isSo (wsV RL 50 RX2 yX2_heightOfColumn wsX2_heightOfColumn) := goodIn_app (goodIn_of _ (by decide +kernel)) ggL_isSo_X2_heightOfColumn
set_option maxRecDepth 20000 in
theorem ggL_isSo_X2_noted : GoodIn wsL_isSo wsX2_noted := goodIn_r _ [20, 21, 22, 23, 24, 4, 25, 15, 16, 26, 27, 28, 29, 30, 31, 87, 88, 89, 94, 95, 96, 97, 98, 99, 100, 101, 102] (by decide +kernel) (by decide +kernel)
set_option maxRecDepth 20000 in
theorem gL_isSo_X2_noted : GoodIn wsL_isSo (wsV RL 84 RX2 yX2_noted wsX2_noted) := goodIn_app (goodIn_of _ (by decide +kernel)) ggL_isSo_X2_noted
set_option maxRecDepth 20000 in
theorem ggL_isSo_X2_earthByColumns : GoodIn wsL_isSo wsX2_earthByColumns := goodIn_r _ [35, 6, 36, 37, 38, 4, 39, 40, 41, 11, 12, 13, 14, 15, 16, 42, 43, 44, 45, 46, 47, 48, 49, 50, 51, 87, 88, 89, 90, 91, 92, 93] (by decide +kernel) (by decide +kernel)
set_option maxRecDepth 20000 in
theorem gL_isSo_X2_earthByColumns : GoodIn wsL_isSo (wsV RL 56 RX2 yX2_earthByColumns wsX2_earthByColumns) := goodIn_app (goodIn_of _ (by decide +kernel)) ggL_isSo_X2_earthByColumns
set_option maxRecDepth 20000 in
theorem ggL_isSo_X2_greatest : GoodIn wsL_isSo wsX2_greatest := goodIn_r _ [55, 21, 22, 23, 24, 4, 25, 15, 16, 26, 27, 28, 29, 30, 31, 87, 88, 89, 94, 95, 96, 97, 98, 99, 100, 101, 102] (by decide +kernel) (by decide +kernel)
set_option maxRecDepth 20000 in
theorem gL_isSo_X2_greatest : GoodIn wsL_isSo (wsV RL 78 RX2 yX2_greatest wsX2_greatest) := goodIn_app (goodIn_of _ (by decide +kernel)) ggL_isSo_X2_greatest
set_option maxRecDepth 20000 in
theorem ggL_isSo_X2_pressedAway : GoodIn wsL_isSo wsX2_pressedAway := goodIn_r _ [59, 60, 87, 88, 89] (by decide +kernel) (by decide +kernel)
set_option maxRecDepth 20000 in
theorem gL_isSo_X2_pressedAway : GoodIn wsL_isSo (wsV RL 32 RX2 yX2_pressedAway wsX2_pressedAway) := goodIn_app (goodIn_of _ (by decide +kernel)) ggL_isSo_X2_pressedAway
set_option maxRecDepth 20000 in
theorem ggL_isSo_X2_pressedAwayByRest : GoodIn wsL_isSo wsX2_pressedAwayByRest := goodIn_r _ [64, 6, 42, 43, 44, 45, 46, 47, 48, 49, 50, 51, 87, 88, 89, 90, 91, 92, 93] (by decide +kernel) (by decide +kernel)
set_option maxRecDepth 20000 in
theorem gL_isSo_X2_pressedAwayByRest : GoodIn wsL_isSo (wsV RL 93 RX2 yX2_pressedAwayByRest wsX2_pressedAwayByRest) := goodIn_app (goodIn_of _ (by decide +kernel)) ggL_isSo_X2_pressedAwayByRest
set_option maxRecDepth 20000 in
theorem ggL_isSo_X2_lagging : GoodIn wsL_isSo wsX2_lagging := goodIn_r _ [68, 21, 69, 70, 71, 29, 72, 73, 27, 28, 30, 31, 74, 75, 76, 77, 78, 87, 88, 89, 94, 95, 96, 97, 98, 99, 100, 101, 102] (by decide +kernel) (by decide +kernel)
set_option maxRecDepth 20000 in
theorem gL_isSo_X2_lagging : GoodIn wsL_isSo (wsV RL 29 RX2 yX2_lagging wsX2_lagging) := goodIn_app (goodIn_of _ (by decide +kernel)) ggL_isSo_X2_lagging
set_option maxRecDepth 20000 in
theorem ggL_isSo_X2_meanVisits : GoodIn wsL_isSo wsX2_meanVisits := goodIn_r _ [82, 21, 87, 88, 89, 94, 95, 96, 97, 98, 99, 100, 101, 102] (by decide +kernel) (by decide +kernel)
set_option maxRecDepth 20000 in
theorem gL_isSo_X2_meanVisits : GoodIn wsL_isSo (wsV RL 96 RX2 yX2_meanVisits wsX2_meanVisits) := goodIn_app (goodIn_of _ (by decide +kernel)) ggL_isSo_X2_meanVisits
set_option maxRecDepth 20000 in
theorem ggL_isSo_X2_allVisits : GoodIn wsL_isSo wsX2_allVisits := goodIn_r _ [86, 21, 87, 88, 89, 94, 95, 96, 97, 98, 99, 100, 101, 102] (by decide +kernel) (by decide +kernel)
set_option maxRecDepth 20000 in
theorem gL_isSo_X2_allVisits : GoodIn wsL_isSo (wsV RL 26 RX2 yX2_allVisits wsX2_allVisits) := goodIn_app (goodIn_of _ (by decide +kernel)) ggL_isSo_X2_allVisits
theorem dL_isSo_0 : decode cL_isSo 0 = .ok (.aload_n 0, 1) := by decide +kernel
theorem dL_isSo_1 : decode cL_isSo 1 = .ok (.invokevirtual 8, 3) := by decide +kernel
theorem dL_isSo_4 : decode cL_isSo 4 = .ok (.istore_n 1, 1) := by decide +kernel
theorem dL_isSo_5 : decode cL_isSo 5 = .ok (.iconst 0, 1) := by decide +kernel
theorem dL_isSo_6 : decode cL_isSo 6 = .ok (.istore_n 2, 1) := by decide +kernel
theorem dL_isSo_7 : decode cL_isSo 7 = .ok (.iconst 0, 1) := by decide +kernel
theorem dL_isSo_8 : decode cL_isSo 8 = .ok (.istore_n 3, 1) := by decide +kernel
theorem dL_isSo_9 : decode cL_isSo 9 = .ok (.iload_n 3, 1) := by decide +kernel
theorem dL_isSo_10 : decode cL_isSo 10 = .ok (.iload_n 1, 1) := by decide +kernel
theorem dL_isSo_11 : decode cL_isSo 11 = .ok (.if_icmp .ge 28, 3) := by decide +kernel
theorem dL_isSo_14 : decode cL_isSo 14 = .ok (.aload_n 0, 1) := by decide +kernel
theorem dL_isSo_15 : decode cL_isSo 15 = .ok (.iload_n 3, 1) := by decide +kernel
theorem dL_isSo_16 : decode cL_isSo 16 = .ok (.invokevirtual 50, 3) := by decide +kernel
theorem dL_isSo_19 : decode cL_isSo 19 = .ok (.iload_n 2, 1) := by decide +kernel
theorem dL_isSo_20 : decode cL_isSo 20 = .ok (.if_icmp .le 11, 3) := by decide +kernel
theorem dL_isSo_23 : decode cL_isSo 23 = .ok (.aload_n 0, 1) := by decide +kernel
theorem dL_isSo_24 : decode cL_isSo 24 = .ok (.iload_n 3, 1) := by decide +kernel
theorem dL_isSo_25 : decode cL_isSo 25 = .ok (.invokevirtual 50, 3) := by decide +kernel
theorem dL_isSo_28 : decode cL_isSo 28 = .ok (.goto 4, 3) := by decide +kernel
theorem dL_isSo_31 : decode cL_isSo 31 = .ok (.iload_n 2, 1) := by decide +kernel
theorem dL_isSo_32 : decode cL_isSo 32 = .ok (.istore_n 2, 1) := by decide +kernel
theorem dL_isSo_33 : decode cL_isSo 33 = .ok (.iinc 3 1, 3) := by decide +kernel
theorem dL_isSo_36 : decode cL_isSo 36 = .ok (.goto (-27), 3) := by decide +kernel
theorem dL_isSo_39 : decode cL_isSo 39 = .ok (.aload_n 0, 1) := by decide +kernel
theorem dL_isSo_40 : decode cL_isSo 40 = .ok (.iconst 1, 1) := by decide +kernel
theorem dL_isSo_41 : decode cL_isSo 41 = .ok (.invokevirtual 84, 3) := by decide +kernel
theorem dL_isSo_44 : decode cL_isSo 44 = .ok (.aload_n 0, 1) := by decide +kernel
theorem dL_isSo_45 : decode cL_isSo 45 = .ok (.iconst 0, 1) := by decide +kernel
theorem dL_isSo_46 : decode cL_isSo 46 = .ok (.iload_n 1, 1) := by decide +kernel
theorem dL_isSo_47 : decode cL_isSo 47 = .ok (.iconst 1, 1) := by decide +kernel
theorem dL_isSo_48 : decode cL_isSo 48 = .ok (.isub, 1) := by decide +kernel
theorem dL_isSo_49 : decode cL_isSo 49 = .ok (.invokevirtual 56, 3) := by decide +kernel
theorem dL_isSo_52 : decode cL_isSo 52 = .ok (.if_icmp .ne 46, 3) := by decide +kernel
theorem dL_isSo_55 : decode cL_isSo 55 = .ok (.aload_n 0, 1) := by decide +kernel
theorem dL_isSo_56 : decode cL_isSo 56 = .ok (.iconst 1, 1) := by decide +kernel
theorem dL_isSo_57 : decode cL_isSo 57 = .ok (.invokevirtual 78, 3) := by decide +kernel
theorem dL_isSo_60 : decode cL_isSo 60 = .ok (.iload_n 2, 1) := by decide +kernel
theorem dL_isSo_61 : decode cL_isSo 61 = .ok (.if_icmp .ne 37, 3) := by decide +kernel
theorem dL_isSo_64 : decode cL_isSo 64 = .ok (.aload_n 0, 1) := by decide +kernel
theorem dL_isSo_65 : decode cL_isSo 65 = .ok (.invokevirtual 32, 3) := by decide +kernel
theorem dL_isSo_68 : decode cL_isSo 68 = .ok (.aload_n 0, 1) := by decide +kernel
theorem dL_isSo_69 : decode cL_isSo 69 = .ok (.invokevirtual 93, 3) := by decide +kernel
theorem dL_isSo_72 : decode cL_isSo 72 = .ok (.if_icmp .ne 26, 3) := by decide +kernel
theorem dL_isSo_75 : decode cL_isSo 75 = .ok (.aload_n 0, 1) := by decide +kernel
theorem dL_isSo_76 : decode cL_isSo 76 = .ok (.invokevirtual 29, 3) := by decide +kernel
theorem dL_isSo_79 : decode cL_isSo 79 = .ok (.ifCond .lt 19, 3) := by decide +kernel
theorem dL_isSo_82 : decode cL_isSo 82 = .ok (.aload_n 0, 1) := by decide +kernel
theorem dL_isSo_83 : decode cL_isSo 83 = .ok (.invokevirtual 29, 3) := by decide +kernel
theorem dL_isSo_86 : decode cL_isSo 86 = .ok (.iconst 2, 1) := by decide +kernel
theorem dL_isSo_87 : decode cL_isSo 87 = .ok (.iload_n 1, 1) := by decide +kernel
theorem dL_isSo_88 : decode cL_isSo 88 = .ok (.imul, 1) := by decide +kernel
theorem dL_isSo_89 : decode cL_isSo 89 = .ok (.iconst 1, 1) := by decide +kernel
theorem dL_isSo_90 : decode cL_isSo 90 = .ok (.isub, 1) := by decide +kernel
theorem dL_isSo_91 : decode cL_isSo 91 = .ok (.if_icmp .ge 7, 3) := by decide +kernel
theorem dL_isSo_94 : decode cL_isSo 94 = .ok (.iconst 1, 1) := by decide +kernel
theorem dL_isSo_95 : decode cL_isSo 95 = .ok (.goto 4, 3) := by decide +kernel
theorem dL_isSo_98 : decode cL_isSo 98 = .ok (.iconst 0, 1) := by decide +kernel
theorem dL_isSo_99 : decode cL_isSo 99 = .ok (.istore_n 3, 1) := by decide +kernel
theorem dL_isSo_100 : decode cL_isSo 100 = .ok (.iload_n 3, 1) := by decide +kernel
theorem dL_isSo_101 : decode cL_isSo 101 = .ok (.ifCond .eq 45, 3) := by decide +kernel
theorem dL_isSo_104 : decode cL_isSo 104 = .ok (.aload_n 0, 1) := by decide +kernel
theorem dL_isSo_105 : decode cL_isSo 105 = .ok (.invokevirtual 96, 3) := by decide +kernel
theorem dL_isSo_108 : decode cL_isSo 108 = .ok (.dconst 0, 1) := by decide +kernel
theorem dL_isSo_109 : decode cL_isSo 109 = .ok (.dcmp .l, 1) := by decide +kernel
theorem dL_isSo_110 : decode cL_isSo 110 = .ok (.ifCond .lt 36, 3) := by decide +kernel
theorem dL_isSo_113 : decode cL_isSo 113 = .ok (.aload_n 0, 1) := by decide +kernel
theorem dL_isSo_114 : decode cL_isSo 114 = .ok (.invokevirtual 26, 3) := by decide +kernel
theorem dL_isSo_117 : decode cL_isSo 117 = .ok (.ifCond .le 7, 3) := by decide +kernel
theorem dL_isSo_120 : decode cL_isSo 120 = .ok (.iconst 1, 1) := by decide +kernel
theorem dL_isSo_121 : decode cL_isSo 121 = .ok (.goto 4, 3) := by decide +kernel
theorem dL_isSo_124 : decode cL_isSo 124 = .ok (.iconst 0, 1) := by decide +kernel
theorem dL_isSo_125 : decode cL_isSo 125 = .ok (.aload_n 0, 1) := by decide +kernel
theorem dL_isSo_126 : decode cL_isSo 126 = .ok (.invokevirtual 96, 3) := by decide +kernel
theorem dL_isSo_129 : decode cL_isSo 129 = .ok (.dconst 0, 1) := by decide +kernel
theorem dL_isSo_130 : decode cL_isSo 130 = .ok (.dcmp .l, 1) := by decide +kernel
theorem dL_isSo_131 : decode cL_isSo 131 = .ok (.ifCond .le 7, 3) := by decide +kernel
theorem dL_isSo_134 : decode cL_isSo 134 = .ok (.iconst 1, 1) := by decide +kernel
theorem dL_isSo_135 : decode cL_isSo 135 = .ok (.goto 4, 3) := by decide +kernel
theorem dL_isSo_138 : decode cL_isSo 138 = .ok (.iconst 0, 1) := by decide +kernel
theorem dL_isSo_139 : decode cL_isSo 139 = .ok (.if_icmp .ne 7, 3) := by decide +kernel
theorem dL_isSo_142 : decode cL_isSo 142 = .ok (.iconst 1, 1) := by decide +kernel
theorem dL_isSo_143 : decode cL_isSo 143 = .ok (.goto 4, 3) := by decide +kernel
theorem dL_isSo_146 : decode cL_isSo 146 = .ok (.iconst 0, 1) := by decide +kernel
theorem dL_isSo_147 : decode cL_isSo 147 = .ok (.ireturn, 1) := by decide +kernel
set_option maxRecDepth 20000 in
theorem ggL_law_X2_init : GoodIn wsL_law wsX2_init := goodIn_r _ [5, 6, 7, 8, 9, 10, 11, 12, 13, 14, 15, 16, 17, 18, 19, 20, 21, 22, 23, 24, 25, 26, 27, 28, 29, 30, 31, 32, 33, 34, 35, 36, 37, 38, 39, 40, 41, 42, 43, 44, 45, 46, 47, 48, 49, 50, 51, 52, 53, 54, 55, 56, 57, 318, 319, 320, 321, 322, 323, 324, 325, 326, 315, 316, 317, 327, 328, 329, 330] (by decide +kernel) (by decide +kernel)
set_option maxRecDepth 20000 in
theorem gL_law_X2_init : GoodIn wsL_law (wsX2_init) := ggL_law_X2_init
set_option maxRecDepth 20000 in
theorem ggL_law_L_cell : GoodIn wsL_law wsL_cell := goodIn_r _ [61] (by decide +kernel) (by decide +kernel)
set_option maxRecDepth 20000 in
theorem gL_law_L_cell : GoodIn wsL_law (va_wsS RL 101 yL_cell wsL_cell) := goodIn_app (goodIn_of _ (by decide +kernel)) ggL_law_L_cell
set_option maxRecDepth 20000 in
theorem ggL_law_L_low : GoodIn wsL_law wsL_low := goodIn_r _ [64, 65] (by decide +kernel) (by decide +kernel)
set_option maxRecDepth 20000 in
theorem gL_law_L_low : GoodIn wsL_law (va_wsS RL 14 yL_low wsL_low) := goodIn_app (goodIn_of _ (by decide +kernel)) ggL_law_L_low
set_option maxRecDepth 20000 in
theorem ggL_law_X2_layOut : GoodIn wsL_law wsX2_layOut := goodIn_r _ [69, 12, 16, 17, 70, 71, 2, 72, 73, 74, 33, 34, 35, 11, 36, 23, 22, 24, 25, 26, 27, 37, 38, 39, 40, 41, 42, 43, 44, 45, 46, 47, 48, 49, 50, 51, 52, 53, 54, 15, 55, 56, 57, 31, 32, 315, 316, 317, 318, 319, 320, 321, 322, 323, 324, 325, 326, 327, 328, 329, 330] (by decide +kernel) (by decide +kernel)
set_option maxRecDepth 20000 in
theorem gL_law_X2_layOut : GoodIn wsL_law (wsV RL 20 RX2 yX2_layOut wsX2_layOut) := goodIn_app (goodIn_of _ (by decide +kernel)) ggL_law_X2_layOut
set_option maxRecDepth 20000 in
theorem ggL_law_L_does : GoodIn wsL_law wsL_does := goodIn_r _ [77, 78, 79, 80, 2, 81, 16, 62, 63, 60, 64, 65, 66, 67, 68, 69, 12, 17, 70, 71, 72, 73, 74, 33, 34, 35, 11, 36, 23, 22, 24, 25, 26, 27, 37, 38, 39, 40, 41, 42, 43, 44, 45, 46, 47, 48, 49, 50, 51, 52, 53, 54, 15, 55, 56, 57, 31, 32, 82, 83, 84, 85, 86, 87, 88, 89, 90, 91, 92, 93, 94, 95, 96, 97, 98, 99, 100, 101, 102, 103, 104, 105, 106, 107, 108, 109, 110, 111, 112, 113, 114, 115, 116, 117, 118, 119, 120, 121, 122, 123, 124, 125, 126, 127, 128, 129, 130, 131, 132, 133, 134, 135, 136, 137, 138, 139, 140, 141, 142, 143, 144, 145, 146, 147, 148, 149, 150, 151, 152, 153, 154, 155, 156, 157, 158, 159, 160, 161, 162, 163, 164, 165, 166, 167, 168, 169, 170, 171, 172, 173, 174, 175, 176, 177, 178, 179, 180, 181, 182, 183, 184, 185, 186, 187, 188, 189, 190, 191, 192, 193, 194, 195, 196, 197, 198, 199, 200, 201, 202, 203, 204, 205, 206, 207, 208, 209, 210, 211, 212, 213, 214, 215, 216, 217, 218, 219, 220, 221, 222, 223, 224, 225, 226, 227, 228, 229, 230, 231, 232, 233, 234, 235, 236, 237, 238, 239, 240, 241, 242, 243, 244, 245, 246, 247, 248, 249, 250, 251, 252, 253, 254, 255, 256, 257, 258, 259, 260, 261, 262, 263, 264, 265, 266, 267, 268, 269, 270, 271, 272, 273, 274, 275, 315, 316, 317, 327, 328, 329, 330, 318, 319, 320, 321, 322, 323, 324, 325, 326] (by decide +kernel) (by decide +kernel)
set_option maxRecDepth 20000 in
theorem gL_law_L_does : GoodIn wsL_law (va_wsS RL 105 yL_does wsL_does) := goodIn_app (goodIn_of _ (by decide +kernel)) ggL_law_L_does
set_option maxRecDepth 20000 in
theorem ggL_law_L_isSo : GoodIn wsL_law wsL_isSo := goodIn_r _ [278, 78, 79, 80, 2, 81, 16, 135, 136, 137, 138, 117, 118, 119, 120, 121, 122, 279, 280, 281, 282, 12, 283, 284, 285, 286, 287, 99, 100, 11, 101, 23, 195, 196, 197, 198, 199, 200, 201, 202, 73, 74, 203, 204, 205, 15, 206, 31, 207, 182, 129, 183, 288, 289, 290, 291, 106, 107, 108, 109, 17, 292, 293, 294, 295, 90, 91, 92, 93, 94, 95, 96, 97, 98, 102, 103, 104, 105, 24, 296, 297, 298, 299, 86, 87, 88, 89, 315, 316, 317, 327, 328, 329, 330, 318, 319, 320, 321, 322, 323, 324, 325, 326] (by decide +kernel) (by decide +kernel)
set_option maxRecDepth 20000 in
theorem gL_law_L_isSo : GoodIn wsL_law (va_wsS RL 108 yL_isSo wsL_isSo) := goodIn_app (goodIn_of _ (by decide +kernel)) ggL_law_L_isSo
set_option maxRecDepth 20000 in
theorem ggL_law_X2_columns : GoodIn wsL_law wsX2_columns := goodIn_r _ [81, 16, 315, 316, 317, 327, 328, 329, 330] (by decide +kernel) (by decide +kernel)
set_option maxRecDepth 20000 in
theorem gL_law_X2_columns : GoodIn wsL_law (wsV RL 8 RX2 yX2_columns wsX2_columns) := goodIn_app (goodIn_of _ (by decide +kernel)) ggL_law_X2_columns
set_option maxRecDepth 20000 in
theorem ggL_law_L_isEntrySo : GoodIn wsL_law wsL_isEntrySo := goodIn_r _ [302, 288, 289, 290, 2, 291, 12, 283, 284, 285, 286, 121, 122, 287, 99, 100, 11, 101, 23, 303, 304, 305, 306, 135, 136, 137, 138, 16, 117, 118, 119, 120, 195, 196, 197, 198, 199, 200, 201, 202, 73, 74, 203, 204, 205, 15, 206, 31, 207, 182, 129, 183, 279, 280, 281, 282, 307, 308, 309, 310, 311, 312, 313, 314, 113, 114, 115, 116, 123, 124, 125, 126, 24, 127, 128, 130, 98, 131, 132, 133, 134, 22, 315, 316, 317, 318, 319, 320, 321, 322, 323, 324, 325, 326, 327, 328, 329, 330] (by decide +kernel) (by decide +kernel)
set_option maxRecDepth 20000 in
theorem gL_law_L_isEntrySo : GoodIn wsL_law (va_wsS RL 112 yL_isEntrySo wsL_isEntrySo) := goodIn_app (goodIn_of _ (by decide +kernel)) ggL_law_L_isEntrySo
theorem dL_law_0 : decode cL_law 0 = .ok (.new 9, 3) := by decide +kernel
theorem dL_law_3 : decode cL_law 3 = .ok (.dup, 1) := by decide +kernel
theorem dL_law_4 : decode cL_law 4 = .ok (.invokespecial 100, 3) := by decide +kernel
theorem dL_law_7 : decode cL_law 7 = .ok (.astore_n 1, 1) := by decide +kernel
theorem dL_law_8 : decode cL_law 8 = .ok (.aload_n 1, 1) := by decide +kernel
theorem dL_law_9 : decode cL_law 9 = .ok (.iconst 2, 1) := by decide +kernel
theorem dL_law_10 : decode cL_law 10 = .ok (.aload_n 0, 1) := by decide +kernel
theorem dL_law_11 : decode cL_law 11 = .ok (.iconst 0, 1) := by decide +kernel
theorem dL_law_12 : decode cL_law 12 = .ok (.invokestatic 101, 3) := by decide +kernel
theorem dL_law_15 : decode cL_law 15 = .ok (.bipush 40, 2) := by decide +kernel
theorem dL_law_17 : decode cL_law 17 = .ok (.invokestatic 14, 3) := by decide +kernel
theorem dL_law_20 : decode cL_law 20 = .ok (.iadd, 1) := by decide +kernel
theorem dL_law_21 : decode cL_law 21 = .ok (.bipush 100, 2) := by decide +kernel
theorem dL_law_23 : decode cL_law 23 = .ok (.invokevirtual 20, 3) := by decide +kernel
theorem dL_law_26 : decode cL_law 26 = .ok (.istore_n 2, 1) := by decide +kernel
theorem dL_law_27 : decode cL_law 27 = .ok (.iload_n 2, 1) := by decide +kernel
theorem dL_law_28 : decode cL_law 28 = .ok (.sipush 200, 3) := by decide +kernel
theorem dL_law_31 : decode cL_law 31 = .ok (.if_icmp .ge 5, 3) := by decide +kernel
theorem dL_law_34 : decode cL_law 34 = .ok (.iconst 0, 1) := by decide +kernel
theorem dL_law_35 : decode cL_law 35 = .ok (.ireturn, 1) := by decide +kernel
theorem dL_law_36 : decode cL_law 36 = .ok (.iconst 0, 1) := by decide +kernel
theorem dL_law_37 : decode cL_law 37 = .ok (.istore_n 3, 1) := by decide +kernel
theorem dL_law_38 : decode cL_law 38 = .ok (.iload_n 3, 1) := by decide +kernel
theorem dL_law_39 : decode cL_law 39 = .ok (.bipush 56, 2) := by decide +kernel
theorem dL_law_41 : decode cL_law 41 = .ok (.if_icmp .ge 60, 3) := by decide +kernel
theorem dL_law_44 : decode cL_law 44 = .ok (.aload_n 0, 1) := by decide +kernel
theorem dL_law_45 : decode cL_law 45 = .ok (.iload_n 3, 1) := by decide +kernel
theorem dL_law_46 : decode cL_law 46 = .ok (.invokestatic 101, 3) := by decide +kernel
theorem dL_law_49 : decode cL_law 49 = .ok (.istore 4, 2) := by decide +kernel
theorem dL_law_51 : decode cL_law 51 = .ok (.aload_n 1, 1) := by decide +kernel
theorem dL_law_52 : decode cL_law 52 = .ok (.iload 4, 2) := by decide +kernel
theorem dL_law_54 : decode cL_law 54 = .ok (.aload_n 0, 1) := by decide +kernel
theorem dL_law_55 : decode cL_law 55 = .ok (.iload_n 3, 1) := by decide +kernel
theorem dL_law_56 : decode cL_law 56 = .ok (.bipush 8, 2) := by decide +kernel
theorem dL_law_58 : decode cL_law 58 = .ok (.iadd, 1) := by decide +kernel
theorem dL_law_59 : decode cL_law 59 = .ok (.invokestatic 101, 3) := by decide +kernel
theorem dL_law_62 : decode cL_law 62 = .ok (.invokestatic 105, 3) := by decide +kernel
theorem dL_law_65 : decode cL_law 65 = .ok (.ifCond .eq 28, 3) := by decide +kernel
theorem dL_law_68 : decode cL_law 68 = .ok (.aload_n 1, 1) := by decide +kernel
theorem dL_law_69 : decode cL_law 69 = .ok (.invokestatic 108, 3) := by decide +kernel
theorem dL_law_72 : decode cL_law 72 = .ok (.ifCond .eq 21, 3) := by decide +kernel
theorem dL_law_75 : decode cL_law 75 = .ok (.aload_n 1, 1) := by decide +kernel
theorem dL_law_76 : decode cL_law 76 = .ok (.iload 4, 2) := by decide +kernel
theorem dL_law_78 : decode cL_law 78 = .ok (.iconst 5, 1) := by decide +kernel
theorem dL_law_79 : decode cL_law 79 = .ok (.ishr, 1) := by decide +kernel
theorem dL_law_80 : decode cL_law 80 = .ok (.aload_n 1, 1) := by decide +kernel
theorem dL_law_81 : decode cL_law 81 = .ok (.invokevirtual 8, 3) := by decide +kernel
theorem dL_law_84 : decode cL_law 84 = .ok (.invokestatic 14, 3) := by decide +kernel
theorem dL_law_87 : decode cL_law 87 = .ok (.invokestatic 112, 3) := by decide +kernel
theorem dL_law_90 : decode cL_law 90 = .ok (.ifCond .ne 5, 3) := by decide +kernel
theorem dL_law_93 : decode cL_law 93 = .ok (.iconst 0, 1) := by decide +kernel
theorem dL_law_94 : decode cL_law 94 = .ok (.ireturn, 1) := by decide +kernel
theorem dL_law_95 : decode cL_law 95 = .ok (.iinc 3 1, 3) := by decide +kernel
theorem dL_law_98 : decode cL_law 98 = .ok (.goto (-60), 3) := by decide +kernel
theorem dL_law_101 : decode cL_law 101 = .ok (.iconst 1, 1) := by decide +kernel
theorem dL_law_102 : decode cL_law 102 = .ok (.ireturn, 1) := by decide +kernel
