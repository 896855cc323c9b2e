theorem dX3_init_0 : decode cX3_init 0 = .ok (.aload_n 0, 1) := by decide +kernel
theorem dX3_init_1 : decode cX3_init 1 = .ok (.invokespecial 1, 3) := by decide +kernel
theorem dX3_init_4 : decode cX3_init 4 = .ok (.aload_n 0, 1) := by decide +kernel
theorem dX3_init_5 : decode cX3_init 5 = .ok (.bipush 64, 2) := by decide +kernel
theorem dX3_init_7 : decode cX3_init 7 = .ok (.newarray .int, 2) := by decide +kernel
theorem dX3_init_9 : decode cX3_init 9 = .ok (.putfield 7, 3) := by decide +kernel
theorem dX3_init_12 : decode cX3_init 12 = .ok (.aload_n 0, 1) := by decide +kernel
theorem dX3_init_13 : decode cX3_init 13 = .ok (.bipush 64, 2) := by decide +kernel
theorem dX3_init_15 : decode cX3_init 15 = .ok (.newarray .int, 2) := by decide +kernel
theorem dX3_init_17 : decode cX3_init 17 = .ok (.putfield 13, 3) := by decide +kernel
theorem dX3_init_20 : decode cX3_init 20 = .ok (.aload_n 0, 1) := by decide +kernel
theorem dX3_init_21 : decode cX3_init 21 = .ok (.sipush 128, 3) := by decide +kernel
theorem dX3_init_24 : decode cX3_init 24 = .ok (.newarray .int, 2) := by decide +kernel
theorem dX3_init_26 : decode cX3_init 26 = .ok (.putfield 16, 3) := by decide +kernel
theorem dX3_init_29 : decode cX3_init 29 = .ok (.aload_n 0, 1) := by decide +kernel
theorem dX3_init_30 : decode cX3_init 30 = .ok (.sipush 128, 3) := by decide +kernel
theorem dX3_init_33 : decode cX3_init 33 = .ok (.newarray .int, 2) := by decide +kernel
theorem dX3_init_35 : decode cX3_init 35 = .ok (.putfield 19, 3) := by decide +kernel
theorem dX3_init_38 : decode cX3_init 38 = .ok (.aload_n 0, 1) := by decide +kernel
theorem dX3_init_39 : decode cX3_init 39 = .ok (.sipush 128, 3) := by decide +kernel
theorem dX3_init_42 : decode cX3_init 42 = .ok (.newarray .int, 2) := by decide +kernel
theorem dX3_init_44 : decode cX3_init 44 = .ok (.putfield 22, 3) := by decide +kernel
theorem dX3_init_47 : decode cX3_init 47 = .ok (.aload_n 0, 1) := by decide +kernel
theorem dX3_init_48 : decode cX3_init 48 = .ok (.sipush 128, 3) := by decide +kernel
theorem dX3_init_51 : decode cX3_init 51 = .ok (.newarray .int, 2) := by decide +kernel
theorem dX3_init_53 : decode cX3_init 53 = .ok (.putfield 25, 3) := by decide +kernel
theorem dX3_init_56 : decode cX3_init 56 = .ok (.aload_n 0, 1) := by decide +kernel
theorem dX3_init_57 : decode cX3_init 57 = .ok (.sipush 128, 3) := by decide +kernel
theorem dX3_init_60 : decode cX3_init 60 = .ok (.newarray .int, 2) := by decide +kernel
theorem dX3_init_62 : decode cX3_init 62 = .ok (.putfield 28, 3) := by decide +kernel
theorem dX3_init_65 : decode cX3_init 65 = .ok (.aload_n 0, 1) := by decide +kernel
theorem dX3_init_66 : decode cX3_init 66 = .ok (.sipush 128, 3) := by decide +kernel
theorem dX3_init_69 : decode cX3_init 69 = .ok (.newarray .int, 2) := by decide +kernel
theorem dX3_init_71 : decode cX3_init 71 = .ok (.putfield 31, 3) := by decide +kernel
theorem dX3_init_74 : decode cX3_init 74 = .ok (.aload_n 0, 1) := by decide +kernel
theorem dX3_init_75 : decode cX3_init 75 = .ok (.bipush 64, 2) := by decide +kernel
theorem dX3_init_77 : decode cX3_init 77 = .ok (.newarray .int, 2) := by decide +kernel
theorem dX3_init_79 : decode cX3_init 79 = .ok (.putfield 34, 3) := by decide +kernel
theorem dX3_init_82 : decode cX3_init 82 = .ok (.aload_n 0, 1) := by decide +kernel
theorem dX3_init_83 : decode cX3_init 83 = .ok (.iconst 1, 1) := by decide +kernel
theorem dX3_init_84 : decode cX3_init 84 = .ok (.iconst 0, 1) := by decide +kernel
theorem dX3_init_85 : decode cX3_init 85 = .ok (.invokevirtual 37, 3) := by decide +kernel
theorem dX3_init_88 : decode cX3_init 88 = .ok (.return_, 1) := by decide +kernel
theorem dX3_thrown_0 : decode cX3_thrown 0 = .ok (.aload_n 0, 1) := by decide +kernel
theorem dX3_thrown_1 : decode cX3_thrown 1 = .ok (.getfield 41, 3) := by decide +kernel
theorem dX3_thrown_4 : decode cX3_thrown 4 = .ok (.ireturn, 1) := by decide +kernel
theorem dX3_in_0 : decode cX3_in 0 = .ok (.iload_n 0, 1) := by decide +kernel
theorem dX3_in_1 : decode cX3_in 1 = .ok (.iload_n 1, 1) := by decide +kernel
theorem dX3_in_2 : decode cX3_in 2 = .ok (.if_icmp .lt 12, 3) := by decide +kernel
theorem dX3_in_5 : decode cX3_in 5 = .ok (.iload_n 0, 1) := by decide +kernel
theorem dX3_in_6 : decode cX3_in 6 = .ok (.iload_n 2, 1) := by decide +kernel
theorem dX3_in_7 : decode cX3_in 7 = .ok (.if_icmp .gt 7, 3) := by decide +kernel
theorem dX3_in_10 : decode cX3_in 10 = .ok (.iconst 1, 1) := by decide +kernel
theorem dX3_in_11 : decode cX3_in 11 = .ok (.goto 4, 3) := by decide +kernel
theorem dX3_in_14 : decode cX3_in 14 = .ok (.iconst 0, 1) := by decide +kernel
theorem dX3_in_15 : decode cX3_in 15 = .ok (.ireturn, 1) := by decide +kernel
theorem dX3_isFine_0 : decode cX3_isFine 0 = .ok (.aload_n 0, 1) := by decide +kernel
theorem dX3_isFine_1 : decode cX3_isFine 1 = .ok (.iload_n 1, 1) := by decide +kernel
theorem dX3_isFine_2 : decode cX3_isFine 2 = .ok (.putfield 41, 3) := by decide +kernel
theorem dX3_isFine_5 : decode cX3_isFine 5 = .ok (.iload_n 1, 1) := by decide +kernel
theorem dX3_isFine_6 : decode cX3_isFine 6 = .ok (.ifCond .ne 7, 3) := by decide +kernel
theorem dX3_isFine_9 : decode cX3_isFine 9 = .ok (.iconst 1, 1) := by decide +kernel
theorem dX3_isFine_10 : decode cX3_isFine 10 = .ok (.goto 4, 3) := by decide +kernel
theorem dX3_isFine_13 : decode cX3_isFine 13 = .ok (.iconst 0, 1) := by decide +kernel
theorem dX3_isFine_14 : decode cX3_isFine 14 = .ok (.ireturn, 1) := by decide +kernel
set_option maxRecDepth 20000 in
theorem ggX3_isColumn_X3_in : GoodIn wsX3_isColumn wsX3_in := goodIn_r _ [5] (by decide +kernel) (by decide +kernel)
set_option maxRecDepth 20000 in
theorem gX3_isColumn_X3_in : GoodIn wsX3_isColumn (va_wsS RX3 48 yX3_in wsX3_in) := goodIn_app (goodIn_of _ (by decide +kernel)) ggX3_isColumn_X3_in
theorem dX3_isColumn_0 : decode cX3_isColumn 0 = .ok (.iload_n 1, 1) := by decide +kernel
theorem dX3_isColumn_1 : decode cX3_isColumn 1 = .ok (.iconst 0, 1) := by decide +kernel
theorem dX3_isColumn_2 : decode cX3_isColumn 2 = .ok (.aload_n 0, 1) := by decide +kernel
theorem dX3_isColumn_3 : decode cX3_isColumn 3 = .ok (.getfield 45, 3) := by decide +kernel
theorem dX3_isColumn_6 : decode cX3_isColumn 6 = .ok (.iconst 1, 1) := by decide +kernel
theorem dX3_isColumn_7 : decode cX3_isColumn 7 = .ok (.isub, 1) := by decide +kernel
theorem dX3_isColumn_8 : decode cX3_isColumn 8 = .ok (.invokestatic 48, 3) := by decide +kernel
theorem dX3_isColumn_11 : decode cX3_isColumn 11 = .ok (.ireturn, 1) := by decide +kernel
theorem dX3_lays_0 : decode cX3_lays 0 = .ok (.aload_n 0, 1) := by decide +kernel
theorem dX3_lays_1 : decode cX3_lays 1 = .ok (.iload_n 1, 1) := by decide +kernel
theorem dX3_lays_2 : decode cX3_lays 2 = .ok (.putfield 45, 3) := by decide +kernel
theorem dX3_lays_5 : decode cX3_lays 5 = .ok (.iconst 0, 1) := by decide +kernel
theorem dX3_lays_6 : decode cX3_lays 6 = .ok (.istore_n 3, 1) := by decide +kernel
theorem dX3_lays_7 : decode cX3_lays 7 = .ok (.iload_n 3, 1) := by decide +kernel
theorem dX3_lays_8 : decode cX3_lays 8 = .ok (.bipush 64, 2) := by decide +kernel
theorem dX3_lays_10 : decode cX3_lays 10 = .ok (.if_icmp .ge 32, 3) := by decide +kernel
theorem dX3_lays_13 : decode cX3_lays 13 = .ok (.aload_n 0, 1) := by decide +kernel
theorem dX3_lays_14 : decode cX3_lays 14 = .ok (.getfield 7, 3) := by decide +kernel
theorem dX3_lays_17 : decode cX3_lays 17 = .ok (.iload_n 3, 1) := by decide +kernel
theorem dX3_lays_18 : decode cX3_lays 18 = .ok (.iload_n 3, 1) := by decide +kernel
theorem dX3_lays_19 : decode cX3_lays 19 = .ok (.iload_n 1, 1) := by decide +kernel
theorem dX3_lays_20 : decode cX3_lays 20 = .ok (.if_icmp .ge 7, 3) := by decide +kernel
theorem dX3_lays_23 : decode cX3_lays 23 = .ok (.iload_n 2, 1) := by decide +kernel
theorem dX3_lays_24 : decode cX3_lays 24 = .ok (.goto 4, 3) := by decide +kernel
theorem dX3_lays_27 : decode cX3_lays 27 = .ok (.iconst 0, 1) := by decide +kernel
theorem dX3_lays_28 : decode cX3_lays 28 = .ok (.iastore, 1) := by decide +kernel
theorem dX3_lays_29 : decode cX3_lays 29 = .ok (.aload_n 0, 1) := by decide +kernel
theorem dX3_lays_30 : decode cX3_lays 30 = .ok (.getfield 13, 3) := by decide +kernel
theorem dX3_lays_33 : decode cX3_lays 33 = .ok (.iload_n 3, 1) := by decide +kernel
theorem dX3_lays_34 : decode cX3_lays 34 = .ok (.iconst (-1), 1) := by decide +kernel
theorem dX3_lays_35 : decode cX3_lays 35 = .ok (.iastore, 1) := by decide +kernel
theorem dX3_lays_36 : decode cX3_lays 36 = .ok (.iinc 3 1, 3) := by decide +kernel
theorem dX3_lays_39 : decode cX3_lays 39 = .ok (.goto (-32), 3) := by decide +kernel
theorem dX3_lays_42 : decode cX3_lays 42 = .ok (.iconst 1, 1) := by decide +kernel
theorem dX3_lays_43 : decode cX3_lays 43 = .ok (.istore_n 3, 1) := by decide +kernel
theorem dX3_lays_44 : decode cX3_lays 44 = .ok (.iload_n 3, 1) := by decide +kernel
theorem dX3_lays_45 : decode cX3_lays 45 = .ok (.sipush 128, 3) := by decide +kernel
theorem dX3_lays_48 : decode cX3_lays 48 = .ok (.if_icmp .ge 211, 3) := by decide +kernel
theorem dX3_lays_51 : decode cX3_lays 51 = .ok (.iload_n 3, 1) := by decide +kernel
theorem dX3_lays_52 : decode cX3_lays 52 = .ok (.iconst 1, 1) := by decide +kernel
theorem dX3_lays_53 : decode cX3_lays 53 = .ok (.if_icmp .eq 33, 3) := by decide +kernel
theorem dX3_lays_56 : decode cX3_lays 56 = .ok (.aload_n 0, 1) := by decide +kernel
theorem dX3_lays_57 : decode cX3_lays 57 = .ok (.getfield 16, 3) := by decide +kernel
theorem dX3_lays_60 : decode cX3_lays 60 = .ok (.iload_n 3, 1) := by decide +kernel
theorem dX3_lays_61 : decode cX3_lays 61 = .ok (.iconst 2, 1) := by decide +kernel
theorem dX3_lays_62 : decode cX3_lays 62 = .ok (.idiv, 1) := by decide +kernel
theorem dX3_lays_63 : decode cX3_lays 63 = .ok (.iaload, 1) := by decide +kernel
theorem dX3_lays_64 : decode cX3_lays 64 = .ok (.ifCond .lt 26, 3) := by decide +kernel
theorem dX3_lays_67 : decode cX3_lays 67 = .ok (.aload_n 0, 1) := by decide +kernel
theorem dX3_lays_68 : decode cX3_lays 68 = .ok (.getfield 16, 3) := by decide +kernel
theorem dX3_lays_71 : decode cX3_lays 71 = .ok (.iload_n 3, 1) := by decide +kernel
theorem dX3_lays_72 : decode cX3_lays 72 = .ok (.iconst 2, 1) := by decide +kernel
theorem dX3_lays_73 : decode cX3_lays 73 = .ok (.idiv, 1) := by decide +kernel
theorem dX3_lays_74 : decode cX3_lays 74 = .ok (.iaload, 1) := by decide +kernel
theorem dX3_lays_75 : decode cX3_lays 75 = .ok (.aload_n 0, 1) := by decide +kernel
theorem dX3_lays_76 : decode cX3_lays 76 = .ok (.getfield 19, 3) := by decide +kernel
theorem dX3_lays_79 : decode cX3_lays 79 = .ok (.iload_n 3, 1) := by decide +kernel
theorem dX3_lays_80 : decode cX3_lays 80 = .ok (.iconst 2, 1) := by decide +kernel
theorem dX3_lays_81 : decode cX3_lays 81 = .ok (.idiv, 1) := by decide +kernel
theorem dX3_lays_82 : decode cX3_lays 82 = .ok (.iaload, 1) := by decide +kernel
theorem dX3_lays_83 : decode cX3_lays 83 = .ok (.if_icmp .ge 7, 3) := by decide +kernel
theorem dX3_lays_86 : decode cX3_lays 86 = .ok (.iconst 1, 1) := by decide +kernel
theorem dX3_lays_87 : decode cX3_lays 87 = .ok (.goto 4, 3) := by decide +kernel
theorem dX3_lays_90 : decode cX3_lays 90 = .ok (.iconst 0, 1) := by decide +kernel
theorem dX3_lays_91 : decode cX3_lays 91 = .ok (.istore 4, 2) := by decide +kernel
theorem dX3_lays_93 : decode cX3_lays 93 = .ok (.aload_n 0, 1) := by decide +kernel
theorem dX3_lays_94 : decode cX3_lays 94 = .ok (.getfield 16, 3) := by decide +kernel
theorem dX3_lays_97 : decode cX3_lays 97 = .ok (.iload_n 3, 1) := by decide +kernel
theorem dX3_lays_98 : decode cX3_lays 98 = .ok (.iconst 2, 1) := by decide +kernel
theorem dX3_lays_99 : decode cX3_lays 99 = .ok (.idiv, 1) := by decide +kernel
theorem dX3_lays_100 : decode cX3_lays 100 = .ok (.iaload, 1) := by decide +kernel
theorem dX3_lays_101 : decode cX3_lays 101 = .ok (.aload_n 0, 1) := by decide +kernel
theorem dX3_lays_102 : decode cX3_lays 102 = .ok (.getfield 19, 3) := by decide +kernel
theorem dX3_lays_105 : decode cX3_lays 105 = .ok (.iload_n 3, 1) := by decide +kernel
theorem dX3_lays_106 : decode cX3_lays 106 = .ok (.iconst 2, 1) := by decide +kernel
theorem dX3_lays_107 : decode cX3_lays 107 = .ok (.idiv, 1) := by decide +kernel
theorem dX3_lays_108 : decode cX3_lays 108 = .ok (.iaload, 1) := by decide +kernel
theorem dX3_lays_109 : decode cX3_lays 109 = .ok (.iadd, 1) := by decide +kernel
theorem dX3_lays_110 : decode cX3_lays 110 = .ok (.iconst 2, 1) := by decide +kernel
theorem dX3_lays_111 : decode cX3_lays 111 = .ok (.idiv, 1) := by decide +kernel
theorem dX3_lays_112 : decode cX3_lays 112 = .ok (.istore 5, 2) := by decide +kernel
theorem dX3_lays_114 : decode cX3_lays 114 = .ok (.aload_n 0, 1) := by decide +kernel
theorem dX3_lays_115 : decode cX3_lays 115 = .ok (.getfield 16, 3) := by decide +kernel
theorem dX3_lays_118 : decode cX3_lays 118 = .ok (.iload_n 3, 1) := by decide +kernel
theorem dX3_lays_119 : decode cX3_lays 119 = .ok (.iload 4, 2) := by decide +kernel
theorem dX3_lays_121 : decode cX3_lays 121 = .ok (.ifCond .ne 7, 3) := by decide +kernel
theorem dX3_lays_124 : decode cX3_lays 124 = .ok (.iconst (-1), 1) := by decide +kernel
theorem dX3_lays_125 : decode cX3_lays 125 = .ok (.goto 33, 3) := by decide +kernel
theorem dX3_lays_128 : decode cX3_lays 128 = .ok (.iload_n 3, 1) := by decide +kernel
theorem dX3_lays_129 : decode cX3_lays 129 = .ok (.iconst 1, 1) := by decide +kernel
theorem dX3_lays_130 : decode cX3_lays 130 = .ok (.if_icmp .ne 7, 3) := by decide +kernel
theorem dX3_lays_133 : decode cX3_lays 133 = .ok (.iconst 0, 1) := by decide +kernel
theorem dX3_lays_134 : decode cX3_lays 134 = .ok (.goto 24, 3) := by decide +kernel
theorem dX3_lays_137 : decode cX3_lays 137 = .ok (.iload_n 3, 1) := by decide +kernel
theorem dX3_lays_138 : decode cX3_lays 138 = .ok (.iconst 2, 1) := by decide +kernel
theorem dX3_lays_139 : decode cX3_lays 139 = .ok (.irem, 1) := by decide +kernel
theorem dX3_lays_140 : decode cX3_lays 140 = .ok (.ifCond .ne 14, 3) := by decide +kernel
theorem dX3_lays_143 : decode cX3_lays 143 = .ok (.aload_n 0, 1) := by decide +kernel
theorem dX3_lays_144 : decode cX3_lays 144 = .ok (.getfield 16, 3) := by decide +kernel
theorem dX3_lays_147 : decode cX3_lays 147 = .ok (.iload_n 3, 1) := by decide +kernel
theorem dX3_lays_148 : decode cX3_lays 148 = .ok (.iconst 2, 1) := by decide +kernel
theorem dX3_lays_149 : decode cX3_lays 149 = .ok (.idiv, 1) := by decide +kernel
theorem dX3_lays_150 : decode cX3_lays 150 = .ok (.iaload, 1) := by decide +kernel
theorem dX3_lays_151 : decode cX3_lays 151 = .ok (.goto 7, 3) := by decide +kernel
theorem dX3_lays_154 : decode cX3_lays 154 = .ok (.iload 5, 2) := by decide +kernel
theorem dX3_lays_156 : decode cX3_lays 156 = .ok (.iconst 1, 1) := by decide +kernel
theorem dX3_lays_157 : decode cX3_lays 157 = .ok (.iadd, 1) := by decide +kernel
theorem dX3_lays_158 : decode cX3_lays 158 = .ok (.iastore, 1) := by decide +kernel
theorem dX3_lays_159 : decode cX3_lays 159 = .ok (.aload_n 0, 1) := by decide +kernel
theorem dX3_lays_160 : decode cX3_lays 160 = .ok (.getfield 19, 3) := by decide +kernel
theorem dX3_lays_163 : decode cX3_lays 163 = .ok (.iload_n 3, 1) := by decide +kernel
theorem dX3_lays_164 : decode cX3_lays 164 = .ok (.iload 4, 2) := by decide +kernel
theorem dX3_lays_166 : decode cX3_lays 166 = .ok (.ifCond .ne 7, 3) := by decide +kernel
theorem dX3_lays_169 : decode cX3_lays 169 = .ok (.iconst (-1), 1) := by decide +kernel
theorem dX3_lays_170 : decode cX3_lays 170 = .ok (.goto 33, 3) := by decide +kernel
theorem dX3_lays_173 : decode cX3_lays 173 = .ok (.iload_n 3, 1) := by decide +kernel
theorem dX3_lays_174 : decode cX3_lays 174 = .ok (.iconst 1, 1) := by decide +kernel
theorem dX3_lays_175 : decode cX3_lays 175 = .ok (.if_icmp .ne 9, 3) := by decide +kernel
theorem dX3_lays_178 : decode cX3_lays 178 = .ok (.iload_n 1, 1) := by decide +kernel
theorem dX3_lays_179 : decode cX3_lays 179 = .ok (.iconst 1, 1) := by decide +kernel
theorem dX3_lays_180 : decode cX3_lays 180 = .ok (.isub, 1) := by decide +kernel
theorem dX3_lays_181 : decode cX3_lays 181 = .ok (.goto 22, 3) := by decide +kernel
theorem dX3_lays_184 : decode cX3_lays 184 = .ok (.iload_n 3, 1) := by decide +kernel
theorem dX3_lays_185 : decode cX3_lays 185 = .ok (.iconst 2, 1) := by decide +kernel
theorem dX3_lays_186 : decode cX3_lays 186 = .ok (.irem, 1) := by decide +kernel
theorem dX3_lays_187 : decode cX3_lays 187 = .ok (.ifCond .ne 8, 3) := by decide +kernel
theorem dX3_lays_190 : decode cX3_lays 190 = .ok (.iload 5, 2) := by decide +kernel
theorem dX3_lays_192 : decode cX3_lays 192 = .ok (.goto 11, 3) := by decide +kernel
theorem dX3_lays_195 : decode cX3_lays 195 = .ok (.aload_n 0, 1) := by decide +kernel
theorem dX3_lays_196 : decode cX3_lays 196 = .ok (.getfield 19, 3) := by decide +kernel
theorem dX3_lays_199 : decode cX3_lays 199 = .ok (.iload_n 3, 1) := by decide +kernel
theorem dX3_lays_200 : decode cX3_lays 200 = .ok (.iconst 2, 1) := by decide +kernel
theorem dX3_lays_201 : decode cX3_lays 201 = .ok (.idiv, 1) := by decide +kernel
theorem dX3_lays_202 : decode cX3_lays 202 = .ok (.iaload, 1) := by decide +kernel
theorem dX3_lays_203 : decode cX3_lays 203 = .ok (.iastore, 1) := by decide +kernel
theorem dX3_lays_204 : decode cX3_lays 204 = .ok (.aload_n 0, 1) := by decide +kernel
theorem dX3_lays_205 : decode cX3_lays 205 = .ok (.getfield 22, 3) := by decide +kernel
theorem dX3_lays_208 : decode cX3_lays 208 = .ok (.iload_n 3, 1) := by decide +kernel
theorem dX3_lays_209 : decode cX3_lays 209 = .ok (.iload_n 2, 1) := by decide +kernel
theorem dX3_lays_210 : decode cX3_lays 210 = .ok (.iastore, 1) := by decide +kernel
theorem dX3_lays_211 : decode cX3_lays 211 = .ok (.aload_n 0, 1) := by decide +kernel
theorem dX3_lays_212 : decode cX3_lays 212 = .ok (.getfield 25, 3) := by decide +kernel
theorem dX3_lays_215 : decode cX3_lays 215 = .ok (.iload_n 3, 1) := by decide +kernel
theorem dX3_lays_216 : decode cX3_lays 216 = .ok (.iconst (-1), 1) := by decide +kernel
theorem dX3_lays_217 : decode cX3_lays 217 = .ok (.iastore, 1) := by decide +kernel
theorem dX3_lays_218 : decode cX3_lays 218 = .ok (.aload_n 0, 1) := by decide +kernel
theorem dX3_lays_219 : decode cX3_lays 219 = .ok (.getfield 28, 3) := by decide +kernel
theorem dX3_lays_222 : decode cX3_lays 222 = .ok (.iload_n 3, 1) := by decide +kernel
theorem dX3_lays_223 : decode cX3_lays 223 = .ok (.aload_n 0, 1) := by decide +kernel
theorem dX3_lays_224 : decode cX3_lays 224 = .ok (.getfield 19, 3) := by decide +kernel
theorem dX3_lays_227 : decode cX3_lays 227 = .ok (.iload_n 3, 1) := by decide +kernel
theorem dX3_lays_228 : decode cX3_lays 228 = .ok (.iaload, 1) := by decide +kernel
theorem dX3_lays_229 : decode cX3_lays 229 = .ok (.aload_n 0, 1) := by decide +kernel
theorem dX3_lays_230 : decode cX3_lays 230 = .ok (.getfield 16, 3) := by decide +kernel
theorem dX3_lays_233 : decode cX3_lays 233 = .ok (.iload_n 3, 1) := by decide +kernel
theorem dX3_lays_234 : decode cX3_lays 234 = .ok (.iaload, 1) := by decide +kernel
theorem dX3_lays_235 : decode cX3_lays 235 = .ok (.isub, 1) := by decide +kernel
theorem dX3_lays_236 : decode cX3_lays 236 = .ok (.iconst 1, 1) := by decide +kernel
theorem dX3_lays_237 : decode cX3_lays 237 = .ok (.iadd, 1) := by decide +kernel
theorem dX3_lays_238 : decode cX3_lays 238 = .ok (.iastore, 1) := by decide +kernel
theorem dX3_lays_239 : decode cX3_lays 239 = .ok (.aload_n 0, 1) := by decide +kernel
theorem dX3_lays_240 : decode cX3_lays 240 = .ok (.getfield 31, 3) := by decide +kernel
theorem dX3_lays_243 : decode cX3_lays 243 = .ok (.iload_n 3, 1) := by decide +kernel
theorem dX3_lays_244 : decode cX3_lays 244 = .ok (.aload_n 0, 1) := by decide +kernel
theorem dX3_lays_245 : decode cX3_lays 245 = .ok (.getfield 28, 3) := by decide +kernel
theorem dX3_lays_248 : decode cX3_lays 248 = .ok (.iload_n 3, 1) := by decide +kernel
theorem dX3_lays_249 : decode cX3_lays 249 = .ok (.iaload, 1) := by decide +kernel
theorem dX3_lays_250 : decode cX3_lays 250 = .ok (.iload_n 2, 1) := by decide +kernel
theorem dX3_lays_251 : decode cX3_lays 251 = .ok (.imul, 1) := by decide +kernel
theorem dX3_lays_252 : decode cX3_lays 252 = .ok (.iastore, 1) := by decide +kernel
theorem dX3_lays_253 : decode cX3_lays 253 = .ok (.iinc 3 1, 3) := by decide +kernel
theorem dX3_lays_256 : decode cX3_lays 256 = .ok (.goto (-212), 3) := by decide +kernel
theorem dX3_lays_259 : decode cX3_lays 259 = .ok (.aload_n 0, 1) := by decide +kernel
theorem dX3_lays_260 : decode cX3_lays 260 = .ok (.iconst 0, 1) := by decide +kernel
theorem dX3_lays_261 : decode cX3_lays 261 = .ok (.putfield 52, 3) := by decide +kernel
theorem dX3_lays_264 : decode cX3_lays 264 = .ok (.aload_n 0, 1) := by decide +kernel
theorem dX3_lays_265 : decode cX3_lays 265 = .ok (.iconst 0, 1) := by decide +kernel
theorem dX3_lays_266 : decode cX3_lays 266 = .ok (.putfield 55, 3) := by decide +kernel
theorem dX3_lays_269 : decode cX3_lays 269 = .ok (.aload_n 0, 1) := by decide +kernel
theorem dX3_lays_270 : decode cX3_lays 270 = .ok (.iconst 0, 1) := by decide +kernel
theorem dX3_lays_271 : decode cX3_lays 271 = .ok (.putfield 58, 3) := by decide +kernel
theorem dX3_lays_274 : decode cX3_lays 274 = .ok (.aload_n 0, 1) := by decide +kernel
theorem dX3_lays_275 : decode cX3_lays 275 = .ok (.iload_n 1, 1) := by decide +kernel
theorem dX3_lays_276 : decode cX3_lays 276 = .ok (.iload_n 2, 1) := by decide +kernel
theorem dX3_lays_277 : decode cX3_lays 277 = .ok (.imul, 1) := by decide +kernel
theorem dX3_lays_278 : decode cX3_lays 278 = .ok (.putfield 61, 3) := by decide +kernel
theorem dX3_lays_281 : decode cX3_lays 281 = .ok (.aload_n 0, 1) := by decide +kernel
theorem dX3_lays_282 : decode cX3_lays 282 = .ok (.iconst 0, 1) := by decide +kernel
theorem dX3_lays_283 : decode cX3_lays 283 = .ok (.putfield 64, 3) := by decide +kernel
theorem dX3_lays_286 : decode cX3_lays 286 = .ok (.aload_n 0, 1) := by decide +kernel
theorem dX3_lays_287 : decode cX3_lays 287 = .ok (.iconst 0, 1) := by decide +kernel
theorem dX3_lays_288 : decode cX3_lays 288 = .ok (.putfield 67, 3) := by decide +kernel
theorem dX3_lays_291 : decode cX3_lays 291 = .ok (.return_, 1) := by decide +kernel
set_option maxRecDepth 20000 in
theorem ggX3_layOut_X3_in : GoodIn wsX3_layOut wsX3_in := goodIn_r _ [5] (by decide +kernel) (by decide +kernel)
set_option maxRecDepth 20000 in
theorem gX3_layOut_X3_in : GoodIn wsX3_layOut (va_wsS RX3 48 yX3_in wsX3_in) := goodIn_app (goodIn_of _ (by decide +kernel)) ggX3_layOut_X3_in
set_option maxRecDepth 20000 in
theorem ggX3_layOut_X3_isFine : GoodIn wsX3_layOut wsX3_isFine := goodIn_r _ [9, 10, 29, 30, 31, 32, 33, 34, 35, 36, 37, 38, 39, 40, 41, 42, 43, 44, 45, 46] (by decide +kernel) (by decide +kernel)
set_option maxRecDepth 20000 in
theorem gX3_layOut_X3_isFine : GoodIn wsX3_layOut (wsV RX3 70 RX3 yX3_isFine wsX3_isFine) := goodIn_app (goodIn_of _ (by decide +kernel)) ggX3_layOut_X3_isFine
set_option maxRecDepth 20000 in
theorem ggX3_layOut_X3_lays : GoodIn wsX3_layOut wsX3_lays := goodIn_r _ [14, 15, 16, 17, 18, 19, 20, 21, 22, 23, 24, 25, 26, 1, 27, 28, 29, 30, 31, 32, 33, 34, 35, 36, 37, 38, 39, 40, 41, 42, 43, 44, 45, 46] (by decide +kernel) (by decide +kernel)
set_option maxRecDepth 20000 in
theorem gX3_layOut_X3_lays : GoodIn wsX3_layOut (wsV RX3 37 RX3 yX3_lays wsX3_lays) := goodIn_app (goodIn_of _ (by decide +kernel)) ggX3_layOut_X3_lays
theorem dX3_layOut_0 : decode cX3_layOut 0 = .ok (.aload_n 0, 1) := by decide +kernel
theorem dX3_layOut_1 : decode cX3_layOut 1 = .ok (.iload_n 1, 1) := by decide +kernel
theorem dX3_layOut_2 : decode cX3_layOut 2 = .ok (.iconst 1, 1) := by decide +kernel
theorem dX3_layOut_3 : decode cX3_layOut 3 = .ok (.bipush 64, 2) := by decide +kernel
theorem dX3_layOut_5 : decode cX3_layOut 5 = .ok (.invokestatic 48, 3) := by decide +kernel
theorem dX3_layOut_8 : decode cX3_layOut 8 = .ok (.ifCond .eq 18, 3) := by decide +kernel
theorem dX3_layOut_11 : decode cX3_layOut 11 = .ok (.iload_n 2, 1) := by decide +kernel
theorem dX3_layOut_12 : decode cX3_layOut 12 = .ok (.iconst 0, 1) := by decide +kernel
theorem dX3_layOut_13 : decode cX3_layOut 13 = .ok (.sipush 1000, 3) := by decide +kernel
theorem dX3_layOut_16 : decode cX3_layOut 16 = .ok (.invokestatic 48, 3) := by decide +kernel
theorem dX3_layOut_19 : decode cX3_layOut 19 = .ok (.ifCond .eq 7, 3) := by decide +kernel
theorem dX3_layOut_22 : decode cX3_layOut 22 = .ok (.iconst 0, 1) := by decide +kernel
theorem dX3_layOut_23 : decode cX3_layOut 23 = .ok (.goto 4, 3) := by decide +kernel
theorem dX3_layOut_26 : decode cX3_layOut 26 = .ok (.iconst 1, 1) := by decide +kernel
theorem dX3_layOut_27 : decode cX3_layOut 27 = .ok (.invokevirtual 70, 3) := by decide +kernel
theorem dX3_layOut_30 : decode cX3_layOut 30 = .ok (.ifCond .ne 5, 3) := by decide +kernel
theorem dX3_layOut_33 : decode cX3_layOut 33 = .ok (.iconst 0, 1) := by decide +kernel
theorem dX3_layOut_34 : decode cX3_layOut 34 = .ok (.ireturn, 1) := by decide +kernel
theorem dX3_layOut_35 : decode cX3_layOut 35 = .ok (.aload_n 0, 1) := by decide +kernel
theorem dX3_layOut_36 : decode cX3_layOut 36 = .ok (.iload_n 1, 1) := by decide +kernel
theorem dX3_layOut_37 : decode cX3_layOut 37 = .ok (.iload_n 2, 1) := by decide +kernel
theorem dX3_layOut_38 : decode cX3_layOut 38 = .ok (.invokevirtual 37, 3) := by decide +kernel
theorem dX3_layOut_41 : decode cX3_layOut 41 = .ok (.aload_n 0, 1) := by decide +kernel
theorem dX3_layOut_42 : decode cX3_layOut 42 = .ok (.getfield 61, 3) := by decide +kernel
theorem dX3_layOut_45 : decode cX3_layOut 45 = .ok (.ireturn, 1) := by decide +kernel
theorem dX3_press_0 : decode cX3_press 0 = .ok (.aload_n 0, 1) := by decide +kernel
theorem dX3_press_1 : decode cX3_press 1 = .ok (.getfield 31, 3) := by decide +kernel
theorem dX3_press_4 : decode cX3_press 4 = .ok (.iload_n 1, 1) := by decide +kernel
theorem dX3_press_5 : decode cX3_press 5 = .ok (.dup2, 1) := by decide +kernel
theorem dX3_press_6 : decode cX3_press 6 = .ok (.iaload, 1) := by decide +kernel
theorem dX3_press_7 : decode cX3_press 7 = .ok (.aload_n 0, 1) := by decide +kernel
theorem dX3_press_8 : decode cX3_press 8 = .ok (.getfield 22, 3) := by decide +kernel
theorem dX3_press_11 : decode cX3_press 11 = .ok (.iload_n 1, 1) := by decide +kernel
theorem dX3_press_12 : decode cX3_press 12 = .ok (.iaload, 1) := by decide +kernel
theorem dX3_press_13 : decode cX3_press 13 = .ok (.iload_n 2, 1) := by decide +kernel
theorem dX3_press_14 : decode cX3_press 14 = .ok (.isub, 1) := by decide +kernel
theorem dX3_press_15 : decode cX3_press 15 = .ok (.aload_n 0, 1) := by decide +kernel
theorem dX3_press_16 : decode cX3_press 16 = .ok (.getfield 28, 3) := by decide +kernel
theorem dX3_press_19 : decode cX3_press 19 = .ok (.iload_n 1, 1) := by decide +kernel
theorem dX3_press_20 : decode cX3_press 20 = .ok (.iaload, 1) := by decide +kernel
theorem dX3_press_21 : decode cX3_press 21 = .ok (.imul, 1) := by decide +kernel
theorem dX3_press_22 : decode cX3_press 22 = .ok (.isub, 1) := by decide +kernel
theorem dX3_press_23 : decode cX3_press 23 = .ok (.iastore, 1) := by decide +kernel
theorem dX3_press_24 : decode cX3_press 24 = .ok (.aload_n 0, 1) := by decide +kernel
theorem dX3_press_25 : decode cX3_press 25 = .ok (.getfield 22, 3) := by decide +kernel
theorem dX3_press_28 : decode cX3_press 28 = .ok (.iload_n 1, 1) := by decide +kernel
theorem dX3_press_29 : decode cX3_press 29 = .ok (.iload_n 2, 1) := by decide +kernel
theorem dX3_press_30 : decode cX3_press 30 = .ok (.iastore, 1) := by decide +kernel
theorem dX3_press_31 : decode cX3_press 31 = .ok (.return_, 1) := by decide +kernel
set_option maxRecDepth 20000 in
theorem ggX3_catchUp_X3_press : GoodIn wsX3_catchUp wsX3_press := goodIn_r _ [6, 7, 1, 8, 9, 10, 11, 12, 13, 14, 15, 16, 17, 18, 19, 20, 21, 22, 23, 24, 25, 26] (by decide +kernel) (by decide +kernel)
set_option maxRecDepth 20000 in
theorem gX3_catchUp_X3_press : GoodIn wsX3_catchUp (wsV RX3 74 RX3 yX3_press wsX3_press) := goodIn_app (goodIn_of _ (by decide +kernel)) ggX3_catchUp_X3_press
theorem dX3_catchUp_0 : decode cX3_catchUp 0 = .ok (.iconst 2, 1) := by decide +kernel
theorem dX3_catchUp_1 : decode cX3_catchUp 1 = .ok (.iload_n 1, 1) := by decide +kernel
theorem dX3_catchUp_2 : decode cX3_catchUp 2 = .ok (.imul, 1) := by decide +kernel
theorem dX3_catchUp_3 : decode cX3_catchUp 3 = .ok (.istore_n 2, 1) := by decide +kernel
theorem dX3_catchUp_4 : decode cX3_catchUp 4 = .ok (.iload_n 2, 1) := by decide +kernel
theorem dX3_catchUp_5 : decode cX3_catchUp 5 = .ok (.iconst 2, 1) := by decide +kernel
theorem dX3_catchUp_6 : decode cX3_catchUp 6 = .ok (.iload_n 1, 1) := by decide +kernel
theorem dX3_catchUp_7 : decode cX3_catchUp 7 = .ok (.imul, 1) := by decide +kernel
theorem dX3_catchUp_8 : decode cX3_catchUp 8 = .ok (.iconst 1, 1) := by decide +kernel
theorem dX3_catchUp_9 : decode cX3_catchUp 9 = .ok (.iadd, 1) := by decide +kernel
theorem dX3_catchUp_10 : decode cX3_catchUp 10 = .ok (.if_icmp .gt 35, 3) := by decide +kernel
theorem dX3_catchUp_13 : decode cX3_catchUp 13 = .ok (.aload_n 0, 1) := by decide +kernel
theorem dX3_catchUp_14 : decode cX3_catchUp 14 = .ok (.getfield 22, 3) := by decide +kernel
theorem dX3_catchUp_17 : decode cX3_catchUp 17 = .ok (.iload_n 2, 1) := by decide +kernel
theorem dX3_catchUp_18 : decode cX3_catchUp 18 = .ok (.iaload, 1) := by decide +kernel
theorem dX3_catchUp_19 : decode cX3_catchUp 19 = .ok (.aload_n 0, 1) := by decide +kernel
theorem dX3_catchUp_20 : decode cX3_catchUp 20 = .ok (.getfield 22, 3) := by decide +kernel
theorem dX3_catchUp_23 : decode cX3_catchUp 23 = .ok (.iload_n 1, 1) := by decide +kernel
theorem dX3_catchUp_24 : decode cX3_catchUp 24 = .ok (.iaload, 1) := by decide +kernel
theorem dX3_catchUp_25 : decode cX3_catchUp 25 = .ok (.if_icmp .le 14, 3) := by decide +kernel
theorem dX3_catchUp_28 : decode cX3_catchUp 28 = .ok (.aload_n 0, 1) := by decide +kernel
theorem dX3_catchUp_29 : decode cX3_catchUp 29 = .ok (.iload_n 2, 1) := by decide +kernel
theorem dX3_catchUp_30 : decode cX3_catchUp 30 = .ok (.aload_n 0, 1) := by decide +kernel
theorem dX3_catchUp_31 : decode cX3_catchUp 31 = .ok (.getfield 22, 3) := by decide +kernel
theorem dX3_catchUp_34 : decode cX3_catchUp 34 = .ok (.iload_n 1, 1) := by decide +kernel
theorem dX3_catchUp_35 : decode cX3_catchUp 35 = .ok (.iaload, 1) := by decide +kernel
theorem dX3_catchUp_36 : decode cX3_catchUp 36 = .ok (.invokevirtual 74, 3) := by decide +kernel
theorem dX3_catchUp_39 : decode cX3_catchUp 39 = .ok (.iinc 2 1, 3) := by decide +kernel
theorem dX3_catchUp_42 : decode cX3_catchUp 42 = .ok (.goto (-38), 3) := by decide +kernel
theorem dX3_catchUp_45 : decode cX3_catchUp 45 = .ok (.return_, 1) := by decide +kernel
theorem dX3_tell_0 : decode cX3_tell 0 = .ok (.iconst 2, 1) := by decide +kernel
theorem dX3_tell_1 : decode cX3_tell 1 = .ok (.iload_n 1, 1) := by decide +kernel
theorem dX3_tell_2 : decode cX3_tell 2 = .ok (.imul, 1) := by decide +kernel
theorem dX3_tell_3 : decode cX3_tell 3 = .ok (.istore_n 2, 1) := by decide +kernel
theorem dX3_tell_4 : decode cX3_tell 4 = .ok (.iload_n 2, 1) := by decide +kernel
theorem dX3_tell_5 : decode cX3_tell 5 = .ok (.iconst 1, 1) := by decide +kernel
theorem dX3_tell_6 : decode cX3_tell 6 = .ok (.iadd, 1) := by decide +kernel
theorem dX3_tell_7 : decode cX3_tell 7 = .ok (.istore_n 3, 1) := by decide +kernel
theorem dX3_tell_8 : decode cX3_tell 8 = .ok (.aload_n 0, 1) := by decide +kernel
theorem dX3_tell_9 : decode cX3_tell 9 = .ok (.getfield 22, 3) := by decide +kernel
theorem dX3_tell_12 : decode cX3_tell 12 = .ok (.iload_n 2, 1) := by decide +kernel
theorem dX3_tell_13 : decode cX3_tell 13 = .ok (.iaload, 1) := by decide +kernel
theorem dX3_tell_14 : decode cX3_tell 14 = .ok (.aload_n 0, 1) := by decide +kernel
theorem dX3_tell_15 : decode cX3_tell 15 = .ok (.getfield 22, 3) := by decide +kernel
theorem dX3_tell_18 : decode cX3_tell 18 = .ok (.iload_n 3, 1) := by decide +kernel
theorem dX3_tell_19 : decode cX3_tell 19 = .ok (.iaload, 1) := by decide +kernel
theorem dX3_tell_20 : decode cX3_tell 20 = .ok (.if_icmp .le 12, 3) := by decide +kernel
theorem dX3_tell_23 : decode cX3_tell 23 = .ok (.aload_n 0, 1) := by decide +kernel
theorem dX3_tell_24 : decode cX3_tell 24 = .ok (.getfield 22, 3) := by decide +kernel
theorem dX3_tell_27 : decode cX3_tell 27 = .ok (.iload_n 2, 1) := by decide +kernel
theorem dX3_tell_28 : decode cX3_tell 28 = .ok (.iaload, 1) := by decide +kernel
theorem dX3_tell_29 : decode cX3_tell 29 = .ok (.goto 9, 3) := by decide +kernel
theorem dX3_tell_32 : decode cX3_tell 32 = .ok (.aload_n 0, 1) := by decide +kernel
theorem dX3_tell_33 : decode cX3_tell 33 = .ok (.getfield 22, 3) := by decide +kernel
theorem dX3_tell_36 : decode cX3_tell 36 = .ok (.iload_n 3, 1) := by decide +kernel
theorem dX3_tell_37 : decode cX3_tell 37 = .ok (.iaload, 1) := by decide +kernel
theorem dX3_tell_38 : decode cX3_tell 38 = .ok (.istore 4, 2) := by decide +kernel
theorem dX3_tell_40 : decode cX3_tell 40 = .ok (.aload_n 0, 1) := by decide +kernel
theorem dX3_tell_41 : decode cX3_tell 41 = .ok (.getfield 22, 3) := by decide +kernel
theorem dX3_tell_44 : decode cX3_tell 44 = .ok (.iload_n 1, 1) := by decide +kernel
theorem dX3_tell_45 : decode cX3_tell 45 = .ok (.iload 4, 2) := by decide +kernel
theorem dX3_tell_47 : decode cX3_tell 47 = .ok (.iastore, 1) := by decide +kernel
theorem dX3_tell_48 : decode cX3_tell 48 = .ok (.aload_n 0, 1) := by decide +kernel
theorem dX3_tell_49 : decode cX3_tell 49 = .ok (.getfield 28, 3) := by decide +kernel
theorem dX3_tell_52 : decode cX3_tell 52 = .ok (.iload_n 1, 1) := by decide +kernel
theorem dX3_tell_53 : decode cX3_tell 53 = .ok (.aload_n 0, 1) := by decide +kernel
theorem dX3_tell_54 : decode cX3_tell 54 = .ok (.getfield 22, 3) := by decide +kernel
theorem dX3_tell_57 : decode cX3_tell 57 = .ok (.iload_n 2, 1) := by decide +kernel
theorem dX3_tell_58 : decode cX3_tell 58 = .ok (.iaload, 1) := by decide +kernel
theorem dX3_tell_59 : decode cX3_tell 59 = .ok (.iload 4, 2) := by decide +kernel
theorem dX3_tell_61 : decode cX3_tell 61 = .ok (.if_icmp .ne 12, 3) := by decide +kernel
theorem dX3_tell_64 : decode cX3_tell 64 = .ok (.aload_n 0, 1) := by decide +kernel
theorem dX3_tell_65 : decode cX3_tell 65 = .ok (.getfield 28, 3) := by decide +kernel
theorem dX3_tell_68 : decode cX3_tell 68 = .ok (.iload_n 2, 1) := by decide +kernel
theorem dX3_tell_69 : decode cX3_tell 69 = .ok (.iaload, 1) := by decide +kernel
theorem dX3_tell_70 : decode cX3_tell 70 = .ok (.goto 4, 3) := by decide +kernel
theorem dX3_tell_73 : decode cX3_tell 73 = .ok (.iconst 0, 1) := by decide +kernel
theorem dX3_tell_74 : decode cX3_tell 74 = .ok (.aload_n 0, 1) := by decide +kernel
theorem dX3_tell_75 : decode cX3_tell 75 = .ok (.getfield 22, 3) := by decide +kernel
theorem dX3_tell_78 : decode cX3_tell 78 = .ok (.iload_n 3, 1) := by decide +kernel
theorem dX3_tell_79 : decode cX3_tell 79 = .ok (.iaload, 1) := by decide +kernel
theorem dX3_tell_80 : decode cX3_tell 80 = .ok (.iload 4, 2) := by decide +kernel
theorem dX3_tell_82 : decode cX3_tell 82 = .ok (.if_icmp .ne 12, 3) := by decide +kernel
theorem dX3_tell_85 : decode cX3_tell 85 = .ok (.aload_n 0, 1) := by decide +kernel
theorem dX3_tell_86 : decode cX3_tell 86 = .ok (.getfield 28, 3) := by decide +kernel
theorem dX3_tell_89 : decode cX3_tell 89 = .ok (.iload_n 3, 1) := by decide +kernel
theorem dX3_tell_90 : decode cX3_tell 90 = .ok (.iaload, 1) := by decide +kernel
theorem dX3_tell_91 : decode cX3_tell 91 = .ok (.goto 4, 3) := by decide +kernel
theorem dX3_tell_94 : decode cX3_tell 94 = .ok (.iconst 0, 1) := by decide +kernel
theorem dX3_tell_95 : decode cX3_tell 95 = .ok (.iadd, 1) := by decide +kernel
theorem dX3_tell_96 : decode cX3_tell 96 = .ok (.iastore, 1) := by decide +kernel
theorem dX3_tell_97 : decode cX3_tell 97 = .ok (.aload_n 0, 1) := by decide +kernel
theorem dX3_tell_98 : decode cX3_tell 98 = .ok (.getfield 25, 3) := by decide +kernel
theorem dX3_tell_101 : decode cX3_tell 101 = .ok (.iload_n 2, 1) := by decide +kernel
theorem dX3_tell_102 : decode cX3_tell 102 = .ok (.iaload, 1) := by decide +kernel
theorem dX3_tell_103 : decode cX3_tell 103 = .ok (.aload_n 0, 1) := by decide +kernel
theorem dX3_tell_104 : decode cX3_tell 104 = .ok (.getfield 25, 3) := by decide +kernel
theorem dX3_tell_107 : decode cX3_tell 107 = .ok (.iload_n 3, 1) := by decide +kernel
theorem dX3_tell_108 : decode cX3_tell 108 = .ok (.iaload, 1) := by decide +kernel
theorem dX3_tell_109 : decode cX3_tell 109 = .ok (.if_icmp .le 12, 3) := by decide +kernel
theorem dX3_tell_112 : decode cX3_tell 112 = .ok (.aload_n 0, 1) := by decide +kernel
theorem dX3_tell_113 : decode cX3_tell 113 = .ok (.getfield 25, 3) := by decide +kernel
theorem dX3_tell_116 : decode cX3_tell 116 = .ok (.iload_n 2, 1) := by decide +kernel
theorem dX3_tell_117 : decode cX3_tell 117 = .ok (.iaload, 1) := by decide +kernel
theorem dX3_tell_118 : decode cX3_tell 118 = .ok (.goto 9, 3) := by decide +kernel
theorem dX3_tell_121 : decode cX3_tell 121 = .ok (.aload_n 0, 1) := by decide +kernel
theorem dX3_tell_122 : decode cX3_tell 122 = .ok (.getfield 25, 3) := by decide +kernel
theorem dX3_tell_125 : decode cX3_tell 125 = .ok (.iload_n 3, 1) := by decide +kernel
theorem dX3_tell_126 : decode cX3_tell 126 = .ok (.iaload, 1) := by decide +kernel
theorem dX3_tell_127 : decode cX3_tell 127 = .ok (.istore 5, 2) := by decide +kernel
theorem dX3_tell_129 : decode cX3_tell 129 = .ok (.aload_n 0, 1) := by decide +kernel
theorem dX3_tell_130 : decode cX3_tell 130 = .ok (.getfield 22, 3) := by decide +kernel
theorem dX3_tell_133 : decode cX3_tell 133 = .ok (.iload_n 2, 1) := by decide +kernel
theorem dX3_tell_134 : decode cX3_tell 134 = .ok (.iaload, 1) := by decide +kernel
theorem dX3_tell_135 : decode cX3_tell 135 = .ok (.iload 4, 2) := by decide +kernel
theorem dX3_tell_137 : decode cX3_tell 137 = .ok (.if_icmp .ge 23, 3) := by decide +kernel
theorem dX3_tell_140 : decode cX3_tell 140 = .ok (.aload_n 0, 1) := by decide +kernel
theorem dX3_tell_141 : decode cX3_tell 141 = .ok (.getfield 22, 3) := by decide +kernel
theorem dX3_tell_144 : decode cX3_tell 144 = .ok (.iload_n 2, 1) := by decide +kernel
theorem dX3_tell_145 : decode cX3_tell 145 = .ok (.iaload, 1) := by decide +kernel
theorem dX3_tell_146 : decode cX3_tell 146 = .ok (.iload 5, 2) := by decide +kernel
theorem dX3_tell_148 : decode cX3_tell 148 = .ok (.if_icmp .le 12, 3) := by decide +kernel
theorem dX3_tell_151 : decode cX3_tell 151 = .ok (.aload_n 0, 1) := by decide +kernel
theorem dX3_tell_152 : decode cX3_tell 152 = .ok (.getfield 22, 3) := by decide +kernel
theorem dX3_tell_155 : decode cX3_tell 155 = .ok (.iload_n 2, 1) := by decide +kernel
theorem dX3_tell_156 : decode cX3_tell 156 = .ok (.iaload, 1) := by decide +kernel
theorem dX3_tell_157 : decode cX3_tell 157 = .ok (.goto 5, 3) := by decide +kernel
theorem dX3_tell_160 : decode cX3_tell 160 = .ok (.iload 5, 2) := by decide +kernel
theorem dX3_tell_162 : decode cX3_tell 162 = .ok (.istore 5, 2) := by decide +kernel
theorem dX3_tell_164 : decode cX3_tell 164 = .ok (.aload_n 0, 1) := by decide +kernel
theorem dX3_tell_165 : decode cX3_tell 165 = .ok (.getfield 25, 3) := by decide +kernel
theorem dX3_tell_168 : decode cX3_tell 168 = .ok (.iload_n 1, 1) := by decide +kernel
theorem dX3_tell_169 : decode cX3_tell 169 = .ok (.aload_n 0, 1) := by decide +kernel
theorem dX3_tell_170 : decode cX3_tell 170 = .ok (.getfield 22, 3) := by decide +kernel
theorem dX3_tell_173 : decode cX3_tell 173 = .ok (.iload_n 3, 1) := by decide +kernel
theorem dX3_tell_174 : decode cX3_tell 174 = .ok (.iaload, 1) := by decide +kernel
theorem dX3_tell_175 : decode cX3_tell 175 = .ok (.iload 4, 2) := by decide +kernel
theorem dX3_tell_177 : decode cX3_tell 177 = .ok (.if_icmp .ge 23, 3) := by decide +kernel
theorem dX3_tell_180 : decode cX3_tell 180 = .ok (.aload_n 0, 1) := by decide +kernel
theorem dX3_tell_181 : decode cX3_tell 181 = .ok (.getfield 22, 3) := by decide +kernel
theorem dX3_tell_184 : decode cX3_tell 184 = .ok (.iload_n 3, 1) := by decide +kernel
theorem dX3_tell_185 : decode cX3_tell 185 = .ok (.iaload, 1) := by decide +kernel
theorem dX3_tell_186 : decode cX3_tell 186 = .ok (.iload 5, 2) := by decide +kernel
theorem dX3_tell_188 : decode cX3_tell 188 = .ok (.if_icmp .le 12, 3) := by decide +kernel
theorem dX3_tell_191 : decode cX3_tell 191 = .ok (.aload_n 0, 1) := by decide +kernel
theorem dX3_tell_192 : decode cX3_tell 192 = .ok (.getfield 22, 3) := by decide +kernel
theorem dX3_tell_195 : decode cX3_tell 195 = .ok (.iload_n 3, 1) := by decide +kernel
theorem dX3_tell_196 : decode cX3_tell 196 = .ok (.iaload, 1) := by decide +kernel
theorem dX3_tell_197 : decode cX3_tell 197 = .ok (.goto 5, 3) := by decide +kernel
theorem dX3_tell_200 : decode cX3_tell 200 = .ok (.iload 5, 2) := by decide +kernel
theorem dX3_tell_202 : decode cX3_tell 202 = .ok (.iastore, 1) := by decide +kernel
theorem dX3_tell_203 : decode cX3_tell 203 = .ok (.aload_n 0, 1) := by decide +kernel
theorem dX3_tell_204 : decode cX3_tell 204 = .ok (.getfield 31, 3) := by decide +kernel
theorem dX3_tell_207 : decode cX3_tell 207 = .ok (.iload_n 1, 1) := by decide +kernel
theorem dX3_tell_208 : decode cX3_tell 208 = .ok (.aload_n 0, 1) := by decide +kernel
theorem dX3_tell_209 : decode cX3_tell 209 = .ok (.getfield 31, 3) := by decide +kernel
theorem dX3_tell_212 : decode cX3_tell 212 = .ok (.iload_n 2, 1) := by decide +kernel
theorem dX3_tell_213 : decode cX3_tell 213 = .ok (.iaload, 1) := by decide +kernel
theorem dX3_tell_214 : decode cX3_tell 214 = .ok (.aload_n 0, 1) := by decide +kernel
theorem dX3_tell_215 : decode cX3_tell 215 = .ok (.getfield 31, 3) := by decide +kernel
theorem dX3_tell_218 : decode cX3_tell 218 = .ok (.iload_n 3, 1) := by decide +kernel
theorem dX3_tell_219 : decode cX3_tell 219 = .ok (.iaload, 1) := by decide +kernel
theorem dX3_tell_220 : decode cX3_tell 220 = .ok (.iadd, 1) := by decide +kernel
theorem dX3_tell_221 : decode cX3_tell 221 = .ok (.iastore, 1) := by decide +kernel
theorem dX3_tell_222 : decode cX3_tell 222 = .ok (.return_, 1) := by decide +kernel
theorem dX3_begins_0 : decode cX3_begins 0 = .ok (.aload_n 0, 1) := by decide +kernel
theorem dX3_begins_1 : decode cX3_begins 1 = .ok (.iconst 0, 1) := by decide +kernel
theorem dX3_begins_2 : decode cX3_begins 2 = .ok (.putfield 52, 3) := by decide +kernel
theorem dX3_begins_5 : decode cX3_begins 5 = .ok (.aload_n 0, 1) := by decide +kernel
theorem dX3_begins_6 : decode cX3_begins 6 = .ok (.dup, 1) := by decide +kernel
theorem dX3_begins_7 : decode cX3_begins 7 = .ok (.getfield 58, 3) := by decide +kernel
theorem dX3_begins_10 : decode cX3_begins 10 = .ok (.iconst 1, 1) := by decide +kernel
theorem dX3_begins_11 : decode cX3_begins 11 = .ok (.iadd, 1) := by decide +kernel
theorem dX3_begins_12 : decode cX3_begins 12 = .ok (.putfield 58, 3) := by decide +kernel
theorem dX3_begins_15 : decode cX3_begins 15 = .ok (.aload_n 0, 1) := by decide +kernel
theorem dX3_begins_16 : decode cX3_begins 16 = .ok (.iconst 1, 1) := by decide +kernel
theorem dX3_begins_17 : decode cX3_begins 17 = .ok (.putfield 77, 3) := by decide +kernel
theorem dX3_begins_20 : decode cX3_begins 20 = .ok (.aload_n 0, 1) := by decide +kernel
theorem dX3_begins_21 : decode cX3_begins 21 = .ok (.getfield 34, 3) := by decide +kernel
theorem dX3_begins_24 : decode cX3_begins 24 = .ok (.iconst 0, 1) := by decide +kernel
theorem dX3_begins_25 : decode cX3_begins 25 = .ok (.iconst 2, 1) := by decide +kernel
theorem dX3_begins_26 : decode cX3_begins 26 = .ok (.iastore, 1) := by decide +kernel
theorem dX3_begins_27 : decode cX3_begins 27 = .ok (.return_, 1) := by decide +kernel
theorem dX3_visited_0 : decode cX3_visited 0 = .ok (.aload_n 0, 1) := by decide +kernel
theorem dX3_visited_1 : decode cX3_visited 1 = .ok (.dup, 1) := by decide +kernel
theorem dX3_visited_2 : decode cX3_visited 2 = .ok (.getfield 52, 3) := by decide +kernel
theorem dX3_visited_5 : decode cX3_visited 5 = .ok (.iconst 1, 1) := by decide +kernel
theorem dX3_visited_6 : decode cX3_visited 6 = .ok (.iadd, 1) := by decide +kernel
theorem dX3_visited_7 : decode cX3_visited 7 = .ok (.putfield 52, 3) := by decide +kernel
theorem dX3_visited_10 : decode cX3_visited 10 = .ok (.aload_n 0, 1) := by decide +kernel
theorem dX3_visited_11 : decode cX3_visited 11 = .ok (.dup, 1) := by decide +kernel
theorem dX3_visited_12 : decode cX3_visited 12 = .ok (.getfield 55, 3) := by decide +kernel
theorem dX3_visited_15 : decode cX3_visited 15 = .ok (.iconst 1, 1) := by decide +kernel
theorem dX3_visited_16 : decode cX3_visited 16 = .ok (.iadd, 1) := by decide +kernel
theorem dX3_visited_17 : decode cX3_visited 17 = .ok (.putfield 55, 3) := by decide +kernel
theorem dX3_visited_20 : decode cX3_visited 20 = .ok (.return_, 1) := by decide +kernel
set_option maxRecDepth 20000 in
theorem ggX3_goesBelow_X3_catchUp : GoodIn wsX3_goesBelow wsX3_catchUp := goodIn_r _ [7, 8, 9, 10, 11, 6, 12, 13, 14, 15, 16, 17, 18, 19, 20, 21, 22, 23, 24, 25, 26, 27, 28, 29, 30, 31, 32] (by decide +kernel) (by decide +kernel)
set_option maxRecDepth 20000 in
theorem gX3_goesBelow_X3_catchUp : GoodIn wsX3_goesBelow (wsV RX3 80 RX3 yX3_catchUp wsX3_catchUp) := goodIn_app (goodIn_of _ (by decide +kernel)) ggX3_goesBelow_X3_catchUp
theorem dX3_goesBelow_0 : decode cX3_goesBelow 0 = .ok (.aload_n 0, 1) := by decide +kernel
theorem dX3_goesBelow_1 : decode cX3_goesBelow 1 = .ok (.iload_n 1, 1) := by decide +kernel
theorem dX3_goesBelow_2 : decode cX3_goesBelow 2 = .ok (.invokevirtual 80, 3) := by decide +kernel
theorem dX3_goesBelow_5 : decode cX3_goesBelow 5 = .ok (.iload_n 2, 1) := by decide +kernel
theorem dX3_goesBelow_6 : decode cX3_goesBelow 6 = .ok (.ifCond .eq 27, 3) := by decide +kernel
theorem dX3_goesBelow_9 : decode cX3_goesBelow 9 = .ok (.aload_n 0, 1) := by decide +kernel
theorem dX3_goesBelow_10 : decode cX3_goesBelow 10 = .ok (.getfield 34, 3) := by decide +kernel
theorem dX3_goesBelow_13 : decode cX3_goesBelow 13 = .ok (.aload_n 0, 1) := by decide +kernel
theorem dX3_goesBelow_14 : decode cX3_goesBelow 14 = .ok (.getfield 77, 3) := by decide +kernel
theorem dX3_goesBelow_17 : decode cX3_goesBelow 17 = .ok (.iconst 2, 1) := by decide +kernel
theorem dX3_goesBelow_18 : decode cX3_goesBelow 18 = .ok (.iload_n 1, 1) := by decide +kernel
theorem dX3_goesBelow_19 : decode cX3_goesBelow 19 = .ok (.imul, 1) := by decide +kernel
theorem dX3_goesBelow_20 : decode cX3_goesBelow 20 = .ok (.iconst 1, 1) := by decide +kernel
theorem dX3_goesBelow_21 : decode cX3_goesBelow 21 = .ok (.iadd, 1) := by decide +kernel
theorem dX3_goesBelow_22 : decode cX3_goesBelow 22 = .ok (.iastore, 1) := by decide +kernel
theorem dX3_goesBelow_23 : decode cX3_goesBelow 23 = .ok (.aload_n 0, 1) := by decide +kernel
theorem dX3_goesBelow_24 : decode cX3_goesBelow 24 = .ok (.dup, 1) := by decide +kernel
theorem dX3_goesBelow_25 : decode cX3_goesBelow 25 = .ok (.getfield 77, 3) := by decide +kernel
theorem dX3_goesBelow_28 : decode cX3_goesBelow 28 = .ok (.iconst 1, 1) := by decide +kernel
theorem dX3_goesBelow_29 : decode cX3_goesBelow 29 = .ok (.iadd, 1) := by decide +kernel
theorem dX3_goesBelow_30 : decode cX3_goesBelow 30 = .ok (.putfield 77, 3) := by decide +kernel
theorem dX3_goesBelow_33 : decode cX3_goesBelow 33 = .ok (.aload_n 0, 1) := by decide +kernel
theorem dX3_goesBelow_34 : decode cX3_goesBelow 34 = .ok (.getfield 34, 3) := by decide +kernel
theorem dX3_goesBelow_37 : decode cX3_goesBelow 37 = .ok (.aload_n 0, 1) := by decide +kernel
theorem dX3_goesBelow_38 : decode cX3_goesBelow 38 = .ok (.getfield 77, 3) := by decide +kernel
theorem dX3_goesBelow_41 : decode cX3_goesBelow 41 = .ok (.iconst 2, 1) := by decide +kernel
theorem dX3_goesBelow_42 : decode cX3_goesBelow 42 = .ok (.iconst 2, 1) := by decide +kernel
theorem dX3_goesBelow_43 : decode cX3_goesBelow 43 = .ok (.iload_n 1, 1) := by decide +kernel
theorem dX3_goesBelow_44 : decode cX3_goesBelow 44 = .ok (.imul, 1) := by decide +kernel
theorem dX3_goesBelow_45 : decode cX3_goesBelow 45 = .ok (.iconst 1, 1) := by decide +kernel
theorem dX3_goesBelow_46 : decode cX3_goesBelow 46 = .ok (.iadd, 1) := by decide +kernel
theorem dX3_goesBelow_47 : decode cX3_goesBelow 47 = .ok (.imul, 1) := by decide +kernel
theorem dX3_goesBelow_48 : decode cX3_goesBelow 48 = .ok (.iastore, 1) := by decide +kernel
theorem dX3_goesBelow_49 : decode cX3_goesBelow 49 = .ok (.aload_n 0, 1) := by decide +kernel
theorem dX3_goesBelow_50 : decode cX3_goesBelow 50 = .ok (.getfield 34, 3) := by decide +kernel
theorem dX3_goesBelow_53 : decode cX3_goesBelow 53 = .ok (.aload_n 0, 1) := by decide +kernel
theorem dX3_goesBelow_54 : decode cX3_goesBelow 54 = .ok (.getfield 77, 3) := by decide +kernel
theorem dX3_goesBelow_57 : decode cX3_goesBelow 57 = .ok (.iconst 1, 1) := by decide +kernel
theorem dX3_goesBelow_58 : decode cX3_goesBelow 58 = .ok (.iadd, 1) := by decide +kernel
theorem dX3_goesBelow_59 : decode cX3_goesBelow 59 = .ok (.iconst 2, 1) := by decide +kernel
theorem dX3_goesBelow_60 : decode cX3_goesBelow 60 = .ok (.iconst 2, 1) := by decide +kernel
theorem dX3_goesBelow_61 : decode cX3_goesBelow 61 = .ok (.iload_n 1, 1) := by decide +kernel
theorem dX3_goesBelow_62 : decode cX3_goesBelow 62 = .ok (.imul, 1) := by decide +kernel
theorem dX3_goesBelow_63 : decode cX3_goesBelow 63 = .ok (.imul, 1) := by decide +kernel
theorem dX3_goesBelow_64 : decode cX3_goesBelow 64 = .ok (.iastore, 1) := by decide +kernel
theorem dX3_goesBelow_65 : decode cX3_goesBelow 65 = .ok (.aload_n 0, 1) := by decide +kernel
theorem dX3_goesBelow_66 : decode cX3_goesBelow 66 = .ok (.dup, 1) := by decide +kernel
theorem dX3_goesBelow_67 : decode cX3_goesBelow 67 = .ok (.getfield 77, 3) := by decide +kernel
theorem dX3_goesBelow_70 : decode cX3_goesBelow 70 = .ok (.iconst 2, 1) := by decide +kernel
theorem dX3_goesBelow_71 : decode cX3_goesBelow 71 = .ok (.iadd, 1) := by decide +kernel
theorem dX3_goesBelow_72 : decode cX3_goesBelow 72 = .ok (.putfield 77, 3) := by decide +kernel
theorem dX3_goesBelow_75 : decode cX3_goesBelow 75 = .ok (.return_, 1) := by decide +kernel
set_option maxRecDepth 20000 in
theorem ggX3_isRange_X3_isColumn : GoodIn wsX3_isRange wsX3_isColumn := goodIn_r _ [5, 6, 7, 8, 4, 9, 10, 11, 12, 13, 14, 15, 16, 17, 18, 19, 20, 21, 22, 23, 24, 25, 26, 27] (by decide +kernel) (by decide +kernel)
set_option maxRecDepth 20000 in
theorem gX3_isRange_X3_isColumn : GoodIn wsX3_isRange (wsV RX3 84 RX3 yX3_isColumn wsX3_isColumn) := goodIn_app (goodIn_of _ (by decide +kernel)) ggX3_isRange_X3_isColumn
theorem dX3_isRange_0 : decode cX3_isRange 0 = .ok (.aload_n 0, 1) := by decide +kernel
theorem dX3_isRange_1 : decode cX3_isRange 1 = .ok (.iload_n 1, 1) := by decide +kernel
theorem dX3_isRange_2 : decode cX3_isRange 2 = .ok (.invokevirtual 84, 3) := by decide +kernel
theorem dX3_isRange_5 : decode cX3_isRange 5 = .ok (.ifCond .eq 15, 3) := by decide +kernel
theorem dX3_isRange_8 : decode cX3_isRange 8 = .ok (.aload_n 0, 1) := by decide +kernel
theorem dX3_isRange_9 : decode cX3_isRange 9 = .ok (.iload_n 2, 1) := by decide +kernel
theorem dX3_isRange_10 : decode cX3_isRange 10 = .ok (.invokevirtual 84, 3) := by decide +kernel
theorem dX3_isRange_13 : decode cX3_isRange 13 = .ok (.ifCond .eq 7, 3) := by decide +kernel
theorem dX3_isRange_16 : decode cX3_isRange 16 = .ok (.iconst 1, 1) := by decide +kernel
theorem dX3_isRange_17 : decode cX3_isRange 17 = .ok (.goto 4, 3) := by decide +kernel
theorem dX3_isRange_20 : decode cX3_isRange 20 = .ok (.iconst 0, 1) := by decide +kernel
theorem dX3_isRange_21 : decode cX3_isRange 21 = .ok (.ireturn, 1) := by decide +kernel
set_option maxRecDepth 20000 in
theorem ggX3_pile_X3_isColumn : GoodIn wsX3_pile wsX3_isColumn := goodIn_r _ [12, 13, 14, 15, 11, 16, 49, 50, 51, 52, 53, 54, 55, 56, 57, 58, 59, 60, 61, 62, 63, 64, 65, 66] (by decide +kernel) (by decide +kernel)
set_option maxRecDepth 20000 in
theorem gX3_pile_X3_isColumn : GoodIn wsX3_pile (wsV RX3 84 RX3 yX3_isColumn wsX3_isColumn) := goodIn_app (goodIn_of _ (by decide +kernel)) ggX3_pile_X3_isColumn
set_option maxRecDepth 20000 in
theorem ggX3_pile_X3_in : GoodIn wsX3_pile wsX3_in := goodIn_r _ [16] (by decide +kernel) (by decide +kernel)
set_option maxRecDepth 20000 in
theorem gX3_pile_X3_in : GoodIn wsX3_pile (va_wsS RX3 48 yX3_in wsX3_in) := goodIn_app (goodIn_of _ (by decide +kernel)) ggX3_pile_X3_in
set_option maxRecDepth 20000 in
theorem ggX3_pile_X3_isFine : GoodIn wsX3_pile wsX3_isFine := goodIn_r _ [20, 21, 49, 50, 51, 52, 53, 54, 55, 56, 57, 58, 59, 60, 61, 62, 63, 64, 65, 66] (by decide +kernel) (by decide +kernel)
set_option maxRecDepth 20000 in
theorem gX3_pile_X3_isFine : GoodIn wsX3_pile (wsV RX3 70 RX3 yX3_isFine wsX3_isFine) := goodIn_app (goodIn_of _ (by decide +kernel)) ggX3_pile_X3_isFine
set_option maxRecDepth 20000 in
theorem ggX3_pile_X3_begins : GoodIn wsX3_pile wsX3_begins := goodIn_r _ [25, 26, 27, 28, 29, 49, 50, 51, 52, 53, 54, 55, 56, 57, 58, 59, 60, 61, 62, 63, 64, 65, 66] (by decide +kernel) (by decide +kernel)
set_option maxRecDepth 20000 in
theorem gX3_pile_X3_begins : GoodIn wsX3_pile (wsV RX3 87 RX3 yX3_begins wsX3_begins) := goodIn_app (goodIn_of _ (by decide +kernel)) ggX3_pile_X3_begins
set_option maxRecDepth 20000 in
theorem ggX3_pile_X3_visited : GoodIn wsX3_pile wsX3_visited := goodIn_r _ [33, 26, 34, 49, 50, 51, 52, 53, 54, 55, 56, 57, 58, 59, 60, 61, 62, 63, 64, 65, 66] (by decide +kernel) (by decide +kernel)
set_option maxRecDepth 20000 in
theorem gX3_pile_X3_visited : GoodIn wsX3_pile (wsV RX3 90 RX3 yX3_visited wsX3_visited) := goodIn_app (goodIn_of _ (by decide +kernel)) ggX3_pile_X3_visited
set_option maxRecDepth 20000 in
theorem ggX3_pile_X3_catchUp : GoodIn wsX3_pile wsX3_catchUp := goodIn_r _ [38, 4, 39, 40, 41, 11, 42, 5, 43, 49, 50, 51, 52, 53, 54, 55, 56, 57, 58, 59, 60, 61, 62, 63, 64, 65, 66] (by decide +kernel) (by decide +kernel)
set_option maxRecDepth 20000 in
theorem gX3_pile_X3_catchUp : GoodIn wsX3_pile (wsV RX3 80 RX3 yX3_catchUp wsX3_catchUp) := goodIn_app (goodIn_of _ (by decide +kernel)) ggX3_pile_X3_catchUp
set_option maxRecDepth 20000 in
theorem ggX3_pile_X3_tell : GoodIn wsX3_pile wsX3_tell := goodIn_r _ [47, 4, 43, 48, 5, 49, 50, 51, 52, 53, 54, 55, 56, 57, 58, 59, 60, 61, 62, 63, 64, 65, 66] (by decide +kernel) (by decide +kernel)
set_option maxRecDepth 20000 in
theorem gX3_pile_X3_tell : GoodIn wsX3_pile (wsV RX3 93 RX3 yX3_tell wsX3_tell) := goodIn_app (goodIn_of _ (by decide +kernel)) ggX3_pile_X3_tell
theorem dX3_pile_0 : decode cX3_pile 0 = .ok (.aload_n 0, 1) := by decide +kernel
theorem dX3_pile_1 : decode cX3_pile 1 = .ok (.aload_n 0, 1) := by decide +kernel
theorem dX3_pile_2 : decode cX3_pile 2 = .ok (.iload_n 1, 1) := by decide +kernel
theorem dX3_pile_3 : decode cX3_pile 3 = .ok (.invokevirtual 84, 3) := by decide +kernel
theorem dX3_pile_6 : decode cX3_pile 6 = .ok (.ifCond .ne 7, 3) := by decide +kernel
theorem dX3_pile_9 : decode cX3_pile 9 = .ok (.iconst 1, 1) := by decide +kernel
theorem dX3_pile_10 : decode cX3_pile 10 = .ok (.goto 37, 3) := by decide +kernel
theorem dX3_pile_13 : decode cX3_pile 13 = .ok (.iload_n 2, 1) := by decide +kernel
theorem dX3_pile_14 : decode cX3_pile 14 = .ok (.iconst 1, 1) := by decide +kernel
theorem dX3_pile_15 : decode cX3_pile 15 = .ok (.sipush 1000, 3) := by decide +kernel
theorem dX3_pile_18 : decode cX3_pile 18 = .ok (.invokestatic 48, 3) := by decide +kernel
theorem dX3_pile_21 : decode cX3_pile 21 = .ok (.ifCond .ne 7, 3) := by decide +kernel
theorem dX3_pile_24 : decode cX3_pile 24 = .ok (.iconst 2, 1) := by decide +kernel
theorem dX3_pile_25 : decode cX3_pile 25 = .ok (.goto 22, 3) := by decide +kernel
theorem dX3_pile_28 : decode cX3_pile 28 = .ok (.aload_n 0, 1) := by decide +kernel
theorem dX3_pile_29 : decode cX3_pile 29 = .ok (.getfield 7, 3) := by decide +kernel
theorem dX3_pile_32 : decode cX3_pile 32 = .ok (.iload_n 1, 1) := by decide +kernel
theorem dX3_pile_33 : decode cX3_pile 33 = .ok (.iaload, 1) := by decide +kernel
theorem dX3_pile_34 : decode cX3_pile 34 = .ok (.iload_n 2, 1) := by decide +kernel
theorem dX3_pile_35 : decode cX3_pile 35 = .ok (.iadd, 1) := by decide +kernel
theorem dX3_pile_36 : decode cX3_pile 36 = .ok (.sipush 1000, 3) := by decide +kernel
theorem dX3_pile_39 : decode cX3_pile 39 = .ok (.if_icmp .le 7, 3) := by decide +kernel
theorem dX3_pile_42 : decode cX3_pile 42 = .ok (.iconst 3, 1) := by decide +kernel
theorem dX3_pile_43 : decode cX3_pile 43 = .ok (.goto 4, 3) := by decide +kernel
theorem dX3_pile_46 : decode cX3_pile 46 = .ok (.iconst 0, 1) := by decide +kernel
theorem dX3_pile_47 : decode cX3_pile 47 = .ok (.invokevirtual 70, 3) := by decide +kernel
theorem dX3_pile_50 : decode cX3_pile 50 = .ok (.ifCond .ne 5, 3) := by decide +kernel
theorem dX3_pile_53 : decode cX3_pile 53 = .ok (.iconst 0, 1) := by decide +kernel
theorem dX3_pile_54 : decode cX3_pile 54 = .ok (.ireturn, 1) := by decide +kernel
theorem dX3_pile_55 : decode cX3_pile 55 = .ok (.aload_n 0, 1) := by decide +kernel
theorem dX3_pile_56 : decode cX3_pile 56 = .ok (.invokevirtual 87, 3) := by decide +kernel
theorem dX3_pile_59 : decode cX3_pile 59 = .ok (.iconst 1, 1) := by decide +kernel
theorem dX3_pile_60 : decode cX3_pile 60 = .ok (.istore_n 3, 1) := by decide +kernel
theorem dX3_pile_61 : decode cX3_pile 61 = .ok (.aload_n 0, 1) := by decide +kernel
theorem dX3_pile_62 : decode cX3_pile 62 = .ok (.invokevirtual 90, 3) := by decide +kernel
theorem dX3_pile_65 : decode cX3_pile 65 = .ok (.aload_n 0, 1) := by decide +kernel
theorem dX3_pile_66 : decode cX3_pile 66 = .ok (.getfield 16, 3) := by decide +kernel
theorem dX3_pile_69 : decode cX3_pile 69 = .ok (.iload_n 3, 1) := by decide +kernel
theorem dX3_pile_70 : decode cX3_pile 70 = .ok (.iaload, 1) := by decide +kernel
theorem dX3_pile_71 : decode cX3_pile 71 = .ok (.aload_n 0, 1) := by decide +kernel
theorem dX3_pile_72 : decode cX3_pile 72 = .ok (.getfield 19, 3) := by decide +kernel
theorem dX3_pile_75 : decode cX3_pile 75 = .ok (.iload_n 3, 1) := by decide +kernel
theorem dX3_pile_76 : decode cX3_pile 76 = .ok (.iaload, 1) := by decide +kernel
theorem dX3_pile_77 : decode cX3_pile 77 = .ok (.if_icmp .ge 39, 3) := by decide +kernel
theorem dX3_pile_80 : decode cX3_pile 80 = .ok (.aload_n 0, 1) := by decide +kernel
theorem dX3_pile_81 : decode cX3_pile 81 = .ok (.iload_n 3, 1) := by decide +kernel
theorem dX3_pile_82 : decode cX3_pile 82 = .ok (.invokevirtual 80, 3) := by decide +kernel
theorem dX3_pile_85 : decode cX3_pile 85 = .ok (.iload_n 1, 1) := by decide +kernel
theorem dX3_pile_86 : decode cX3_pile 86 = .ok (.aload_n 0, 1) := by decide +kernel
theorem dX3_pile_87 : decode cX3_pile 87 = .ok (.getfield 19, 3) := by decide +kernel
theorem dX3_pile_90 : decode cX3_pile 90 = .ok (.iconst 2, 1) := by decide +kernel
theorem dX3_pile_91 : decode cX3_pile 91 = .ok (.iload_n 3, 1) := by decide +kernel
theorem dX3_pile_92 : decode cX3_pile 92 = .ok (.imul, 1) := by decide +kernel
theorem dX3_pile_93 : decode cX3_pile 93 = .ok (.iaload, 1) := by decide +kernel
theorem dX3_pile_94 : decode cX3_pile 94 = .ok (.if_icmp .gt 9, 3) := by decide +kernel
theorem dX3_pile_97 : decode cX3_pile 97 = .ok (.iconst 2, 1) := by decide +kernel
theorem dX3_pile_98 : decode cX3_pile 98 = .ok (.iload_n 3, 1) := by decide +kernel
theorem dX3_pile_99 : decode cX3_pile 99 = .ok (.imul, 1) := by decide +kernel
theorem dX3_pile_100 : decode cX3_pile 100 = .ok (.goto 8, 3) := by decide +kernel
theorem dX3_pile_103 : decode cX3_pile 103 = .ok (.iconst 2, 1) := by decide +kernel
theorem dX3_pile_104 : decode cX3_pile 104 = .ok (.iload_n 3, 1) := by decide +kernel
theorem dX3_pile_105 : decode cX3_pile 105 = .ok (.imul, 1) := by decide +kernel
theorem dX3_pile_106 : decode cX3_pile 106 = .ok (.iconst 1, 1) := by decide +kernel
theorem dX3_pile_107 : decode cX3_pile 107 = .ok (.iadd, 1) := by decide +kernel
theorem dX3_pile_108 : decode cX3_pile 108 = .ok (.istore_n 3, 1) := by decide +kernel
theorem dX3_pile_109 : decode cX3_pile 109 = .ok (.aload_n 0, 1) := by decide +kernel
theorem dX3_pile_110 : decode cX3_pile 110 = .ok (.invokevirtual 90, 3) := by decide +kernel
theorem dX3_pile_113 : decode cX3_pile 113 = .ok (.goto (-48), 3) := by decide +kernel
theorem dX3_pile_116 : decode cX3_pile 116 = .ok (.aload_n 0, 1) := by decide +kernel
theorem dX3_pile_117 : decode cX3_pile 117 = .ok (.getfield 22, 3) := by decide +kernel
theorem dX3_pile_120 : decode cX3_pile 120 = .ok (.iload_n 3, 1) := by decide +kernel
theorem dX3_pile_121 : decode cX3_pile 121 = .ok (.dup2, 1) := by decide +kernel
theorem dX3_pile_122 : decode cX3_pile 122 = .ok (.iaload, 1) := by decide +kernel
theorem dX3_pile_123 : decode cX3_pile 123 = .ok (.iload_n 2, 1) := by decide +kernel
theorem dX3_pile_124 : decode cX3_pile 124 = .ok (.iadd, 1) := by decide +kernel
theorem dX3_pile_125 : decode cX3_pile 125 = .ok (.iastore, 1) := by decide +kernel
theorem dX3_pile_126 : decode cX3_pile 126 = .ok (.aload_n 0, 1) := by decide +kernel
theorem dX3_pile_127 : decode cX3_pile 127 = .ok (.getfield 31, 3) := by decide +kernel
theorem dX3_pile_130 : decode cX3_pile 130 = .ok (.iload_n 3, 1) := by decide +kernel
theorem dX3_pile_131 : decode cX3_pile 131 = .ok (.dup2, 1) := by decide +kernel
theorem dX3_pile_132 : decode cX3_pile 132 = .ok (.iaload, 1) := by decide +kernel
theorem dX3_pile_133 : decode cX3_pile 133 = .ok (.iload_n 2, 1) := by decide +kernel
theorem dX3_pile_134 : decode cX3_pile 134 = .ok (.iadd, 1) := by decide +kernel
theorem dX3_pile_135 : decode cX3_pile 135 = .ok (.iastore, 1) := by decide +kernel
theorem dX3_pile_136 : decode cX3_pile 136 = .ok (.iload_n 3, 1) := by decide +kernel
theorem dX3_pile_137 : decode cX3_pile 137 = .ok (.iconst 1, 1) := by decide +kernel
theorem dX3_pile_138 : decode cX3_pile 138 = .ok (.if_icmp .le 15, 3) := by decide +kernel
theorem dX3_pile_141 : decode cX3_pile 141 = .ok (.iload_n 3, 1) := by decide +kernel
theorem dX3_pile_142 : decode cX3_pile 142 = .ok (.iconst 2, 1) := by decide +kernel
theorem dX3_pile_143 : decode cX3_pile 143 = .ok (.idiv, 1) := by decide +kernel
theorem dX3_pile_144 : decode cX3_pile 144 = .ok (.istore_n 3, 1) := by decide +kernel
theorem dX3_pile_145 : decode cX3_pile 145 = .ok (.aload_n 0, 1) := by decide +kernel
theorem dX3_pile_146 : decode cX3_pile 146 = .ok (.iload_n 3, 1) := by decide +kernel
theorem dX3_pile_147 : decode cX3_pile 147 = .ok (.invokevirtual 93, 3) := by decide +kernel
theorem dX3_pile_150 : decode cX3_pile 150 = .ok (.goto (-14), 3) := by decide +kernel
theorem dX3_pile_153 : decode cX3_pile 153 = .ok (.aload_n 0, 1) := by decide +kernel
theorem dX3_pile_154 : decode cX3_pile 154 = .ok (.getfield 7, 3) := by decide +kernel
theorem dX3_pile_157 : decode cX3_pile 157 = .ok (.iload_n 1, 1) := by decide +kernel
theorem dX3_pile_158 : decode cX3_pile 158 = .ok (.dup2, 1) := by decide +kernel
theorem dX3_pile_159 : decode cX3_pile 159 = .ok (.iaload, 1) := by decide +kernel
theorem dX3_pile_160 : decode cX3_pile 160 = .ok (.iload_n 2, 1) := by decide +kernel
theorem dX3_pile_161 : decode cX3_pile 161 = .ok (.iadd, 1) := by decide +kernel
theorem dX3_pile_162 : decode cX3_pile 162 = .ok (.iastore, 1) := by decide +kernel
theorem dX3_pile_163 : decode cX3_pile 163 = .ok (.aload_n 0, 1) := by decide +kernel
theorem dX3_pile_164 : decode cX3_pile 164 = .ok (.dup, 1) := by decide +kernel
theorem dX3_pile_165 : decode cX3_pile 165 = .ok (.getfield 64, 3) := by decide +kernel
theorem dX3_pile_168 : decode cX3_pile 168 = .ok (.iload_n 2, 1) := by decide +kernel
theorem dX3_pile_169 : decode cX3_pile 169 = .ok (.iadd, 1) := by decide +kernel
theorem dX3_pile_170 : decode cX3_pile 170 = .ok (.putfield 64, 3) := by decide +kernel
theorem dX3_pile_173 : decode cX3_pile 173 = .ok (.aload_n 0, 1) := by decide +kernel
theorem dX3_pile_174 : decode cX3_pile 174 = .ok (.getfield 13, 3) := by decide +kernel
theorem dX3_pile_177 : decode cX3_pile 177 = .ok (.iload_n 1, 1) := by decide +kernel
theorem dX3_pile_178 : decode cX3_pile 178 = .ok (.iconst (-1), 1) := by decide +kernel
theorem dX3_pile_179 : decode cX3_pile 179 = .ok (.iastore, 1) := by decide +kernel
theorem dX3_pile_180 : decode cX3_pile 180 = .ok (.aload_n 0, 1) := by decide +kernel
theorem dX3_pile_181 : decode cX3_pile 181 = .ok (.getfield 7, 3) := by decide +kernel
theorem dX3_pile_184 : decode cX3_pile 184 = .ok (.iload_n 1, 1) := by decide +kernel
theorem dX3_pile_185 : decode cX3_pile 185 = .ok (.iaload, 1) := by decide +kernel
theorem dX3_pile_186 : decode cX3_pile 186 = .ok (.ireturn, 1) := by decide +kernel
theorem dX3_presses_0 : decode cX3_presses 0 = .ok (.iconst 0, 1) := by decide +kernel
theorem dX3_presses_1 : decode cX3_presses 1 = .ok (.istore 4, 2) := by decide +kernel
theorem dX3_presses_3 : decode cX3_presses 3 = .ok (.iload_n 1, 1) := by decide +kernel
theorem dX3_presses_4 : decode cX3_presses 4 = .ok (.istore 5, 2) := by decide +kernel
theorem dX3_presses_6 : decode cX3_presses 6 = .ok (.iload 5, 2) := by decide +kernel
theorem dX3_presses_8 : decode cX3_presses 8 = .ok (.iload_n 2, 1) := by decide +kernel
theorem dX3_presses_9 : decode cX3_presses 9 = .ok (.if_icmp .gt 38, 3) := by decide +kernel
theorem dX3_presses_12 : decode cX3_presses 12 = .ok (.iload 4, 2) := by decide +kernel
theorem dX3_presses_14 : decode cX3_presses 14 = .ok (.aload_n 0, 1) := by decide +kernel
theorem dX3_presses_15 : decode cX3_presses 15 = .ok (.getfield 7, 3) := by decide +kernel
theorem dX3_presses_18 : decode cX3_presses 18 = .ok (.iload 5, 2) := by decide +kernel
theorem dX3_presses_20 : decode cX3_presses 20 = .ok (.iaload, 1) := by decide +kernel
theorem dX3_presses_21 : decode cX3_presses 21 = .ok (.iload_n 3, 1) := by decide +kernel
theorem dX3_presses_22 : decode cX3_presses 22 = .ok (.if_icmp .le 15, 3) := by decide +kernel
theorem dX3_presses_25 : decode cX3_presses 25 = .ok (.aload_n 0, 1) := by decide +kernel
theorem dX3_presses_26 : decode cX3_presses 26 = .ok (.getfield 7, 3) := by decide +kernel
theorem dX3_presses_29 : decode cX3_presses 29 = .ok (.iload 5, 2) := by decide +kernel
theorem dX3_presses_31 : decode cX3_presses 31 = .ok (.iaload, 1) := by decide +kernel
theorem dX3_presses_32 : decode cX3_presses 32 = .ok (.iload_n 3, 1) := by decide +kernel
theorem dX3_presses_33 : decode cX3_presses 33 = .ok (.isub, 1) := by decide +kernel
theorem dX3_presses_34 : decode cX3_presses 34 = .ok (.goto 4, 3) := by decide +kernel
theorem dX3_presses_37 : decode cX3_presses 37 = .ok (.iconst 0, 1) := by decide +kernel
theorem dX3_presses_38 : decode cX3_presses 38 = .ok (.iadd, 1) := by decide +kernel
theorem dX3_presses_39 : decode cX3_presses 39 = .ok (.istore 4, 2) := by decide +kernel
theorem dX3_presses_41 : decode cX3_presses 41 = .ok (.iinc 5 1, 3) := by decide +kernel
theorem dX3_presses_44 : decode cX3_presses 44 = .ok (.goto (-38), 3) := by decide +kernel
theorem dX3_presses_47 : decode cX3_presses 47 = .ok (.iload 4, 2) := by decide +kernel
theorem dX3_presses_49 : decode cX3_presses 49 = .ok (.ireturn, 1) := by decide +kernel
set_option maxRecDepth 20000 in
theorem ggX3_lower_X3_isRange : GoodIn wsX3_lower wsX3_isRange := goodIn_r _ [14, 15, 16, 17, 13, 18, 19, 20, 21, 22, 61, 62, 63, 64, 65, 66, 67, 68, 69, 70, 71, 72, 73, 74, 75, 76, 77, 78] (by decide +kernel) (by decide +kernel)
set_option maxRecDepth 20000 in
theorem gX3_lower_X3_isRange : GoodIn wsX3_lower (wsV RX3 96 RX3 yX3_isRange wsX3_isRange) := goodIn_app (goodIn_of _ (by decide +kernel)) ggX3_lower_X3_isRange
set_option maxRecDepth 20000 in
theorem ggX3_lower_X3_in : GoodIn wsX3_lower wsX3_in := goodIn_r _ [22] (by decide +kernel) (by decide +kernel)
set_option maxRecDepth 20000 in
theorem gX3_lower_X3_in : GoodIn wsX3_lower (va_wsS RX3 48 yX3_in wsX3_in) := goodIn_app (goodIn_of _ (by decide +kernel)) ggX3_lower_X3_in
set_option maxRecDepth 20000 in
theorem ggX3_lower_X3_isFine : GoodIn wsX3_lower wsX3_isFine := goodIn_r _ [26, 27, 61, 62, 63, 64, 65, 66, 67, 68, 69, 70, 71, 72, 73, 74, 75, 76, 77, 78] (by decide +kernel) (by decide +kernel)
set_option maxRecDepth 20000 in
theorem gX3_lower_X3_isFine : GoodIn wsX3_lower (wsV RX3 70 RX3 yX3_isFine wsX3_isFine) := goodIn_app (goodIn_of _ (by decide +kernel)) ggX3_lower_X3_isFine
set_option maxRecDepth 20000 in
theorem ggX3_lower_X3_begins : GoodIn wsX3_lower wsX3_begins := goodIn_r _ [31, 32, 33, 1, 2, 61, 62, 63, 64, 65, 66, 67, 68, 69, 70, 71, 72, 73, 74, 75, 76, 77, 78] (by decide +kernel) (by decide +kernel)
set_option maxRecDepth 20000 in
theorem gX3_lower_X3_begins : GoodIn wsX3_lower (wsV RX3 87 RX3 yX3_begins wsX3_begins) := goodIn_app (goodIn_of _ (by decide +kernel)) ggX3_lower_X3_begins
set_option maxRecDepth 20000 in
theorem ggX3_lower_X3_tell : GoodIn wsX3_lower wsX3_tell := goodIn_r _ [37, 5, 38, 6, 39, 61, 62, 63, 64, 65, 66, 67, 68, 69, 70, 71, 72, 73, 74, 75, 76, 77, 78] (by decide +kernel) (by decide +kernel)
set_option maxRecDepth 20000 in
theorem gX3_lower_X3_tell : GoodIn wsX3_lower (wsV RX3 93 RX3 yX3_tell wsX3_tell) := goodIn_app (goodIn_of _ (by decide +kernel)) ggX3_lower_X3_tell
set_option maxRecDepth 20000 in
theorem ggX3_lower_X3_visited : GoodIn wsX3_lower wsX3_visited := goodIn_r _ [43, 32, 44, 61, 62, 63, 64, 65, 66, 67, 68, 69, 70, 71, 72, 73, 74, 75, 76, 77, 78] (by decide +kernel) (by decide +kernel)
set_option maxRecDepth 20000 in
theorem gX3_lower_X3_visited : GoodIn wsX3_lower (wsV RX3 90 RX3 yX3_visited wsX3_visited) := goodIn_app (goodIn_of _ (by decide +kernel)) ggX3_lower_X3_visited
set_option maxRecDepth 20000 in
theorem ggX3_lower_X3_press : GoodIn wsX3_lower wsX3_press := goodIn_r _ [48, 39, 5, 38, 61, 62, 63, 64, 65, 66, 67, 68, 69, 70, 71, 72, 73, 74, 75, 76, 77, 78] (by decide +kernel) (by decide +kernel)
set_option maxRecDepth 20000 in
theorem gX3_lower_X3_press : GoodIn wsX3_lower (wsV RX3 74 RX3 yX3_press wsX3_press) := goodIn_app (goodIn_of _ (by decide +kernel)) ggX3_lower_X3_press
set_option maxRecDepth 20000 in
theorem ggX3_lower_X3_goesBelow : GoodIn wsX3_lower wsX3_goesBelow := goodIn_r _ [52, 2, 1, 53, 54, 55, 13, 56, 5, 45, 46, 47, 48, 39, 38, 61, 62, 63, 64, 65, 66, 67, 68, 69, 70, 71, 72, 73, 74, 75, 76, 77, 78] (by decide +kernel) (by decide +kernel)
set_option maxRecDepth 20000 in
theorem gX3_lower_X3_goesBelow : GoodIn wsX3_lower (wsV RX3 100 RX3 yX3_goesBelow wsX3_goesBelow) := goodIn_app (goodIn_of _ (by decide +kernel)) ggX3_lower_X3_goesBelow
set_option maxRecDepth 20000 in
theorem ggX3_lower_X3_presses : GoodIn wsX3_lower wsX3_presses := goodIn_r _ [60, 7, 61, 62, 63, 64, 65, 66, 67, 68, 69, 70, 71, 72, 73, 74, 75, 76, 77, 78] (by decide +kernel) (by decide +kernel)
set_option maxRecDepth 20000 in
theorem gX3_lower_X3_presses : GoodIn wsX3_lower (wsV RX3 104 RX3 yX3_presses wsX3_presses) := goodIn_app (goodIn_of _ (by decide +kernel)) ggX3_lower_X3_presses
theorem dX3_lower_0 : decode cX3_lower 0 = .ok (.aload_n 0, 1) := by decide +kernel
theorem dX3_lower_1 : decode cX3_lower 1 = .ok (.aload_n 0, 1) := by decide +kernel
theorem dX3_lower_2 : decode cX3_lower 2 = .ok (.iload_n 1, 1) := by decide +kernel
theorem dX3_lower_3 : decode cX3_lower 3 = .ok (.iload_n 2, 1) := by decide +kernel
theorem dX3_lower_4 : decode cX3_lower 4 = .ok (.invokevirtual 96, 3) := by decide +kernel
theorem dX3_lower_7 : decode cX3_lower 7 = .ok (.ifCond .ne 7, 3) := by decide +kernel
theorem dX3_lower_10 : decode cX3_lower 10 = .ok (.iconst 1, 1) := by decide +kernel
theorem dX3_lower_11 : decode cX3_lower 11 = .ok (.goto 24, 3) := by decide +kernel
theorem dX3_lower_14 : decode cX3_lower 14 = .ok (.iload_n 2, 1) := by decide +kernel
theorem dX3_lower_15 : decode cX3_lower 15 = .ok (.iload_n 1, 1) := by decide +kernel
theorem dX3_lower_16 : decode cX3_lower 16 = .ok (.if_icmp .lt 14, 3) := by decide +kernel
theorem dX3_lower_19 : decode cX3_lower 19 = .ok (.iload_n 3, 1) := by decide +kernel
theorem dX3_lower_20 : decode cX3_lower 20 = .ok (.iconst 0, 1) := by decide +kernel
theorem dX3_lower_21 : decode cX3_lower 21 = .ok (.sipush 1000, 3) := by decide +kernel
theorem dX3_lower_24 : decode cX3_lower 24 = .ok (.invokestatic 48, 3) := by decide +kernel
theorem dX3_lower_27 : decode cX3_lower 27 = .ok (.ifCond .ne 7, 3) := by decide +kernel
theorem dX3_lower_30 : decode cX3_lower 30 = .ok (.iconst 2, 1) := by decide +kernel
theorem dX3_lower_31 : decode cX3_lower 31 = .ok (.goto 4, 3) := by decide +kernel
theorem dX3_lower_34 : decode cX3_lower 34 = .ok (.iconst 0, 1) := by decide +kernel
theorem dX3_lower_35 : decode cX3_lower 35 = .ok (.invokevirtual 70, 3) := by decide +kernel
theorem dX3_lower_38 : decode cX3_lower 38 = .ok (.ifCond .ne 5, 3) := by decide +kernel
theorem dX3_lower_41 : decode cX3_lower 41 = .ok (.iconst 0, 1) := by decide +kernel
theorem dX3_lower_42 : decode cX3_lower 42 = .ok (.ireturn, 1) := by decide +kernel
theorem dX3_lower_43 : decode cX3_lower 43 = .ok (.aload_n 0, 1) := by decide +kernel
theorem dX3_lower_44 : decode cX3_lower 44 = .ok (.invokevirtual 87, 3) := by decide +kernel
theorem dX3_lower_47 : decode cX3_lower 47 = .ok (.aload_n 0, 1) := by decide +kernel
theorem dX3_lower_48 : decode cX3_lower 48 = .ok (.getfield 77, 3) := by decide +kernel
theorem dX3_lower_51 : decode cX3_lower 51 = .ok (.ifCond .le 198, 3) := by decide +kernel
theorem dX3_lower_54 : decode cX3_lower 54 = .ok (.aload_n 0, 1) := by decide +kernel
theorem dX3_lower_55 : decode cX3_lower 55 = .ok (.dup, 1) := by decide +kernel
theorem dX3_lower_56 : decode cX3_lower 56 = .ok (.getfield 77, 3) := by decide +kernel
theorem dX3_lower_59 : decode cX3_lower 59 = .ok (.iconst 1, 1) := by decide +kernel
theorem dX3_lower_60 : decode cX3_lower 60 = .ok (.isub, 1) := by decide +kernel
theorem dX3_lower_61 : decode cX3_lower 61 = .ok (.putfield 77, 3) := by decide +kernel
theorem dX3_lower_64 : decode cX3_lower 64 = .ok (.aload_n 0, 1) := by decide +kernel
theorem dX3_lower_65 : decode cX3_lower 65 = .ok (.getfield 34, 3) := by decide +kernel
theorem dX3_lower_68 : decode cX3_lower 68 = .ok (.aload_n 0, 1) := by decide +kernel
theorem dX3_lower_69 : decode cX3_lower 69 = .ok (.getfield 77, 3) := by decide +kernel
theorem dX3_lower_72 : decode cX3_lower 72 = .ok (.iaload, 1) := by decide +kernel
theorem dX3_lower_73 : decode cX3_lower 73 = .ok (.iconst 2, 1) := by decide +kernel
theorem dX3_lower_74 : decode cX3_lower 74 = .ok (.idiv, 1) := by decide +kernel
theorem dX3_lower_75 : decode cX3_lower 75 = .ok (.istore 4, 2) := by decide +kernel
theorem dX3_lower_77 : decode cX3_lower 77 = .ok (.aload_n 0, 1) := by decide +kernel
theorem dX3_lower_78 : decode cX3_lower 78 = .ok (.getfield 34, 3) := by decide +kernel
theorem dX3_lower_81 : decode cX3_lower 81 = .ok (.aload_n 0, 1) := by decide +kernel
theorem dX3_lower_82 : decode cX3_lower 82 = .ok (.getfield 77, 3) := by decide +kernel
theorem dX3_lower_85 : decode cX3_lower 85 = .ok (.iaload, 1) := by decide +kernel
theorem dX3_lower_86 : decode cX3_lower 86 = .ok (.iconst 2, 1) := by decide +kernel
theorem dX3_lower_87 : decode cX3_lower 87 = .ok (.irem, 1) := by decide +kernel
theorem dX3_lower_88 : decode cX3_lower 88 = .ok (.iconst 1, 1) := by decide +kernel
theorem dX3_lower_89 : decode cX3_lower 89 = .ok (.if_icmp .ne 12, 3) := by decide +kernel
theorem dX3_lower_92 : decode cX3_lower 92 = .ok (.aload_n 0, 1) := by decide +kernel
theorem dX3_lower_93 : decode cX3_lower 93 = .ok (.iload 4, 2) := by decide +kernel
theorem dX3_lower_95 : decode cX3_lower 95 = .ok (.invokevirtual 93, 3) := by decide +kernel
theorem dX3_lower_98 : decode cX3_lower 98 = .ok (.goto 148, 3) := by decide +kernel
theorem dX3_lower_101 : decode cX3_lower 101 = .ok (.aload_n 0, 1) := by decide +kernel
theorem dX3_lower_102 : decode cX3_lower 102 = .ok (.invokevirtual 90, 3) := by decide +kernel
theorem dX3_lower_105 : decode cX3_lower 105 = .ok (.aload_n 0, 1) := by decide +kernel
theorem dX3_lower_106 : decode cX3_lower 106 = .ok (.getfield 16, 3) := by decide +kernel
theorem dX3_lower_109 : decode cX3_lower 109 = .ok (.iload 4, 2) := by decide +kernel
theorem dX3_lower_111 : decode cX3_lower 111 = .ok (.iaload, 1) := by decide +kernel
theorem dX3_lower_112 : decode cX3_lower 112 = .ok (.iload_n 2, 1) := by decide +kernel
theorem dX3_lower_113 : decode cX3_lower 113 = .ok (.if_icmp .gt 25, 3) := by decide +kernel
theorem dX3_lower_116 : decode cX3_lower 116 = .ok (.aload_n 0, 1) := by decide +kernel
theorem dX3_lower_117 : decode cX3_lower 117 = .ok (.getfield 19, 3) := by decide +kernel
theorem dX3_lower_120 : decode cX3_lower 120 = .ok (.iload 4, 2) := by decide +kernel
theorem dX3_lower_122 : decode cX3_lower 122 = .ok (.iaload, 1) := by decide +kernel
theorem dX3_lower_123 : decode cX3_lower 123 = .ok (.iload_n 1, 1) := by decide +kernel
theorem dX3_lower_124 : decode cX3_lower 124 = .ok (.if_icmp .lt 14, 3) := by decide +kernel
theorem dX3_lower_127 : decode cX3_lower 127 = .ok (.aload_n 0, 1) := by decide +kernel
theorem dX3_lower_128 : decode cX3_lower 128 = .ok (.getfield 22, 3) := by decide +kernel
theorem dX3_lower_131 : decode cX3_lower 131 = .ok (.iload 4, 2) := by decide +kernel
theorem dX3_lower_133 : decode cX3_lower 133 = .ok (.iaload, 1) := by decide +kernel
theorem dX3_lower_134 : decode cX3_lower 134 = .ok (.iload_n 3, 1) := by decide +kernel
theorem dX3_lower_135 : decode cX3_lower 135 = .ok (.if_icmp .gt 7, 3) := by decide +kernel
theorem dX3_lower_138 : decode cX3_lower 138 = .ok (.iconst 1, 1) := by decide +kernel
theorem dX3_lower_139 : decode cX3_lower 139 = .ok (.goto 4, 3) := by decide +kernel
theorem dX3_lower_142 : decode cX3_lower 142 = .ok (.iconst 0, 1) := by decide +kernel
theorem dX3_lower_143 : decode cX3_lower 143 = .ok (.istore 5, 2) := by decide +kernel
theorem dX3_lower_145 : decode cX3_lower 145 = .ok (.aload_n 0, 1) := by decide +kernel
theorem dX3_lower_146 : decode cX3_lower 146 = .ok (.getfield 16, 3) := by decide +kernel
theorem dX3_lower_149 : decode cX3_lower 149 = .ok (.iload 4, 2) := by decide +kernel
theorem dX3_lower_151 : decode cX3_lower 151 = .ok (.iaload, 1) := by decide +kernel
theorem dX3_lower_152 : decode cX3_lower 152 = .ok (.iload_n 1, 1) := by decide +kernel
theorem dX3_lower_153 : decode cX3_lower 153 = .ok (.if_icmp .lt 29, 3) := by decide +kernel
theorem dX3_lower_156 : decode cX3_lower 156 = .ok (.aload_n 0, 1) := by decide +kernel
theorem dX3_lower_157 : decode cX3_lower 157 = .ok (.getfield 19, 3) := by decide +kernel
theorem dX3_lower_160 : decode cX3_lower 160 = .ok (.iload 4, 2) := by decide +kernel
theorem dX3_lower_162 : decode cX3_lower 162 = .ok (.iaload, 1) := by decide +kernel
theorem dX3_lower_163 : decode cX3_lower 163 = .ok (.iload_n 2, 1) := by decide +kernel
theorem dX3_lower_164 : decode cX3_lower 164 = .ok (.if_icmp .gt 18, 3) := by decide +kernel
theorem dX3_lower_167 : decode cX3_lower 167 = .ok (.aload_n 0, 1) := by decide +kernel
theorem dX3_lower_168 : decode cX3_lower 168 = .ok (.getfield 25, 3) := by decide +kernel
theorem dX3_lower_171 : decode cX3_lower 171 = .ok (.iload 4, 2) := by decide +kernel
theorem dX3_lower_173 : decode cX3_lower 173 = .ok (.iaload, 1) := by decide +kernel
theorem dX3_lower_174 : decode cX3_lower 174 = .ok (.iload_n 3, 1) := by decide +kernel
theorem dX3_lower_175 : decode cX3_lower 175 = .ok (.if_icmp .ge 7, 3) := by decide +kernel
theorem dX3_lower_178 : decode cX3_lower 178 = .ok (.iconst 1, 1) := by decide +kernel
theorem dX3_lower_179 : decode cX3_lower 179 = .ok (.goto 4, 3) := by decide +kernel
theorem dX3_lower_182 : decode cX3_lower 182 = .ok (.iconst 0, 1) := by decide +kernel
theorem dX3_lower_183 : decode cX3_lower 183 = .ok (.istore 6, 2) := by decide +kernel
theorem dX3_lower_185 : decode cX3_lower 185 = .ok (.iload 6, 2) := by decide +kernel
theorem dX3_lower_187 : decode cX3_lower 187 = .ok (.ifCond .ne 20, 3) := by decide +kernel
theorem dX3_lower_190 : decode cX3_lower 190 = .ok (.aload_n 0, 1) := by decide +kernel
theorem dX3_lower_191 : decode cX3_lower 191 = .ok (.getfield 16, 3) := by decide +kernel
theorem dX3_lower_194 : decode cX3_lower 194 = .ok (.iload 4, 2) := by decide +kernel
theorem dX3_lower_196 : decode cX3_lower 196 = .ok (.iaload, 1) := by decide +kernel
theorem dX3_lower_197 : decode cX3_lower 197 = .ok (.aload_n 0, 1) := by decide +kernel
theorem dX3_lower_198 : decode cX3_lower 198 = .ok (.getfield 19, 3) := by decide +kernel
theorem dX3_lower_201 : decode cX3_lower 201 = .ok (.iload 4, 2) := by decide +kernel
theorem dX3_lower_203 : decode cX3_lower 203 = .ok (.iaload, 1) := by decide +kernel
theorem dX3_lower_204 : decode cX3_lower 204 = .ok (.if_icmp .ne 7, 3) := by decide +kernel
theorem dX3_lower_207 : decode cX3_lower 207 = .ok (.iconst 1, 1) := by decide +kernel
theorem dX3_lower_208 : decode cX3_lower 208 = .ok (.goto 4, 3) := by decide +kernel
theorem dX3_lower_211 : decode cX3_lower 211 = .ok (.iconst 0, 1) := by decide +kernel
theorem dX3_lower_212 : decode cX3_lower 212 = .ok (.istore 6, 2) := by decide +kernel
theorem dX3_lower_214 : decode cX3_lower 214 = .ok (.iload 5, 2) := by decide +kernel
theorem dX3_lower_216 : decode cX3_lower 216 = .ok (.ifCond .ne 18, 3) := by decide +kernel
theorem dX3_lower_219 : decode cX3_lower 219 = .ok (.iload 6, 2) := by decide +kernel
theorem dX3_lower_221 : decode cX3_lower 221 = .ok (.ifCond .eq 13, 3) := by decide +kernel
theorem dX3_lower_224 : decode cX3_lower 224 = .ok (.aload_n 0, 1) := by decide +kernel
theorem dX3_lower_225 : decode cX3_lower 225 = .ok (.iload 4, 2) := by decide +kernel
theorem dX3_lower_227 : decode cX3_lower 227 = .ok (.iload_n 3, 1) := by decide +kernel
theorem dX3_lower_228 : decode cX3_lower 228 = .ok (.invokevirtual 74, 3) := by decide +kernel
theorem dX3_lower_231 : decode cX3_lower 231 = .ok (.goto 15, 3) := by decide +kernel
theorem dX3_lower_234 : decode cX3_lower 234 = .ok (.iload 5, 2) := by decide +kernel
theorem dX3_lower_236 : decode cX3_lower 236 = .ok (.ifCond .ne 10, 3) := by decide +kernel
theorem dX3_lower_239 : decode cX3_lower 239 = .ok (.aload_n 0, 1) := by decide +kernel
theorem dX3_lower_240 : decode cX3_lower 240 = .ok (.iload 4, 2) := by decide +kernel
theorem dX3_lower_242 : decode cX3_lower 242 = .ok (.iconst 1, 1) := by decide +kernel
theorem dX3_lower_243 : decode cX3_lower 243 = .ok (.invokevirtual 100, 3) := by decide +kernel
theorem dX3_lower_246 : decode cX3_lower 246 = .ok (.goto (-199), 3) := by decide +kernel
theorem dX3_lower_249 : decode cX3_lower 249 = .ok (.aload_n 0, 1) := by decide +kernel
theorem dX3_lower_250 : decode cX3_lower 250 = .ok (.iload_n 1, 1) := by decide +kernel
theorem dX3_lower_251 : decode cX3_lower 251 = .ok (.iload_n 2, 1) := by decide +kernel
theorem dX3_lower_252 : decode cX3_lower 252 = .ok (.iload_n 3, 1) := by decide +kernel
theorem dX3_lower_253 : decode cX3_lower 253 = .ok (.invokevirtual 104, 3) := by decide +kernel
theorem dX3_lower_256 : decode cX3_lower 256 = .ok (.istore 4, 2) := by decide +kernel
theorem dX3_lower_258 : decode cX3_lower 258 = .ok (.iload_n 1, 1) := by decide +kernel
theorem dX3_lower_259 : decode cX3_lower 259 = .ok (.istore 5, 2) := by decide +kernel
theorem dX3_lower_261 : decode cX3_lower 261 = .ok (.iload 5, 2) := by decide +kernel
theorem dX3_lower_263 : decode cX3_lower 263 = .ok (.iload_n 2, 1) := by decide +kernel
theorem dX3_lower_264 : decode cX3_lower 264 = .ok (.if_icmp .gt 78, 3) := by decide +kernel
theorem dX3_lower_267 : decode cX3_lower 267 = .ok (.aload_n 0, 1) := by decide +kernel
theorem dX3_lower_268 : decode cX3_lower 268 = .ok (.getfield 7, 3) := by decide +kernel
theorem dX3_lower_271 : decode cX3_lower 271 = .ok (.iload 5, 2) := by decide +kernel
theorem dX3_lower_273 : decode cX3_lower 273 = .ok (.aload_n 0, 1) := by decide +kernel
theorem dX3_lower_274 : decode cX3_lower 274 = .ok (.getfield 7, 3) := by decide +kernel
theorem dX3_lower_277 : decode cX3_lower 277 = .ok (.iload 5, 2) := by decide +kernel
theorem dX3_lower_279 : decode cX3_lower 279 = .ok (.iaload, 1) := by decide +kernel
theorem dX3_lower_280 : decode cX3_lower 280 = .ok (.iload_n 3, 1) := by decide +kernel
theorem dX3_lower_281 : decode cX3_lower 281 = .ok (.if_icmp .le 7, 3) := by decide +kernel
theorem dX3_lower_284 : decode cX3_lower 284 = .ok (.iload_n 3, 1) := by decide +kernel
theorem dX3_lower_285 : decode cX3_lower 285 = .ok (.goto 10, 3) := by decide +kernel
theorem dX3_lower_288 : decode cX3_lower 288 = .ok (.aload_n 0, 1) := by decide +kernel
theorem dX3_lower_289 : decode cX3_lower 289 = .ok (.getfield 7, 3) := by decide +kernel
theorem dX3_lower_292 : decode cX3_lower 292 = .ok (.iload 5, 2) := by decide +kernel
theorem dX3_lower_294 : decode cX3_lower 294 = .ok (.iaload, 1) := by decide +kernel
theorem dX3_lower_295 : decode cX3_lower 295 = .ok (.iastore, 1) := by decide +kernel
theorem dX3_lower_296 : decode cX3_lower 296 = .ok (.aload_n 0, 1) := by decide +kernel
theorem dX3_lower_297 : decode cX3_lower 297 = .ok (.getfield 13, 3) := by decide +kernel
theorem dX3_lower_300 : decode cX3_lower 300 = .ok (.iload 5, 2) := by decide +kernel
theorem dX3_lower_302 : decode cX3_lower 302 = .ok (.aload_n 0, 1) := by decide +kernel
theorem dX3_lower_303 : decode cX3_lower 303 = .ok (.getfield 13, 3) := by decide +kernel
theorem dX3_lower_306 : decode cX3_lower 306 = .ok (.iload 5, 2) := by decide +kernel
theorem dX3_lower_308 : decode cX3_lower 308 = .ok (.iaload, 1) := by decide +kernel
theorem dX3_lower_309 : decode cX3_lower 309 = .ok (.iconst (-1), 1) := by decide +kernel
theorem dX3_lower_310 : decode cX3_lower 310 = .ok (.if_icmp .eq 14, 3) := by decide +kernel
theorem dX3_lower_313 : decode cX3_lower 313 = .ok (.iload_n 3, 1) := by decide +kernel
theorem dX3_lower_314 : decode cX3_lower 314 = .ok (.aload_n 0, 1) := by decide +kernel
theorem dX3_lower_315 : decode cX3_lower 315 = .ok (.getfield 13, 3) := by decide +kernel
theorem dX3_lower_318 : decode cX3_lower 318 = .ok (.iload 5, 2) := by decide +kernel
theorem dX3_lower_320 : decode cX3_lower 320 = .ok (.iaload, 1) := by decide +kernel
theorem dX3_lower_321 : decode cX3_lower 321 = .ok (.if_icmp .ge 7, 3) := by decide +kernel
theorem dX3_lower_324 : decode cX3_lower 324 = .ok (.iload_n 3, 1) := by decide +kernel
theorem dX3_lower_325 : decode cX3_lower 325 = .ok (.goto 10, 3) := by decide +kernel
theorem dX3_lower_328 : decode cX3_lower 328 = .ok (.aload_n 0, 1) := by decide +kernel
theorem dX3_lower_329 : decode cX3_lower 329 = .ok (.getfield 13, 3) := by decide +kernel
theorem dX3_lower_332 : decode cX3_lower 332 = .ok (.iload 5, 2) := by decide +kernel
theorem dX3_lower_334 : decode cX3_lower 334 = .ok (.iaload, 1) := by decide +kernel
theorem dX3_lower_335 : decode cX3_lower 335 = .ok (.iastore, 1) := by decide +kernel
theorem dX3_lower_336 : decode cX3_lower 336 = .ok (.iinc 5 1, 3) := by decide +kernel
theorem dX3_lower_339 : decode cX3_lower 339 = .ok (.goto (-78), 3) := by decide +kernel
theorem dX3_lower_342 : decode cX3_lower 342 = .ok (.aload_n 0, 1) := by decide +kernel
theorem dX3_lower_343 : decode cX3_lower 343 = .ok (.dup, 1) := by decide +kernel
theorem dX3_lower_344 : decode cX3_lower 344 = .ok (.getfield 67, 3) := by decide +kernel
theorem dX3_lower_347 : decode cX3_lower 347 = .ok (.iload 4, 2) := by decide +kernel
theorem dX3_lower_349 : decode cX3_lower 349 = .ok (.iadd, 1) := by decide +kernel
theorem dX3_lower_350 : decode cX3_lower 350 = .ok (.putfield 67, 3) := by decide +kernel
theorem dX3_lower_353 : decode cX3_lower 353 = .ok (.iload 4, 2) := by decide +kernel
theorem dX3_lower_355 : decode cX3_lower 355 = .ok (.ireturn, 1) := by decide +kernel
set_option maxRecDepth 20000 in
theorem ggX3_asks_X3_begins : GoodIn wsX3_asks wsX3_begins := goodIn_r _ [11, 12, 13, 1, 2, 32, 33, 34, 35, 36, 37, 38, 39, 40, 41, 42, 43, 44, 45, 46, 47, 48, 49] (by decide +kernel) (by decide +kernel)
set_option maxRecDepth 20000 in
theorem gX3_asks_X3_begins : GoodIn wsX3_asks (wsV RX3 87 RX3 yX3_begins wsX3_begins) := goodIn_app (goodIn_of _ (by decide +kernel)) ggX3_asks_X3_begins
set_option maxRecDepth 20000 in
theorem ggX3_asks_X3_visited : GoodIn wsX3_asks wsX3_visited := goodIn_r _ [17, 12, 18, 32, 33, 34, 35, 36, 37, 38, 39, 40, 41, 42, 43, 44, 45, 46, 47, 48, 49] (by decide +kernel) (by decide +kernel)
set_option maxRecDepth 20000 in
theorem gX3_asks_X3_visited : GoodIn wsX3_asks (wsV RX3 90 RX3 yX3_visited wsX3_visited) := goodIn_app (goodIn_of _ (by decide +kernel)) ggX3_asks_X3_visited
set_option maxRecDepth 20000 in
theorem ggX3_asks_X3_goesBelow : GoodIn wsX3_asks wsX3_goesBelow := goodIn_r _ [22, 2, 1, 23, 24, 25, 10, 26, 6, 27, 28, 29, 30, 5, 31, 32, 33, 34, 35, 36, 37, 38, 39, 40, 41, 42, 43, 44, 45, 46, 47, 48, 49] (by decide +kernel) (by decide +kernel)
set_option maxRecDepth 20000 in
theorem gX3_asks_X3_goesBelow : GoodIn wsX3_asks (wsV RX3 100 RX3 yX3_goesBelow wsX3_goesBelow) := goodIn_app (goodIn_of _ (by decide +kernel)) ggX3_asks_X3_goesBelow
theorem dX3_asks_0 : decode cX3_asks 0 = .ok (.aload_n 0, 1) := by decide +kernel
theorem dX3_asks_1 : decode cX3_asks 1 = .ok (.invokevirtual 87, 3) := by decide +kernel
theorem dX3_asks_4 : decode cX3_asks 4 = .ok (.iconst 0, 1) := by decide +kernel
theorem dX3_asks_5 : decode cX3_asks 5 = .ok (.istore 4, 2) := by decide +kernel
theorem dX3_asks_7 : decode cX3_asks 7 = .ok (.aload_n 0, 1) := by decide +kernel
theorem dX3_asks_8 : decode cX3_asks 8 = .ok (.getfield 77, 3) := by decide +kernel
theorem dX3_asks_11 : decode cX3_asks 11 = .ok (.ifCond .le 147, 3) := by decide +kernel
theorem dX3_asks_14 : decode cX3_asks 14 = .ok (.aload_n 0, 1) := by decide +kernel
theorem dX3_asks_15 : decode cX3_asks 15 = .ok (.dup, 1) := by decide +kernel
theorem dX3_asks_16 : decode cX3_asks 16 = .ok (.getfield 77, 3) := by decide +kernel
theorem dX3_asks_19 : decode cX3_asks 19 = .ok (.iconst 1, 1) := by decide +kernel
theorem dX3_asks_20 : decode cX3_asks 20 = .ok (.isub, 1) := by decide +kernel
theorem dX3_asks_21 : decode cX3_asks 21 = .ok (.putfield 77, 3) := by decide +kernel
theorem dX3_asks_24 : decode cX3_asks 24 = .ok (.aload_n 0, 1) := by decide +kernel
theorem dX3_asks_25 : decode cX3_asks 25 = .ok (.getfield 34, 3) := by decide +kernel
theorem dX3_asks_28 : decode cX3_asks 28 = .ok (.aload_n 0, 1) := by decide +kernel
theorem dX3_asks_29 : decode cX3_asks 29 = .ok (.getfield 77, 3) := by decide +kernel
theorem dX3_asks_32 : decode cX3_asks 32 = .ok (.iaload, 1) := by decide +kernel
theorem dX3_asks_33 : decode cX3_asks 33 = .ok (.iconst 2, 1) := by decide +kernel
theorem dX3_asks_34 : decode cX3_asks 34 = .ok (.idiv, 1) := by decide +kernel
theorem dX3_asks_35 : decode cX3_asks 35 = .ok (.istore 5, 2) := by decide +kernel
theorem dX3_asks_37 : decode cX3_asks 37 = .ok (.aload_n 0, 1) := by decide +kernel
theorem dX3_asks_38 : decode cX3_asks 38 = .ok (.invokevirtual 90, 3) := by decide +kernel
theorem dX3_asks_41 : decode cX3_asks 41 = .ok (.aload_n 0, 1) := by decide +kernel
theorem dX3_asks_42 : decode cX3_asks 42 = .ok (.getfield 16, 3) := by decide +kernel
theorem dX3_asks_45 : decode cX3_asks 45 = .ok (.iload 5, 2) := by decide +kernel
theorem dX3_asks_47 : decode cX3_asks 47 = .ok (.iaload, 1) := by decide +kernel
theorem dX3_asks_48 : decode cX3_asks 48 = .ok (.iload_n 2, 1) := by decide +kernel
theorem dX3_asks_49 : decode cX3_asks 49 = .ok (.if_icmp .gt 14, 3) := by decide +kernel
theorem dX3_asks_52 : decode cX3_asks 52 = .ok (.aload_n 0, 1) := by decide +kernel
theorem dX3_asks_53 : decode cX3_asks 53 = .ok (.getfield 19, 3) := by decide +kernel
theorem dX3_asks_56 : decode cX3_asks 56 = .ok (.iload 5, 2) := by decide +kernel
theorem dX3_asks_58 : decode cX3_asks 58 = .ok (.iaload, 1) := by decide +kernel
theorem dX3_asks_59 : decode cX3_asks 59 = .ok (.iload_n 1, 1) := by decide +kernel
theorem dX3_asks_60 : decode cX3_asks 60 = .ok (.if_icmp .ge 7, 3) := by decide +kernel
theorem dX3_asks_63 : decode cX3_asks 63 = .ok (.iconst 1, 1) := by decide +kernel
theorem dX3_asks_64 : decode cX3_asks 64 = .ok (.goto 4, 3) := by decide +kernel
theorem dX3_asks_67 : decode cX3_asks 67 = .ok (.iconst 0, 1) := by decide +kernel
theorem dX3_asks_68 : decode cX3_asks 68 = .ok (.istore 6, 2) := by decide +kernel
theorem dX3_asks_70 : decode cX3_asks 70 = .ok (.iload 6, 2) := by decide +kernel
theorem dX3_asks_72 : decode cX3_asks 72 = .ok (.ifCond .ne 71, 3) := by decide +kernel
theorem dX3_asks_75 : decode cX3_asks 75 = .ok (.aload_n 0, 1) := by decide +kernel
theorem dX3_asks_76 : decode cX3_asks 76 = .ok (.getfield 16, 3) := by decide +kernel
theorem dX3_asks_79 : decode cX3_asks 79 = .ok (.iload 5, 2) := by decide +kernel
theorem dX3_asks_81 : decode cX3_asks 81 = .ok (.iaload, 1) := by decide +kernel
theorem dX3_asks_82 : decode cX3_asks 82 = .ok (.iload_n 1, 1) := by decide +kernel
theorem dX3_asks_83 : decode cX3_asks 83 = .ok (.if_icmp .lt 60, 3) := by decide +kernel
theorem dX3_asks_86 : decode cX3_asks 86 = .ok (.aload_n 0, 1) := by decide +kernel
theorem dX3_asks_87 : decode cX3_asks 87 = .ok (.getfield 19, 3) := by decide +kernel
theorem dX3_asks_90 : decode cX3_asks 90 = .ok (.iload 5, 2) := by decide +kernel
theorem dX3_asks_92 : decode cX3_asks 92 = .ok (.iaload, 1) := by decide +kernel
theorem dX3_asks_93 : decode cX3_asks 93 = .ok (.iload_n 2, 1) := by decide +kernel
theorem dX3_asks_94 : decode cX3_asks 94 = .ok (.if_icmp .gt 49, 3) := by decide +kernel
theorem dX3_asks_97 : decode cX3_asks 97 = .ok (.iload_n 3, 1) := by decide +kernel
theorem dX3_asks_98 : decode cX3_asks 98 = .ok (.ifCond .eq 16, 3) := by decide +kernel
theorem dX3_asks_101 : decode cX3_asks 101 = .ok (.iload 4, 2) := by decide +kernel
theorem dX3_asks_103 : decode cX3_asks 103 = .ok (.aload_n 0, 1) := by decide +kernel
theorem dX3_asks_104 : decode cX3_asks 104 = .ok (.getfield 31, 3) := by decide +kernel
theorem dX3_asks_107 : decode cX3_asks 107 = .ok (.iload 5, 2) := by decide +kernel
theorem dX3_asks_109 : decode cX3_asks 109 = .ok (.iaload, 1) := by decide +kernel
theorem dX3_asks_110 : decode cX3_asks 110 = .ok (.iadd, 1) := by decide +kernel
theorem dX3_asks_111 : decode cX3_asks 111 = .ok (.goto 27, 3) := by decide +kernel
theorem dX3_asks_114 : decode cX3_asks 114 = .ok (.aload_n 0, 1) := by decide +kernel
theorem dX3_asks_115 : decode cX3_asks 115 = .ok (.getfield 22, 3) := by decide +kernel
theorem dX3_asks_118 : decode cX3_asks 118 = .ok (.iload 5, 2) := by decide +kernel
theorem dX3_asks_120 : decode cX3_asks 120 = .ok (.iaload, 1) := by decide +kernel
theorem dX3_asks_121 : decode cX3_asks 121 = .ok (.iload 4, 2) := by decide +kernel
theorem dX3_asks_123 : decode cX3_asks 123 = .ok (.if_icmp .le 13, 3) := by decide +kernel
theorem dX3_asks_126 : decode cX3_asks 126 = .ok (.aload_n 0, 1) := by decide +kernel
theorem dX3_asks_127 : decode cX3_asks 127 = .ok (.getfield 22, 3) := by decide +kernel
theorem dX3_asks_130 : decode cX3_asks 130 = .ok (.iload 5, 2) := by decide +kernel
theorem dX3_asks_132 : decode cX3_asks 132 = .ok (.iaload, 1) := by decide +kernel
theorem dX3_asks_133 : decode cX3_asks 133 = .ok (.goto 5, 3) := by decide +kernel
theorem dX3_asks_136 : decode cX3_asks 136 = .ok (.iload 4, 2) := by decide +kernel
theorem dX3_asks_138 : decode cX3_asks 138 = .ok (.istore 4, 2) := by decide +kernel
theorem dX3_asks_140 : decode cX3_asks 140 = .ok (.goto 15, 3) := by decide +kernel
theorem dX3_asks_143 : decode cX3_asks 143 = .ok (.iload 6, 2) := by decide +kernel
theorem dX3_asks_145 : decode cX3_asks 145 = .ok (.ifCond .ne 10, 3) := by decide +kernel
theorem dX3_asks_148 : decode cX3_asks 148 = .ok (.aload_n 0, 1) := by decide +kernel
theorem dX3_asks_149 : decode cX3_asks 149 = .ok (.iload 5, 2) := by decide +kernel
theorem dX3_asks_151 : decode cX3_asks 151 = .ok (.iconst 0, 1) := by decide +kernel
theorem dX3_asks_152 : decode cX3_asks 152 = .ok (.invokevirtual 100, 3) := by decide +kernel
theorem dX3_asks_155 : decode cX3_asks 155 = .ok (.goto (-148), 3) := by decide +kernel
theorem dX3_asks_158 : decode cX3_asks 158 = .ok (.iload 4, 2) := by decide +kernel
theorem dX3_asks_160 : decode cX3_asks 160 = .ok (.ireturn, 1) := by decide +kernel
set_option maxRecDepth 20000 in
theorem ggX3_earth_X3_isRange : GoodIn wsX3_earth wsX3_isRange := goodIn_r _ [5, 6, 7, 8, 4, 9, 10, 11, 12, 13, 53, 54, 55, 56, 57, 58, 59, 60, 61, 62, 63, 64, 65, 66, 67, 68, 69, 70] (by decide +kernel) (by decide +kernel)
set_option maxRecDepth 20000 in
theorem gX3_earth_X3_isRange : GoodIn wsX3_earth (wsV RX3 96 RX3 yX3_isRange wsX3_isRange) := goodIn_app (goodIn_of _ (by decide +kernel)) ggX3_earth_X3_isRange
set_option maxRecDepth 20000 in
theorem ggX3_earth_X3_isFine : GoodIn wsX3_earth wsX3_isFine := goodIn_r _ [17, 18, 53, 54, 55, 56, 57, 58, 59, 60, 61, 62, 63, 64, 65, 66, 67, 68, 69, 70] (by decide +kernel) (by decide +kernel)
set_option maxRecDepth 20000 in
theorem gX3_earth_X3_isFine : GoodIn wsX3_earth (wsV RX3 70 RX3 yX3_isFine wsX3_isFine) := goodIn_app (goodIn_of _ (by decide +kernel)) ggX3_earth_X3_isFine
set_option maxRecDepth 20000 in
theorem ggX3_earth_X3_asks : GoodIn wsX3_earth wsX3_asks := goodIn_r _ [22, 23, 24, 25, 26, 27, 28, 29, 30, 31, 4, 32, 33, 34, 35, 36, 37, 38, 39, 40, 41, 42, 43, 44, 45, 46, 47, 48, 49, 50, 51, 52, 53, 54, 55, 56, 57, 58, 59, 60, 61, 62, 63, 64, 65, 66, 67, 68, 69, 70] (by decide +kernel) (by decide +kernel)
set_option maxRecDepth 20000 in
theorem gX3_earth_X3_asks : GoodIn wsX3_earth (wsV RX3 108 RX3 yX3_asks wsX3_asks) := goodIn_app (goodIn_of _ (by decide +kernel)) ggX3_earth_X3_asks
theorem dX3_earth_0 : decode cX3_earth 0 = .ok (.aload_n 0, 1) := by decide +kernel
theorem dX3_earth_1 : decode cX3_earth 1 = .ok (.aload_n 0, 1) := by decide +kernel
theorem dX3_earth_2 : decode cX3_earth 2 = .ok (.iload_n 1, 1) := by decide +kernel
theorem dX3_earth_3 : decode cX3_earth 3 = .ok (.iload_n 2, 1) := by decide +kernel
theorem dX3_earth_4 : decode cX3_earth 4 = .ok (.invokevirtual 96, 3) := by decide +kernel
theorem dX3_earth_7 : decode cX3_earth 7 = .ok (.ifCond .ne 7, 3) := by decide +kernel
theorem dX3_earth_10 : decode cX3_earth 10 = .ok (.iconst 1, 1) := by decide +kernel
theorem dX3_earth_11 : decode cX3_earth 11 = .ok (.goto 13, 3) := by decide +kernel
theorem dX3_earth_14 : decode cX3_earth 14 = .ok (.iload_n 2, 1) := by decide +kernel
theorem dX3_earth_15 : decode cX3_earth 15 = .ok (.iload_n 1, 1) := by decide +kernel
theorem dX3_earth_16 : decode cX3_earth 16 = .ok (.if_icmp .ge 7, 3) := by decide +kernel
theorem dX3_earth_19 : decode cX3_earth 19 = .ok (.iconst 2, 1) := by decide +kernel
theorem dX3_earth_20 : decode cX3_earth 20 = .ok (.goto 4, 3) := by decide +kernel
theorem dX3_earth_23 : decode cX3_earth 23 = .ok (.iconst 0, 1) := by decide +kernel
theorem dX3_earth_24 : decode cX3_earth 24 = .ok (.invokevirtual 70, 3) := by decide +kernel
theorem dX3_earth_27 : decode cX3_earth 27 = .ok (.ifCond .eq 13, 3) := by decide +kernel
theorem dX3_earth_30 : decode cX3_earth 30 = .ok (.aload_n 0, 1) := by decide +kernel
theorem dX3_earth_31 : decode cX3_earth 31 = .ok (.iload_n 1, 1) := by decide +kernel
theorem dX3_earth_32 : decode cX3_earth 32 = .ok (.iload_n 2, 1) := by decide +kernel
theorem dX3_earth_33 : decode cX3_earth 33 = .ok (.iconst 1, 1) := by decide +kernel
theorem dX3_earth_34 : decode cX3_earth 34 = .ok (.invokevirtual 108, 3) := by decide +kernel
theorem dX3_earth_37 : decode cX3_earth 37 = .ok (.goto 4, 3) := by decide +kernel
theorem dX3_earth_40 : decode cX3_earth 40 = .ok (.iconst 0, 1) := by decide +kernel
theorem dX3_earth_41 : decode cX3_earth 41 = .ok (.ireturn, 1) := by decide +kernel
set_option maxRecDepth 20000 in
theorem ggX3_earthByColumns_X3_isRange : GoodIn wsX3_earthByColumns wsX3_isRange := goodIn_r _ [5, 6, 7, 8, 4, 9, 10, 11, 12, 13, 24, 25, 26, 27, 28, 29, 30, 31, 32, 33, 34, 35, 36, 37, 38, 39, 40, 41] (by decide +kernel) (by decide +kernel)
set_option maxRecDepth 20000 in
theorem gX3_earthByColumns_X3_isRange : GoodIn wsX3_earthByColumns (wsV RX3 96 RX3 yX3_isRange wsX3_isRange) := goodIn_app (goodIn_of _ (by decide +kernel)) ggX3_earthByColumns_X3_isRange
set_option maxRecDepth 20000 in
theorem ggX3_earthByColumns_X3_isFine : GoodIn wsX3_earthByColumns wsX3_isFine := goodIn_r _ [17, 18, 24, 25, 26, 27, 28, 29, 30, 31, 32, 33, 34, 35, 36, 37, 38, 39, 40, 41] (by decide +kernel) (by decide +kernel)
set_option maxRecDepth 20000 in
theorem gX3_earthByColumns_X3_isFine : GoodIn wsX3_earthByColumns (wsV RX3 70 RX3 yX3_isFine wsX3_isFine) := goodIn_app (goodIn_of _ (by decide +kernel)) ggX3_earthByColumns_X3_isFine
set_option maxRecDepth 20000 in
theorem ggX3_earthByColumns_X3_presses : GoodIn wsX3_earthByColumns wsX3_presses := goodIn_r _ [22, 23, 24, 25, 26, 27, 28, 29, 30, 31, 32, 33, 34, 35, 36, 37, 38, 39, 40, 41] (by decide +kernel) (by decide +kernel)
set_option maxRecDepth 20000 in
theorem gX3_earthByColumns_X3_presses : GoodIn wsX3_earthByColumns (wsV RX3 104 RX3 yX3_presses wsX3_presses) := goodIn_app (goodIn_of _ (by decide +kernel)) ggX3_earthByColumns_X3_presses
theorem dX3_earthByColumns_0 : decode cX3_earthByColumns 0 = .ok (.aload_n 0, 1) := by decide +kernel
theorem dX3_earthByColumns_1 : decode cX3_earthByColumns 1 = .ok (.aload_n 0, 1) := by decide +kernel
theorem dX3_earthByColumns_2 : decode cX3_earthByColumns 2 = .ok (.iload_n 1, 1) := by decide +kernel
theorem dX3_earthByColumns_3 : decode cX3_earthByColumns 3 = .ok (.iload_n 2, 1) := by decide +kernel
theorem dX3_earthByColumns_4 : decode cX3_earthByColumns 4 = .ok (.invokevirtual 96, 3) := by decide +kernel
theorem dX3_earthByColumns_7 : decode cX3_earthByColumns 7 = .ok (.ifCond .ne 7, 3) := by decide +kernel
theorem dX3_earthByColumns_10 : decode cX3_earthByColumns 10 = .ok (.iconst 1, 1) := by decide +kernel
theorem dX3_earthByColumns_11 : decode cX3_earthByColumns 11 = .ok (.goto 13, 3) := by decide +kernel
theorem dX3_earthByColumns_14 : decode cX3_earthByColumns 14 = .ok (.iload_n 2, 1) := by decide +kernel
theorem dX3_earthByColumns_15 : decode cX3_earthByColumns 15 = .ok (.iload_n 1, 1) := by decide +kernel
theorem dX3_earthByColumns_16 : decode cX3_earthByColumns 16 = .ok (.if_icmp .ge 7, 3) := by decide +kernel
theorem dX3_earthByColumns_19 : decode cX3_earthByColumns 19 = .ok (.iconst 2, 1) := by decide +kernel
theorem dX3_earthByColumns_20 : decode cX3_earthByColumns 20 = .ok (.goto 4, 3) := by decide +kernel
theorem dX3_earthByColumns_23 : decode cX3_earthByColumns 23 = .ok (.iconst 0, 1) := by decide +kernel
theorem dX3_earthByColumns_24 : decode cX3_earthByColumns 24 = .ok (.invokevirtual 70, 3) := by decide +kernel
theorem dX3_earthByColumns_27 : decode cX3_earthByColumns 27 = .ok (.ifCond .eq 13, 3) := by decide +kernel
theorem dX3_earthByColumns_30 : decode cX3_earthByColumns 30 = .ok (.aload_n 0, 1) := by decide +kernel
theorem dX3_earthByColumns_31 : decode cX3_earthByColumns 31 = .ok (.iload_n 1, 1) := by decide +kernel
theorem dX3_earthByColumns_32 : decode cX3_earthByColumns 32 = .ok (.iload_n 2, 1) := by decide +kernel
theorem dX3_earthByColumns_33 : decode cX3_earthByColumns 33 = .ok (.iconst 0, 1) := by decide +kernel
theorem dX3_earthByColumns_34 : decode cX3_earthByColumns 34 = .ok (.invokevirtual 104, 3) := by decide +kernel
theorem dX3_earthByColumns_37 : decode cX3_earthByColumns 37 = .ok (.goto 4, 3) := by decide +kernel
theorem dX3_earthByColumns_40 : decode cX3_earthByColumns 40 = .ok (.iconst 0, 1) := by decide +kernel
theorem dX3_earthByColumns_41 : decode cX3_earthByColumns 41 = .ok (.ireturn, 1) := by decide +kernel
set_option maxRecDepth 20000 in
theorem ggX3_top_X3_isRange : GoodIn wsX3_top wsX3_isRange := goodIn_r _ [5, 6, 7, 8, 4, 9, 10, 11, 12, 13, 53, 54, 55, 56, 57, 58, 59, 60, 61, 62, 63, 64, 65, 66, 67, 68, 69, 70] (by decide +kernel) (by decide +kernel)
set_option maxRecDepth 20000 in
theorem gX3_top_X3_isRange : GoodIn wsX3_top (wsV RX3 96 RX3 yX3_isRange wsX3_isRange) := goodIn_app (goodIn_of _ (by decide +kernel)) ggX3_top_X3_isRange
set_option maxRecDepth 20000 in
theorem ggX3_top_X3_isFine : GoodIn wsX3_top wsX3_isFine := goodIn_r _ [17, 18, 53, 54, 55, 56, 57, 58, 59, 60, 61, 62, 63, 64, 65, 66, 67, 68, 69, 70] (by decide +kernel) (by decide +kernel)
set_option maxRecDepth 20000 in
theorem gX3_top_X3_isFine : GoodIn wsX3_top (wsV RX3 70 RX3 yX3_isFine wsX3_isFine) := goodIn_app (goodIn_of _ (by decide +kernel)) ggX3_top_X3_isFine
set_option maxRecDepth 20000 in
theorem ggX3_top_X3_asks : GoodIn wsX3_top wsX3_asks := goodIn_r _ [22, 23, 24, 25, 26, 27, 28, 29, 30, 31, 4, 32, 33, 34, 35, 36, 37, 38, 39, 40, 41, 42, 43, 44, 45, 46, 47, 48, 49, 50, 51, 52, 53, 54, 55, 56, 57, 58, 59, 60, 61, 62, 63, 64, 65, 66, 67, 68, 69, 70] (by decide +kernel) (by decide +kernel)
set_option maxRecDepth 20000 in
theorem gX3_top_X3_asks : GoodIn wsX3_top (wsV RX3 108 RX3 yX3_asks wsX3_asks) := goodIn_app (goodIn_of _ (by decide +kernel)) ggX3_top_X3_asks
theorem dX3_top_0 : decode cX3_top 0 = .ok (.aload_n 0, 1) := by decide +kernel
theorem dX3_top_1 : decode cX3_top 1 = .ok (.aload_n 0, 1) := by decide +kernel
theorem dX3_top_2 : decode cX3_top 2 = .ok (.iload_n 1, 1) := by decide +kernel
theorem dX3_top_3 : decode cX3_top 3 = .ok (.iload_n 2, 1) := by decide +kernel
theorem dX3_top_4 : decode cX3_top 4 = .ok (.invokevirtual 96, 3) := by decide +kernel
theorem dX3_top_7 : decode cX3_top 7 = .ok (.ifCond .ne 7, 3) := by decide +kernel
theorem dX3_top_10 : decode cX3_top 10 = .ok (.iconst 1, 1) := by decide +kernel
theorem dX3_top_11 : decode cX3_top 11 = .ok (.goto 13, 3) := by decide +kernel
theorem dX3_top_14 : decode cX3_top 14 = .ok (.iload_n 2, 1) := by decide +kernel
theorem dX3_top_15 : decode cX3_top 15 = .ok (.iload_n 1, 1) := by decide +kernel
theorem dX3_top_16 : decode cX3_top 16 = .ok (.if_icmp .ge 7, 3) := by decide +kernel
theorem dX3_top_19 : decode cX3_top 19 = .ok (.iconst 2, 1) := by decide +kernel
theorem dX3_top_20 : decode cX3_top 20 = .ok (.goto 4, 3) := by decide +kernel
theorem dX3_top_23 : decode cX3_top 23 = .ok (.iconst 0, 1) := by decide +kernel
theorem dX3_top_24 : decode cX3_top 24 = .ok (.invokevirtual 70, 3) := by decide +kernel
theorem dX3_top_27 : decode cX3_top 27 = .ok (.ifCond .eq 13, 3) := by decide +kernel
theorem dX3_top_30 : decode cX3_top 30 = .ok (.aload_n 0, 1) := by decide +kernel
theorem dX3_top_31 : decode cX3_top 31 = .ok (.iload_n 1, 1) := by decide +kernel
theorem dX3_top_32 : decode cX3_top 32 = .ok (.iload_n 2, 1) := by decide +kernel
theorem dX3_top_33 : decode cX3_top 33 = .ok (.iconst 0, 1) := by decide +kernel
theorem dX3_top_34 : decode cX3_top 34 = .ok (.invokevirtual 108, 3) := by decide +kernel
theorem dX3_top_37 : decode cX3_top 37 = .ok (.goto 4, 3) := by decide +kernel
theorem dX3_top_40 : decode cX3_top 40 = .ok (.iconst 0, 1) := by decide +kernel
theorem dX3_top_41 : decode cX3_top 41 = .ok (.ireturn, 1) := by decide +kernel
set_option maxRecDepth 20000 in
theorem ggX3_height_X3_isColumn : GoodIn wsX3_height wsX3_isColumn := goodIn_r _ [6, 7, 8, 9, 5, 10, 16, 17, 18, 19, 20, 21, 22, 23, 24, 25, 26, 27, 28, 29, 30, 31, 32, 33] (by decide +kernel) (by decide +kernel)
set_option maxRecDepth 20000 in
theorem gX3_height_X3_isColumn : GoodIn wsX3_height (wsV RX3 84 RX3 yX3_isColumn wsX3_isColumn) := goodIn_app (goodIn_of _ (by decide +kernel)) ggX3_height_X3_isColumn
set_option maxRecDepth 20000 in
theorem ggX3_height_X3_isFine : GoodIn wsX3_height wsX3_isFine := goodIn_r _ [14, 15, 16, 17, 18, 19, 20, 21, 22, 23, 24, 25, 26, 27, 28, 29, 30, 31, 32, 33] (by decide +kernel) (by decide +kernel)
set_option maxRecDepth 20000 in
theorem gX3_height_X3_isFine : GoodIn wsX3_height (wsV RX3 70 RX3 yX3_isFine wsX3_isFine) := goodIn_app (goodIn_of _ (by decide +kernel)) ggX3_height_X3_isFine
theorem dX3_height_0 : decode cX3_height 0 = .ok (.aload_n 0, 1) := by decide +kernel
theorem dX3_height_1 : decode cX3_height 1 = .ok (.aload_n 0, 1) := by decide +kernel
theorem dX3_height_2 : decode cX3_height 2 = .ok (.iload_n 1, 1) := by decide +kernel
theorem dX3_height_3 : decode cX3_height 3 = .ok (.invokevirtual 84, 3) := by decide +kernel
theorem dX3_height_6 : decode cX3_height 6 = .ok (.ifCond .eq 7, 3) := by decide +kernel
theorem dX3_height_9 : decode cX3_height 9 = .ok (.iconst 0, 1) := by decide +kernel
theorem dX3_height_10 : decode cX3_height 10 = .ok (.goto 4, 3) := by decide +kernel
theorem dX3_height_13 : decode cX3_height 13 = .ok (.iconst 1, 1) := by decide +kernel
theorem dX3_height_14 : decode cX3_height 14 = .ok (.invokevirtual 70, 3) := by decide +kernel
theorem dX3_height_17 : decode cX3_height 17 = .ok (.ifCond .eq 12, 3) := by decide +kernel
theorem dX3_height_20 : decode cX3_height 20 = .ok (.aload_n 0, 1) := by decide +kernel
theorem dX3_height_21 : decode cX3_height 21 = .ok (.getfield 7, 3) := by decide +kernel
theorem dX3_height_24 : decode cX3_height 24 = .ok (.iload_n 1, 1) := by decide +kernel
theorem dX3_height_25 : decode cX3_height 25 = .ok (.iaload, 1) := by decide +kernel
theorem dX3_height_26 : decode cX3_height 26 = .ok (.goto 4, 3) := by decide +kernel
theorem dX3_height_29 : decode cX3_height 29 = .ok (.iconst 0, 1) := by decide +kernel
theorem dX3_height_30 : decode cX3_height 30 = .ok (.ireturn, 1) := by decide +kernel
set_option maxRecDepth 20000 in
theorem ggX3_heightOfColumn_X3_isColumn : GoodIn wsX3_heightOfColumn wsX3_isColumn := goodIn_r _ [6, 7, 8, 9, 5, 10, 16, 17, 18, 19, 20, 21, 22, 23, 24, 25, 26, 27, 28, 29, 30, 31, 32, 33] (by decide +kernel) (by decide +kernel)
set_option maxRecDepth 20000 in
theorem gX3_heightOfColumn_X3_isColumn : GoodIn wsX3_heightOfColumn (wsV RX3 84 RX3 yX3_isColumn wsX3_isColumn) := goodIn_app (goodIn_of _ (by decide +kernel)) ggX3_heightOfColumn_X3_isColumn
set_option maxRecDepth 20000 in
theorem ggX3_heightOfColumn_X3_isFine : GoodIn wsX3_heightOfColumn wsX3_isFine := goodIn_r _ [14, 15, 16, 17, 18, 19, 20, 21, 22, 23, 24, 25, 26, 27, 28, 29, 30, 31, 32, 33] (by decide +kernel) (by decide +kernel)
set_option maxRecDepth 20000 in
theorem gX3_heightOfColumn_X3_isFine : GoodIn wsX3_heightOfColumn (wsV RX3 70 RX3 yX3_isFine wsX3_isFine) := goodIn_app (goodIn_of _ (by decide +kernel)) ggX3_heightOfColumn_X3_isFine
theorem dX3_heightOfColumn_0 : decode cX3_heightOfColumn 0 = .ok (.aload_n 0, 1) := by decide +kernel
theorem dX3_heightOfColumn_1 : decode cX3_heightOfColumn 1 = .ok (.aload_n 0, 1) := by decide +kernel
theorem dX3_heightOfColumn_2 : decode cX3_heightOfColumn 2 = .ok (.iload_n 1, 1) := by decide +kernel
theorem dX3_heightOfColumn_3 : decode cX3_heightOfColumn 3 = .ok (.invokevirtual 84, 3) := by decide +kernel
theorem dX3_heightOfColumn_6 : decode cX3_heightOfColumn 6 = .ok (.ifCond .eq 7, 3) := by decide +kernel
theorem dX3_heightOfColumn_9 : decode cX3_heightOfColumn 9 = .ok (.iconst 0, 1) := by decide +kernel
theorem dX3_heightOfColumn_10 : decode cX3_heightOfColumn 10 = .ok (.goto 4, 3) := by decide +kernel
theorem dX3_heightOfColumn_13 : decode cX3_heightOfColumn 13 = .ok (.iconst 1, 1) := by decide +kernel
theorem dX3_heightOfColumn_14 : decode cX3_heightOfColumn 14 = .ok (.invokevirtual 70, 3) := by decide +kernel
theorem dX3_heightOfColumn_17 : decode cX3_heightOfColumn 17 = .ok (.ifCond .eq 12, 3) := by decide +kernel
theorem dX3_heightOfColumn_20 : decode cX3_heightOfColumn 20 = .ok (.aload_n 0, 1) := by decide +kernel
theorem dX3_heightOfColumn_21 : decode cX3_heightOfColumn 21 = .ok (.getfield 7, 3) := by decide +kernel
theorem dX3_heightOfColumn_24 : decode cX3_heightOfColumn 24 = .ok (.iload_n 1, 1) := by decide +kernel
theorem dX3_heightOfColumn_25 : decode cX3_heightOfColumn 25 = .ok (.iaload, 1) := by decide +kernel
theorem dX3_heightOfColumn_26 : decode cX3_heightOfColumn 26 = .ok (.goto 4, 3) := by decide +kernel
theorem dX3_heightOfColumn_29 : decode cX3_heightOfColumn 29 = .ok (.iconst 0, 1) := by decide +kernel
theorem dX3_heightOfColumn_30 : decode cX3_heightOfColumn 30 = .ok (.ireturn, 1) := by decide +kernel
set_option maxRecDepth 20000 in
theorem ggX3_wouldPress_X3_isRange : GoodIn wsX3_wouldPress wsX3_isRange := goodIn_r _ [5, 6, 7, 8, 4, 9, 10, 11, 12, 13, 24, 25, 26, 27, 28, 29, 30, 31, 32, 33, 34, 35, 36, 37, 38, 39, 40, 41] (by decide +kernel) (by decide +kernel)
set_option maxRecDepth 20000 in
theorem gX3_wouldPress_X3_isRange : GoodIn wsX3_wouldPress (wsV RX3 96 RX3 yX3_isRange wsX3_isRange) := goodIn_app (goodIn_of _ (by decide +kernel)) ggX3_wouldPress_X3_isRange
set_option maxRecDepth 20000 in
theorem ggX3_wouldPress_X3_in : GoodIn wsX3_wouldPress wsX3_in := goodIn_r _ [13] (by decide +kernel) (by decide +kernel)
set_option maxRecDepth 20000 in
theorem gX3_wouldPress_X3_in : GoodIn wsX3_wouldPress (va_wsS RX3 48 yX3_in wsX3_in) := goodIn_app (goodIn_of _ (by decide +kernel)) ggX3_wouldPress_X3_in
set_option maxRecDepth 20000 in
theorem ggX3_wouldPress_X3_isFine : GoodIn wsX3_wouldPress wsX3_isFine := goodIn_r _ [17, 18, 24, 25, 26, 27, 28, 29, 30, 31, 32, 33, 34, 35, 36, 37, 38, 39, 40, 41] (by decide +kernel) (by decide +kernel)
set_option maxRecDepth 20000 in
theorem gX3_wouldPress_X3_isFine : GoodIn wsX3_wouldPress (wsV RX3 70 RX3 yX3_isFine wsX3_isFine) := goodIn_app (goodIn_of _ (by decide +kernel)) ggX3_wouldPress_X3_isFine
set_option maxRecDepth 20000 in
theorem ggX3_wouldPress_X3_presses : GoodIn wsX3_wouldPress wsX3_presses := goodIn_r _ [22, 23, 24, 25, 26, 27, 28, 29, 30, 31, 32, 33, 34, 35, 36, 37, 38, 39, 40, 41] (by decide +kernel) (by decide +kernel)
set_option maxRecDepth 20000 in
theorem gX3_wouldPress_X3_presses : GoodIn wsX3_wouldPress (wsV RX3 104 RX3 yX3_presses wsX3_presses) := goodIn_app (goodIn_of _ (by decide +kernel)) ggX3_wouldPress_X3_presses
theorem dX3_wouldPress_0 : decode cX3_wouldPress 0 = .ok (.aload_n 0, 1) := by decide +kernel
theorem dX3_wouldPress_1 : decode cX3_wouldPress 1 = .ok (.aload_n 0, 1) := by decide +kernel
theorem dX3_wouldPress_2 : decode cX3_wouldPress 2 = .ok (.iload_n 1, 1) := by decide +kernel
theorem dX3_wouldPress_3 : decode cX3_wouldPress 3 = .ok (.iload_n 2, 1) := by decide +kernel
theorem dX3_wouldPress_4 : decode cX3_wouldPress 4 = .ok (.invokevirtual 96, 3) := by decide +kernel
theorem dX3_wouldPress_7 : decode cX3_wouldPress 7 = .ok (.ifCond .ne 7, 3) := by decide +kernel
theorem dX3_wouldPress_10 : decode cX3_wouldPress 10 = .ok (.iconst 1, 1) := by decide +kernel
theorem dX3_wouldPress_11 : decode cX3_wouldPress 11 = .ok (.goto 24, 3) := by decide +kernel
theorem dX3_wouldPress_14 : decode cX3_wouldPress 14 = .ok (.iload_n 2, 1) := by decide +kernel
theorem dX3_wouldPress_15 : decode cX3_wouldPress 15 = .ok (.iload_n 1, 1) := by decide +kernel
theorem dX3_wouldPress_16 : decode cX3_wouldPress 16 = .ok (.if_icmp .lt 14, 3) := by decide +kernel
theorem dX3_wouldPress_19 : decode cX3_wouldPress 19 = .ok (.iload_n 3, 1) := by decide +kernel
theorem dX3_wouldPress_20 : decode cX3_wouldPress 20 = .ok (.iconst 0, 1) := by decide +kernel
theorem dX3_wouldPress_21 : decode cX3_wouldPress 21 = .ok (.sipush 1000, 3) := by decide +kernel
theorem dX3_wouldPress_24 : decode cX3_wouldPress 24 = .ok (.invokestatic 48, 3) := by decide +kernel
theorem dX3_wouldPress_27 : decode cX3_wouldPress 27 = .ok (.ifCond .ne 7, 3) := by decide +kernel
theorem dX3_wouldPress_30 : decode cX3_wouldPress 30 = .ok (.iconst 2, 1) := by decide +kernel
theorem dX3_wouldPress_31 : decode cX3_wouldPress 31 = .ok (.goto 4, 3) := by decide +kernel
theorem dX3_wouldPress_34 : decode cX3_wouldPress 34 = .ok (.iconst 0, 1) := by decide +kernel
theorem dX3_wouldPress_35 : decode cX3_wouldPress 35 = .ok (.invokevirtual 70, 3) := by decide +kernel
theorem dX3_wouldPress_38 : decode cX3_wouldPress 38 = .ok (.ifCond .eq 13, 3) := by decide +kernel
theorem dX3_wouldPress_41 : decode cX3_wouldPress 41 = .ok (.aload_n 0, 1) := by decide +kernel
theorem dX3_wouldPress_42 : decode cX3_wouldPress 42 = .ok (.iload_n 1, 1) := by decide +kernel
theorem dX3_wouldPress_43 : decode cX3_wouldPress 43 = .ok (.iload_n 2, 1) := by decide +kernel
theorem dX3_wouldPress_44 : decode cX3_wouldPress 44 = .ok (.iload_n 3, 1) := by decide +kernel
theorem dX3_wouldPress_45 : decode cX3_wouldPress 45 = .ok (.invokevirtual 104, 3) := by decide +kernel
theorem dX3_wouldPress_48 : decode cX3_wouldPress 48 = .ok (.goto 4, 3) := by decide +kernel
theorem dX3_wouldPress_51 : decode cX3_wouldPress 51 = .ok (.iconst 0, 1) := by decide +kernel
theorem dX3_wouldPress_52 : decode cX3_wouldPress 52 = .ok (.ireturn, 1) := by decide +kernel
set_option maxRecDepth 20000 in
theorem ggX3_ceilingFor_X3_isRange : GoodIn wsX3_ceilingFor wsX3_isRange := goodIn_r _ [6, 7, 8, 9, 5, 10, 11, 12, 13, 14, 25, 26, 27, 28, 29, 30, 31, 32, 33, 34, 35, 36, 37, 38, 39, 40, 41, 42] (by decide +kernel) (by decide +kernel)
set_option maxRecDepth 20000 in
theorem gX3_ceilingFor_X3_isRange : GoodIn wsX3_ceilingFor (wsV RX3 96 RX3 yX3_isRange wsX3_isRange) := goodIn_app (goodIn_of _ (by decide +kernel)) ggX3_ceilingFor_X3_isRange
set_option maxRecDepth 20000 in
theorem ggX3_ceilingFor_X3_in : GoodIn wsX3_ceilingFor wsX3_in := goodIn_r _ [14] (by decide +kernel) (by decide +kernel)
set_option maxRecDepth 20000 in
theorem gX3_ceilingFor_X3_in : GoodIn wsX3_ceilingFor (va_wsS RX3 48 yX3_in wsX3_in) := goodIn_app (goodIn_of _ (by decide +kernel)) ggX3_ceilingFor_X3_in
set_option maxRecDepth 20000 in
theorem ggX3_ceilingFor_X3_isFine : GoodIn wsX3_ceilingFor wsX3_isFine := goodIn_r _ [18, 19, 25, 26, 27, 28, 29, 30, 31, 32, 33, 34, 35, 36, 37, 38, 39, 40, 41, 42] (by decide +kernel) (by decide +kernel)
set_option maxRecDepth 20000 in
theorem gX3_ceilingFor_X3_isFine : GoodIn wsX3_ceilingFor (wsV RX3 70 RX3 yX3_isFine wsX3_isFine) := goodIn_app (goodIn_of _ (by decide +kernel)) ggX3_ceilingFor_X3_isFine
set_option maxRecDepth 20000 in
theorem ggX3_ceilingFor_X3_presses : GoodIn wsX3_ceilingFor wsX3_presses := goodIn_r _ [23, 24, 25, 26, 27, 28, 29, 30, 31, 32, 33, 34, 35, 36, 37, 38, 39, 40, 41, 42] (by decide +kernel) (by decide +kernel)
set_option maxRecDepth 20000 in
theorem gX3_ceilingFor_X3_presses : GoodIn wsX3_ceilingFor (wsV RX3 104 RX3 yX3_presses wsX3_presses) := goodIn_app (goodIn_of _ (by decide +kernel)) ggX3_ceilingFor_X3_presses
theorem dX3_ceilingFor_0 : decode cX3_ceilingFor 0 = .ok (.aload_n 0, 1) := by decide +kernel
theorem dX3_ceilingFor_1 : decode cX3_ceilingFor 1 = .ok (.aload_n 0, 1) := by decide +kernel
theorem dX3_ceilingFor_2 : decode cX3_ceilingFor 2 = .ok (.iload_n 1, 1) := by decide +kernel
theorem dX3_ceilingFor_3 : decode cX3_ceilingFor 3 = .ok (.iload_n 2, 1) := by decide +kernel
theorem dX3_ceilingFor_4 : decode cX3_ceilingFor 4 = .ok (.invokevirtual 96, 3) := by decide +kernel
theorem dX3_ceilingFor_7 : decode cX3_ceilingFor 7 = .ok (.ifCond .ne 7, 3) := by decide +kernel
theorem dX3_ceilingFor_10 : decode cX3_ceilingFor 10 = .ok (.iconst 1, 1) := by decide +kernel
theorem dX3_ceilingFor_11 : decode cX3_ceilingFor 11 = .ok (.goto 23, 3) := by decide +kernel
theorem dX3_ceilingFor_14 : decode cX3_ceilingFor 14 = .ok (.iload_n 2, 1) := by decide +kernel
theorem dX3_ceilingFor_15 : decode cX3_ceilingFor 15 = .ok (.iload_n 1, 1) := by decide +kernel
theorem dX3_ceilingFor_16 : decode cX3_ceilingFor 16 = .ok (.if_icmp .lt 13, 3) := by decide +kernel
theorem dX3_ceilingFor_19 : decode cX3_ceilingFor 19 = .ok (.iload_n 3, 1) := by decide +kernel
theorem dX3_ceilingFor_20 : decode cX3_ceilingFor 20 = .ok (.iconst 1, 1) := by decide +kernel
theorem dX3_ceilingFor_21 : decode cX3_ceilingFor 21 = .ok (.ldc 112, 2) := by decide +kernel
theorem dX3_ceilingFor_23 : decode cX3_ceilingFor 23 = .ok (.invokestatic 48, 3) := by decide +kernel
theorem dX3_ceilingFor_26 : decode cX3_ceilingFor 26 = .ok (.ifCond .ne 7, 3) := by decide +kernel
theorem dX3_ceilingFor_29 : decode cX3_ceilingFor 29 = .ok (.iconst 2, 1) := by decide +kernel
theorem dX3_ceilingFor_30 : decode cX3_ceilingFor 30 = .ok (.goto 4, 3) := by decide +kernel
theorem dX3_ceilingFor_33 : decode cX3_ceilingFor 33 = .ok (.iconst 0, 1) := by decide +kernel
theorem dX3_ceilingFor_34 : decode cX3_ceilingFor 34 = .ok (.invokevirtual 70, 3) := by decide +kernel
theorem dX3_ceilingFor_37 : decode cX3_ceilingFor 37 = .ok (.ifCond .ne 5, 3) := by decide +kernel
theorem dX3_ceilingFor_40 : decode cX3_ceilingFor 40 = .ok (.iconst 0, 1) := by decide +kernel
theorem dX3_ceilingFor_41 : decode cX3_ceilingFor 41 = .ok (.ireturn, 1) := by decide +kernel
theorem dX3_ceilingFor_42 : decode cX3_ceilingFor 42 = .ok (.aload_n 0, 1) := by decide +kernel
theorem dX3_ceilingFor_43 : decode cX3_ceilingFor 43 = .ok (.aload_n 0, 1) := by decide +kernel
theorem dX3_ceilingFor_44 : decode cX3_ceilingFor 44 = .ok (.iload_n 1, 1) := by decide +kernel
theorem dX3_ceilingFor_45 : decode cX3_ceilingFor 45 = .ok (.iload_n 2, 1) := by decide +kernel
theorem dX3_ceilingFor_46 : decode cX3_ceilingFor 46 = .ok (.iconst 0, 1) := by decide +kernel
theorem dX3_ceilingFor_47 : decode cX3_ceilingFor 47 = .ok (.invokevirtual 104, 3) := by decide +kernel
theorem dX3_ceilingFor_50 : decode cX3_ceilingFor 50 = .ok (.iload_n 3, 1) := by decide +kernel
theorem dX3_ceilingFor_51 : decode cX3_ceilingFor 51 = .ok (.if_icmp .ge 7, 3) := by decide +kernel
theorem dX3_ceilingFor_54 : decode cX3_ceilingFor 54 = .ok (.iconst 3, 1) := by decide +kernel
theorem dX3_ceilingFor_55 : decode cX3_ceilingFor 55 = .ok (.goto 4, 3) := by decide +kernel
theorem dX3_ceilingFor_58 : decode cX3_ceilingFor 58 = .ok (.iconst 0, 1) := by decide +kernel
theorem dX3_ceilingFor_59 : decode cX3_ceilingFor 59 = .ok (.invokevirtual 70, 3) := by decide +kernel
theorem dX3_ceilingFor_62 : decode cX3_ceilingFor 62 = .ok (.ifCond .ne 5, 3) := by decide +kernel
theorem dX3_ceilingFor_65 : decode cX3_ceilingFor 65 = .ok (.iconst 0, 1) := by decide +kernel
theorem dX3_ceilingFor_66 : decode cX3_ceilingFor 66 = .ok (.ireturn, 1) := by decide +kernel
theorem dX3_ceilingFor_67 : decode cX3_ceilingFor 67 = .ok (.sipush 1000, 3) := by decide +kernel
theorem dX3_ceilingFor_70 : decode cX3_ceilingFor 70 = .ok (.istore 4, 2) := by decide +kernel
theorem dX3_ceilingFor_72 : decode cX3_ceilingFor 72 = .ok (.aload_n 0, 1) := by decide +kernel
theorem dX3_ceilingFor_73 : decode cX3_ceilingFor 73 = .ok (.iload_n 1, 1) := by decide +kernel
theorem dX3_ceilingFor_74 : decode cX3_ceilingFor 74 = .ok (.iload_n 2, 1) := by decide +kernel
theorem dX3_ceilingFor_75 : decode cX3_ceilingFor 75 = .ok (.iload 4, 2) := by decide +kernel
theorem dX3_ceilingFor_77 : decode cX3_ceilingFor 77 = .ok (.invokevirtual 104, 3) := by decide +kernel
theorem dX3_ceilingFor_80 : decode cX3_ceilingFor 80 = .ok (.iload_n 3, 1) := by decide +kernel
theorem dX3_ceilingFor_81 : decode cX3_ceilingFor 81 = .ok (.if_icmp .ge 9, 3) := by decide +kernel
theorem dX3_ceilingFor_84 : decode cX3_ceilingFor 84 = .ok (.iinc 4 (-1), 3) := by decide +kernel
theorem dX3_ceilingFor_87 : decode cX3_ceilingFor 87 = .ok (.goto (-15), 3) := by decide +kernel
theorem dX3_ceilingFor_90 : decode cX3_ceilingFor 90 = .ok (.iload 4, 2) := by decide +kernel
theorem dX3_ceilingFor_92 : decode cX3_ceilingFor 92 = .ok (.ireturn, 1) := by decide +kernel
set_option maxRecDepth 20000 in
theorem ggX3_ceilingOver_X3_isColumn : GoodIn wsX3_ceilingOver wsX3_isColumn := goodIn_r _ [6, 7, 8, 9, 5, 10, 16, 17, 18, 19, 20, 21, 22, 23, 24, 25, 26, 27, 28, 29, 30, 31, 32, 33] (by decide +kernel) (by decide +kernel)
set_option maxRecDepth 20000 in
theorem gX3_ceilingOver_X3_isColumn : GoodIn wsX3_ceilingOver (wsV RX3 84 RX3 yX3_isColumn wsX3_isColumn) := goodIn_app (goodIn_of _ (by decide +kernel)) ggX3_ceilingOver_X3_isColumn
set_option maxRecDepth 20000 in
theorem ggX3_ceilingOver_X3_isFine : GoodIn wsX3_ceilingOver wsX3_isFine := goodIn_r _ [14, 15, 16, 17, 18, 19, 20, 21, 22, 23, 24, 25, 26, 27, 28, 29, 30, 31, 32, 33] (by decide +kernel) (by decide +kernel)
set_option maxRecDepth 20000 in
theorem gX3_ceilingOver_X3_isFine : GoodIn wsX3_ceilingOver (wsV RX3 70 RX3 yX3_isFine wsX3_isFine) := goodIn_app (goodIn_of _ (by decide +kernel)) ggX3_ceilingOver_X3_isFine
theorem dX3_ceilingOver_0 : decode cX3_ceilingOver 0 = .ok (.aload_n 0, 1) := by decide +kernel
theorem dX3_ceilingOver_1 : decode cX3_ceilingOver 1 = .ok (.aload_n 0, 1) := by decide +kernel
theorem dX3_ceilingOver_2 : decode cX3_ceilingOver 2 = .ok (.iload_n 1, 1) := by decide +kernel
theorem dX3_ceilingOver_3 : decode cX3_ceilingOver 3 = .ok (.invokevirtual 84, 3) := by decide +kernel
theorem dX3_ceilingOver_6 : decode cX3_ceilingOver 6 = .ok (.ifCond .ne 7, 3) := by decide +kernel
theorem dX3_ceilingOver_9 : decode cX3_ceilingOver 9 = .ok (.iconst 1, 1) := by decide +kernel
theorem dX3_ceilingOver_10 : decode cX3_ceilingOver 10 = .ok (.goto 18, 3) := by decide +kernel
theorem dX3_ceilingOver_13 : decode cX3_ceilingOver 13 = .ok (.aload_n 0, 1) := by decide +kernel
theorem dX3_ceilingOver_14 : decode cX3_ceilingOver 14 = .ok (.getfield 13, 3) := by decide +kernel
theorem dX3_ceilingOver_17 : decode cX3_ceilingOver 17 = .ok (.iload_n 1, 1) := by decide +kernel
theorem dX3_ceilingOver_18 : decode cX3_ceilingOver 18 = .ok (.iaload, 1) := by decide +kernel
theorem dX3_ceilingOver_19 : decode cX3_ceilingOver 19 = .ok (.iconst (-1), 1) := by decide +kernel
theorem dX3_ceilingOver_20 : decode cX3_ceilingOver 20 = .ok (.if_icmp .ne 7, 3) := by decide +kernel
theorem dX3_ceilingOver_23 : decode cX3_ceilingOver 23 = .ok (.iconst 2, 1) := by decide +kernel
theorem dX3_ceilingOver_24 : decode cX3_ceilingOver 24 = .ok (.goto 4, 3) := by decide +kernel
theorem dX3_ceilingOver_27 : decode cX3_ceilingOver 27 = .ok (.iconst 0, 1) := by decide +kernel
theorem dX3_ceilingOver_28 : decode cX3_ceilingOver 28 = .ok (.invokevirtual 70, 3) := by decide +kernel
theorem dX3_ceilingOver_31 : decode cX3_ceilingOver 31 = .ok (.ifCond .eq 12, 3) := by decide +kernel
theorem dX3_ceilingOver_34 : decode cX3_ceilingOver 34 = .ok (.aload_n 0, 1) := by decide +kernel
theorem dX3_ceilingOver_35 : decode cX3_ceilingOver 35 = .ok (.getfield 13, 3) := by decide +kernel
theorem dX3_ceilingOver_38 : decode cX3_ceilingOver 38 = .ok (.iload_n 1, 1) := by decide +kernel
theorem dX3_ceilingOver_39 : decode cX3_ceilingOver 39 = .ok (.iaload, 1) := by decide +kernel
theorem dX3_ceilingOver_40 : decode cX3_ceilingOver 40 = .ok (.goto 4, 3) := by decide +kernel
theorem dX3_ceilingOver_43 : decode cX3_ceilingOver 43 = .ok (.iconst 0, 1) := by decide +kernel
theorem dX3_ceilingOver_44 : decode cX3_ceilingOver 44 = .ok (.ireturn, 1) := by decide +kernel
theorem dX3_columns_0 : decode cX3_columns 0 = .ok (.aload_n 0, 1) := by decide +kernel
theorem dX3_columns_1 : decode cX3_columns 1 = .ok (.iconst 0, 1) := by decide +kernel
theorem dX3_columns_2 : decode cX3_columns 2 = .ok (.putfield 41, 3) := by decide +kernel
theorem dX3_columns_5 : decode cX3_columns 5 = .ok (.aload_n 0, 1) := by decide +kernel
theorem dX3_columns_6 : decode cX3_columns 6 = .ok (.getfield 45, 3) := by decide +kernel
theorem dX3_columns_9 : decode cX3_columns 9 = .ok (.ireturn, 1) := by decide +kernel
set_option maxRecDepth 20000 in
theorem ggX3_isEntry_X3_in : GoodIn wsX3_isEntry wsX3_in := goodIn_r _ [5] (by decide +kernel) (by decide +kernel)
set_option maxRecDepth 20000 in
theorem gX3_isEntry_X3_in : GoodIn wsX3_isEntry (va_wsS RX3 48 yX3_in wsX3_in) := goodIn_app (goodIn_of _ (by decide +kernel)) ggX3_isEntry_X3_in
set_option maxRecDepth 20000 in
theorem ggX3_isEntry_X3_isFine : GoodIn wsX3_isEntry wsX3_isFine := goodIn_r _ [9, 10, 11, 12, 13, 14, 15, 16, 17, 18, 19, 20, 21, 22, 23, 24, 25, 26, 27, 28] (by decide +kernel) (by decide +kernel)
set_option maxRecDepth 20000 in
theorem gX3_isEntry_X3_isFine : GoodIn wsX3_isEntry (wsV RX3 70 RX3 yX3_isFine wsX3_isFine) := goodIn_app (goodIn_of _ (by decide +kernel)) ggX3_isEntry_X3_isFine
theorem dX3_isEntry_0 : decode cX3_isEntry 0 = .ok (.aload_n 0, 1) := by decide +kernel
theorem dX3_isEntry_1 : decode cX3_isEntry 1 = .ok (.iload_n 1, 1) := by decide +kernel
theorem dX3_isEntry_2 : decode cX3_isEntry 2 = .ok (.iconst 1, 1) := by decide +kernel
theorem dX3_isEntry_3 : decode cX3_isEntry 3 = .ok (.bipush 127, 2) := by decide +kernel
theorem dX3_isEntry_5 : decode cX3_isEntry 5 = .ok (.invokestatic 48, 3) := by decide +kernel
theorem dX3_isEntry_8 : decode cX3_isEntry 8 = .ok (.ifCond .eq 30, 3) := by decide +kernel
theorem dX3_isEntry_11 : decode cX3_isEntry 11 = .ok (.aload_n 0, 1) := by decide +kernel
theorem dX3_isEntry_12 : decode cX3_isEntry 12 = .ok (.getfield 16, 3) := by decide +kernel
theorem dX3_isEntry_15 : decode cX3_isEntry 15 = .ok (.iload_n 1, 1) := by decide +kernel
theorem dX3_isEntry_16 : decode cX3_isEntry 16 = .ok (.iconst 1, 1) := by decide +kernel
theorem dX3_isEntry_17 : decode cX3_isEntry 17 = .ok (.bipush 127, 2) := by decide +kernel
theorem dX3_isEntry_19 : decode cX3_isEntry 19 = .ok (.invokestatic 48, 3) := by decide +kernel
theorem dX3_isEntry_22 : decode cX3_isEntry 22 = .ok (.ifCond .eq 7, 3) := by decide +kernel
theorem dX3_isEntry_25 : decode cX3_isEntry 25 = .ok (.iload_n 1, 1) := by decide +kernel
theorem dX3_isEntry_26 : decode cX3_isEntry 26 = .ok (.goto 4, 3) := by decide +kernel
theorem dX3_isEntry_29 : decode cX3_isEntry 29 = .ok (.iconst 1, 1) := by decide +kernel
theorem dX3_isEntry_30 : decode cX3_isEntry 30 = .ok (.iaload, 1) := by decide +kernel
theorem dX3_isEntry_31 : decode cX3_isEntry 31 = .ok (.ifCond .lt 7, 3) := by decide +kernel
theorem dX3_isEntry_34 : decode cX3_isEntry 34 = .ok (.iconst 0, 1) := by decide +kernel
theorem dX3_isEntry_35 : decode cX3_isEntry 35 = .ok (.goto 4, 3) := by decide +kernel
theorem dX3_isEntry_38 : decode cX3_isEntry 38 = .ok (.iconst 1, 1) := by decide +kernel
theorem dX3_isEntry_39 : decode cX3_isEntry 39 = .ok (.invokevirtual 70, 3) := by decide +kernel
theorem dX3_isEntry_42 : decode cX3_isEntry 42 = .ok (.ireturn, 1) := by decide +kernel
set_option maxRecDepth 20000 in
theorem ggX3_spanOf_X3_isEntry : GoodIn wsX3_spanOf wsX3_isEntry := goodIn_r _ [7, 1, 8, 9, 6, 10, 11, 12, 13, 14, 15, 16, 17, 18, 19, 20, 21, 22, 23, 24, 25, 26, 27, 28, 29, 30, 31, 32, 33] (by decide +kernel) (by decide +kernel)
set_option maxRecDepth 20000 in
theorem gX3_spanOf_X3_isEntry : GoodIn wsX3_spanOf (wsV RX3 113 RX3 yX3_isEntry wsX3_isEntry) := goodIn_app (goodIn_of _ (by decide +kernel)) ggX3_spanOf_X3_isEntry
theorem dX3_spanOf_0 : decode cX3_spanOf 0 = .ok (.aload_n 0, 1) := by decide +kernel
theorem dX3_spanOf_1 : decode cX3_spanOf 1 = .ok (.iload_n 1, 1) := by decide +kernel
theorem dX3_spanOf_2 : decode cX3_spanOf 2 = .ok (.invokevirtual 113, 3) := by decide +kernel
theorem dX3_spanOf_5 : decode cX3_spanOf 5 = .ok (.ifCond .eq 22, 3) := by decide +kernel
theorem dX3_spanOf_8 : decode cX3_spanOf 8 = .ok (.bipush 100, 2) := by decide +kernel
theorem dX3_spanOf_10 : decode cX3_spanOf 10 = .ok (.aload_n 0, 1) := by decide +kernel
theorem dX3_spanOf_11 : decode cX3_spanOf 11 = .ok (.getfield 16, 3) := by decide +kernel
theorem dX3_spanOf_14 : decode cX3_spanOf 14 = .ok (.iload_n 1, 1) := by decide +kernel
theorem dX3_spanOf_15 : decode cX3_spanOf 15 = .ok (.iaload, 1) := by decide +kernel
theorem dX3_spanOf_16 : decode cX3_spanOf 16 = .ok (.imul, 1) := by decide +kernel
theorem dX3_spanOf_17 : decode cX3_spanOf 17 = .ok (.aload_n 0, 1) := by decide +kernel
theorem dX3_spanOf_18 : decode cX3_spanOf 18 = .ok (.getfield 19, 3) := by decide +kernel
theorem dX3_spanOf_21 : decode cX3_spanOf 21 = .ok (.iload_n 1, 1) := by decide +kernel
theorem dX3_spanOf_22 : decode cX3_spanOf 22 = .ok (.iaload, 1) := by decide +kernel
theorem dX3_spanOf_23 : decode cX3_spanOf 23 = .ok (.iadd, 1) := by decide +kernel
theorem dX3_spanOf_24 : decode cX3_spanOf 24 = .ok (.goto 4, 3) := by decide +kernel
theorem dX3_spanOf_27 : decode cX3_spanOf 27 = .ok (.iconst 0, 1) := by decide +kernel
theorem dX3_spanOf_28 : decode cX3_spanOf 28 = .ok (.ireturn, 1) := by decide +kernel
set_option maxRecDepth 20000 in
theorem ggX3_greatest_X3_isEntry : GoodIn wsX3_greatest wsX3_isEntry := goodIn_r _ [6, 7, 8, 9, 5, 10, 11, 12, 13, 14, 15, 16, 17, 18, 19, 20, 21, 22, 23, 24, 25, 26, 27, 28, 29, 30, 31, 32, 33] (by decide +kernel) (by decide +kernel)
set_option maxRecDepth 20000 in
theorem gX3_greatest_X3_isEntry : GoodIn wsX3_greatest (wsV RX3 113 RX3 yX3_isEntry wsX3_isEntry) := goodIn_app (goodIn_of _ (by decide +kernel)) ggX3_greatest_X3_isEntry
theorem dX3_greatest_0 : decode cX3_greatest 0 = .ok (.aload_n 0, 1) := by decide +kernel
theorem dX3_greatest_1 : decode cX3_greatest 1 = .ok (.iload_n 1, 1) := by decide +kernel
theorem dX3_greatest_2 : decode cX3_greatest 2 = .ok (.invokevirtual 113, 3) := by decide +kernel
theorem dX3_greatest_5 : decode cX3_greatest 5 = .ok (.ifCond .eq 12, 3) := by decide +kernel
theorem dX3_greatest_8 : decode cX3_greatest 8 = .ok (.aload_n 0, 1) := by decide +kernel
theorem dX3_greatest_9 : decode cX3_greatest 9 = .ok (.getfield 22, 3) := by decide +kernel
theorem dX3_greatest_12 : decode cX3_greatest 12 = .ok (.iload_n 1, 1) := by decide +kernel
theorem dX3_greatest_13 : decode cX3_greatest 13 = .ok (.iaload, 1) := by decide +kernel
theorem dX3_greatest_14 : decode cX3_greatest 14 = .ok (.goto 4, 3) := by decide +kernel
theorem dX3_greatest_17 : decode cX3_greatest 17 = .ok (.iconst 0, 1) := by decide +kernel
theorem dX3_greatest_18 : decode cX3_greatest 18 = .ok (.ireturn, 1) := by decide +kernel
set_option maxRecDepth 20000 in
theorem ggX3_second_X3_isEntry : GoodIn wsX3_second wsX3_isEntry := goodIn_r _ [6, 7, 8, 9, 5, 10, 11, 12, 13, 14, 15, 16, 17, 18, 19, 20, 21, 22, 23, 24, 25, 26, 27, 28, 29, 30, 31, 32, 33] (by decide +kernel) (by decide +kernel)
set_option maxRecDepth 20000 in
theorem gX3_second_X3_isEntry : GoodIn wsX3_second (wsV RX3 113 RX3 yX3_isEntry wsX3_isEntry) := goodIn_app (goodIn_of _ (by decide +kernel)) ggX3_second_X3_isEntry
theorem dX3_second_0 : decode cX3_second 0 = .ok (.aload_n 0, 1) := by decide +kernel
theorem dX3_second_1 : decode cX3_second 1 = .ok (.iload_n 1, 1) := by decide +kernel
theorem dX3_second_2 : decode cX3_second 2 = .ok (.invokevirtual 113, 3) := by decide +kernel
theorem dX3_second_5 : decode cX3_second 5 = .ok (.ifCond .eq 12, 3) := by decide +kernel
theorem dX3_second_8 : decode cX3_second 8 = .ok (.aload_n 0, 1) := by decide +kernel
theorem dX3_second_9 : decode cX3_second 9 = .ok (.getfield 25, 3) := by decide +kernel
theorem dX3_second_12 : decode cX3_second 12 = .ok (.iload_n 1, 1) := by decide +kernel
theorem dX3_second_13 : decode cX3_second 13 = .ok (.iaload, 1) := by decide +kernel
theorem dX3_second_14 : decode cX3_second 14 = .ok (.goto 4, 3) := by decide +kernel
theorem dX3_second_17 : decode cX3_second 17 = .ok (.iconst 0, 1) := by decide +kernel
theorem dX3_second_18 : decode cX3_second 18 = .ok (.ireturn, 1) := by decide +kernel
set_option maxRecDepth 20000 in
theorem ggX3_many_X3_isEntry : GoodIn wsX3_many wsX3_isEntry := goodIn_r _ [6, 7, 8, 9, 5, 10, 11, 12, 13, 14, 15, 16, 17, 18, 19, 20, 21, 22, 23, 24, 25, 26, 27, 28, 29, 30, 31, 32, 33] (by decide +kernel) (by decide +kernel)
set_option maxRecDepth 20000 in
theorem gX3_many_X3_isEntry : GoodIn wsX3_many (wsV RX3 113 RX3 yX3_isEntry wsX3_isEntry) := goodIn_app (goodIn_of _ (by decide +kernel)) ggX3_many_X3_isEntry
theorem dX3_many_0 : decode cX3_many 0 = .ok (.aload_n 0, 1) := by decide +kernel
theorem dX3_many_1 : decode cX3_many 1 = .ok (.iload_n 1, 1) := by decide +kernel
theorem dX3_many_2 : decode cX3_many 2 = .ok (.invokevirtual 113, 3) := by decide +kernel
theorem dX3_many_5 : decode cX3_many 5 = .ok (.ifCond .eq 12, 3) := by decide +kernel
theorem dX3_many_8 : decode cX3_many 8 = .ok (.aload_n 0, 1) := by decide +kernel
theorem dX3_many_9 : decode cX3_many 9 = .ok (.getfield 28, 3) := by decide +kernel
theorem dX3_many_12 : decode cX3_many 12 = .ok (.iload_n 1, 1) := by decide +kernel
theorem dX3_many_13 : decode cX3_many 13 = .ok (.iaload, 1) := by decide +kernel
theorem dX3_many_14 : decode cX3_many 14 = .ok (.goto 4, 3) := by decide +kernel
theorem dX3_many_17 : decode cX3_many 17 = .ok (.iconst 0, 1) := by decide +kernel
theorem dX3_many_18 : decode cX3_many 18 = .ok (.ireturn, 1) := by decide +kernel
set_option maxRecDepth 20000 in
theorem ggX3_noted_X3_isEntry : GoodIn wsX3_noted wsX3_isEntry := goodIn_r _ [6, 7, 8, 9, 5, 10, 11, 12, 13, 14, 15, 16, 17, 18, 19, 20, 21, 22, 23, 24, 25, 26, 27, 28, 29, 30, 31, 32, 33] (by decide +kernel) (by decide +kernel)
set_option maxRecDepth 20000 in
theorem gX3_noted_X3_isEntry : GoodIn wsX3_noted (wsV RX3 113 RX3 yX3_isEntry wsX3_isEntry) := goodIn_app (goodIn_of _ (by decide +kernel)) ggX3_noted_X3_isEntry
theorem dX3_noted_0 : decode cX3_noted 0 = .ok (.aload_n 0, 1) := by decide +kernel
theorem dX3_noted_1 : decode cX3_noted 1 = .ok (.iload_n 1, 1) := by decide +kernel
theorem dX3_noted_2 : decode cX3_noted 2 = .ok (.invokevirtual 113, 3) := by decide +kernel
theorem dX3_noted_5 : decode cX3_noted 5 = .ok (.ifCond .eq 12, 3) := by decide +kernel
theorem dX3_noted_8 : decode cX3_noted 8 = .ok (.aload_n 0, 1) := by decide +kernel
theorem dX3_noted_9 : decode cX3_noted 9 = .ok (.getfield 31, 3) := by decide +kernel
theorem dX3_noted_12 : decode cX3_noted 12 = .ok (.iload_n 1, 1) := by decide +kernel
theorem dX3_noted_13 : decode cX3_noted 13 = .ok (.iaload, 1) := by decide +kernel
theorem dX3_noted_14 : decode cX3_noted 14 = .ok (.goto 4, 3) := by decide +kernel
theorem dX3_noted_17 : decode cX3_noted 17 = .ok (.iconst 0, 1) := by decide +kernel
theorem dX3_noted_18 : decode cX3_noted 18 = .ok (.ireturn, 1) := by decide +kernel
theorem dX3_lagging_0 : decode cX3_lagging 0 = .ok (.aload_n 0, 1) := by decide +kernel
theorem dX3_lagging_1 : decode cX3_lagging 1 = .ok (.iconst 0, 1) := by decide +kernel
theorem dX3_lagging_2 : decode cX3_lagging 2 = .ok (.putfield 41, 3) := by decide +kernel
theorem dX3_lagging_5 : decode cX3_lagging 5 = .ok (.iconst 0, 1) := by decide +kernel
theorem dX3_lagging_6 : decode cX3_lagging 6 = .ok (.istore_n 1, 1) := by decide +kernel
theorem dX3_lagging_7 : decode cX3_lagging 7 = .ok (.iconst 2, 1) := by decide +kernel
theorem dX3_lagging_8 : decode cX3_lagging 8 = .ok (.istore_n 2, 1) := by decide +kernel
theorem dX3_lagging_9 : decode cX3_lagging 9 = .ok (.iload_n 2, 1) := by decide +kernel
theorem dX3_lagging_10 : decode cX3_lagging 10 = .ok (.sipush 128, 3) := by decide +kernel
theorem dX3_lagging_13 : decode cX3_lagging 13 = .ok (.if_icmp .ge 43, 3) := by decide +kernel
theorem dX3_lagging_16 : decode cX3_lagging 16 = .ok (.iload_n 1, 1) := by decide +kernel
theorem dX3_lagging_17 : decode cX3_lagging 17 = .ok (.aload_n 0, 1) := by decide +kernel
theorem dX3_lagging_18 : decode cX3_lagging 18 = .ok (.getfield 16, 3) := by decide +kernel
theorem dX3_lagging_21 : decode cX3_lagging 21 = .ok (.iload_n 2, 1) := by decide +kernel
theorem dX3_lagging_22 : decode cX3_lagging 22 = .ok (.iaload, 1) := by decide +kernel
theorem dX3_lagging_23 : decode cX3_lagging 23 = .ok (.ifCond .lt 24, 3) := by decide +kernel
theorem dX3_lagging_26 : decode cX3_lagging 26 = .ok (.aload_n 0, 1) := by decide +kernel
theorem dX3_lagging_27 : decode cX3_lagging 27 = .ok (.getfield 22, 3) := by decide +kernel
theorem dX3_lagging_30 : decode cX3_lagging 30 = .ok (.iload_n 2, 1) := by decide +kernel
theorem dX3_lagging_31 : decode cX3_lagging 31 = .ok (.iaload, 1) := by decide +kernel
theorem dX3_lagging_32 : decode cX3_lagging 32 = .ok (.aload_n 0, 1) := by decide +kernel
theorem dX3_lagging_33 : decode cX3_lagging 33 = .ok (.getfield 22, 3) := by decide +kernel
theorem dX3_lagging_36 : decode cX3_lagging 36 = .ok (.iload_n 2, 1) := by decide +kernel
theorem dX3_lagging_37 : decode cX3_lagging 37 = .ok (.iconst 2, 1) := by decide +kernel
theorem dX3_lagging_38 : decode cX3_lagging 38 = .ok (.idiv, 1) := by decide +kernel
theorem dX3_lagging_39 : decode cX3_lagging 39 = .ok (.iaload, 1) := by decide +kernel
theorem dX3_lagging_40 : decode cX3_lagging 40 = .ok (.if_icmp .le 7, 3) := by decide +kernel
theorem dX3_lagging_43 : decode cX3_lagging 43 = .ok (.iconst 1, 1) := by decide +kernel
theorem dX3_lagging_44 : decode cX3_lagging 44 = .ok (.goto 4, 3) := by decide +kernel
theorem dX3_lagging_47 : decode cX3_lagging 47 = .ok (.iconst 0, 1) := by decide +kernel
theorem dX3_lagging_48 : decode cX3_lagging 48 = .ok (.iadd, 1) := by decide +kernel
theorem dX3_lagging_49 : decode cX3_lagging 49 = .ok (.istore_n 1, 1) := by decide +kernel
theorem dX3_lagging_50 : decode cX3_lagging 50 = .ok (.iinc 2 1, 3) := by decide +kernel
theorem dX3_lagging_53 : decode cX3_lagging 53 = .ok (.goto (-44), 3) := by decide +kernel
theorem dX3_lagging_56 : decode cX3_lagging 56 = .ok (.iload_n 1, 1) := by decide +kernel
theorem dX3_lagging_57 : decode cX3_lagging 57 = .ok (.ireturn, 1) := by decide +kernel
theorem dX3_visits_0 : decode cX3_visits 0 = .ok (.aload_n 0, 1) := by decide +kernel
theorem dX3_visits_1 : decode cX3_visits 1 = .ok (.iconst 0, 1) := by decide +kernel
theorem dX3_visits_2 : decode cX3_visits 2 = .ok (.putfield 41, 3) := by decide +kernel
theorem dX3_visits_5 : decode cX3_visits 5 = .ok (.aload_n 0, 1) := by decide +kernel
theorem dX3_visits_6 : decode cX3_visits 6 = .ok (.getfield 52, 3) := by decide +kernel
theorem dX3_visits_9 : decode cX3_visits 9 = .ok (.ireturn, 1) := by decide +kernel
theorem dX3_allVisits_0 : decode cX3_allVisits 0 = .ok (.aload_n 0, 1) := by decide +kernel
theorem dX3_allVisits_1 : decode cX3_allVisits 1 = .ok (.iconst 0, 1) := by decide +kernel
theorem dX3_allVisits_2 : decode cX3_allVisits 2 = .ok (.putfield 41, 3) := by decide +kernel
theorem dX3_allVisits_5 : decode cX3_allVisits 5 = .ok (.aload_n 0, 1) := by decide +kernel
theorem dX3_allVisits_6 : decode cX3_allVisits 6 = .ok (.getfield 55, 3) := by decide +kernel
theorem dX3_allVisits_9 : decode cX3_allVisits 9 = .ok (.ireturn, 1) := by decide +kernel
theorem dX3_pressedAway_0 : decode cX3_pressedAway 0 = .ok (.aload_n 0, 1) := by decide +kernel
theorem dX3_pressedAway_1 : decode cX3_pressedAway 1 = .ok (.iconst 0, 1) := by decide +kernel
theorem dX3_pressedAway_2 : decode cX3_pressedAway 2 = .ok (.putfield 41, 3) := by decide +kernel
theorem dX3_pressedAway_5 : decode cX3_pressedAway 5 = .ok (.aload_n 0, 1) := by decide +kernel
theorem dX3_pressedAway_6 : decode cX3_pressedAway 6 = .ok (.getfield 67, 3) := by decide +kernel
theorem dX3_pressedAway_9 : decode cX3_pressedAway 9 = .ok (.ireturn, 1) := by decide +kernel
set_option maxRecDepth 20000 in
theorem ggX3_pressedAwayByRest_X3_presses : GoodIn wsX3_pressedAwayByRest wsX3_presses := goodIn_r _ [9, 10, 11, 12, 13, 14, 15, 16, 17, 18, 19, 20, 21, 22, 23, 24, 25, 26, 27, 28] (by decide +kernel) (by decide +kernel)
set_option maxRecDepth 20000 in
theorem gX3_pressedAwayByRest_X3_presses : GoodIn wsX3_pressedAwayByRest (wsV RX3 104 RX3 yX3_presses wsX3_presses) := goodIn_app (goodIn_of _ (by decide +kernel)) ggX3_pressedAwayByRest_X3_presses
theorem dX3_pressedAwayByRest_0 : decode cX3_pressedAwayByRest 0 = .ok (.aload_n 0, 1) := by decide +kernel
theorem dX3_pressedAwayByRest_1 : decode cX3_pressedAwayByRest 1 = .ok (.iconst 0, 1) := by decide +kernel
theorem dX3_pressedAwayByRest_2 : decode cX3_pressedAwayByRest 2 = .ok (.putfield 41, 3) := by decide +kernel
theorem dX3_pressedAwayByRest_5 : decode cX3_pressedAwayByRest 5 = .ok (.aload_n 0, 1) := by decide +kernel
theorem dX3_pressedAwayByRest_6 : decode cX3_pressedAwayByRest 6 = .ok (.getfield 61, 3) := by decide +kernel
theorem dX3_pressedAwayByRest_9 : decode cX3_pressedAwayByRest 9 = .ok (.aload_n 0, 1) := by decide +kernel
theorem dX3_pressedAwayByRest_10 : decode cX3_pressedAwayByRest 10 = .ok (.getfield 64, 3) := by decide +kernel
theorem dX3_pressedAwayByRest_13 : decode cX3_pressedAwayByRest 13 = .ok (.iadd, 1) := by decide +kernel
theorem dX3_pressedAwayByRest_14 : decode cX3_pressedAwayByRest 14 = .ok (.aload_n 0, 1) := by decide +kernel
theorem dX3_pressedAwayByRest_15 : decode cX3_pressedAwayByRest 15 = .ok (.iconst 0, 1) := by decide +kernel
theorem dX3_pressedAwayByRest_16 : decode cX3_pressedAwayByRest 16 = .ok (.aload_n 0, 1) := by decide +kernel
theorem dX3_pressedAwayByRest_17 : decode cX3_pressedAwayByRest 17 = .ok (.getfield 45, 3) := by decide +kernel
theorem dX3_pressedAwayByRest_20 : decode cX3_pressedAwayByRest 20 = .ok (.iconst 1, 1) := by decide +kernel
theorem dX3_pressedAwayByRest_21 : decode cX3_pressedAwayByRest 21 = .ok (.isub, 1) := by decide +kernel
theorem dX3_pressedAwayByRest_22 : decode cX3_pressedAwayByRest 22 = .ok (.iconst 0, 1) := by decide +kernel
theorem dX3_pressedAwayByRest_23 : decode cX3_pressedAwayByRest 23 = .ok (.invokevirtual 104, 3) := by decide +kernel
theorem dX3_pressedAwayByRest_26 : decode cX3_pressedAwayByRest 26 = .ok (.isub, 1) := by decide +kernel
theorem dX3_pressedAwayByRest_27 : decode cX3_pressedAwayByRest 27 = .ok (.ireturn, 1) := by decide +kernel
theorem dX3_meanVisits_0 : decode cX3_meanVisits 0 = .ok (.aload_n 0, 1) := by decide +kernel
theorem dX3_meanVisits_1 : decode cX3_meanVisits 1 = .ok (.iconst 0, 1) := by decide +kernel
theorem dX3_meanVisits_2 : decode cX3_meanVisits 2 = .ok (.putfield 41, 3) := by decide +kernel
theorem dX3_meanVisits_5 : decode cX3_meanVisits 5 = .ok (.aload_n 0, 1) := by decide +kernel
theorem dX3_meanVisits_6 : decode cX3_meanVisits 6 = .ok (.getfield 58, 3) := by decide +kernel
theorem dX3_meanVisits_9 : decode cX3_meanVisits 9 = .ok (.ifCond .ne 7, 3) := by decide +kernel
theorem dX3_meanVisits_12 : decode cX3_meanVisits 12 = .ok (.dconst 0, 1) := by decide +kernel
theorem dX3_meanVisits_13 : decode cX3_meanVisits 13 = .ok (.goto 14, 3) := by decide +kernel
theorem dX3_meanVisits_16 : decode cX3_meanVisits 16 = .ok (.aload_n 0, 1) := by decide +kernel
theorem dX3_meanVisits_17 : decode cX3_meanVisits 17 = .ok (.getfield 55, 3) := by decide +kernel
theorem dX3_meanVisits_20 : decode cX3_meanVisits 20 = .ok (.i2d, 1) := by decide +kernel
theorem dX3_meanVisits_21 : decode cX3_meanVisits 21 = .ok (.aload_n 0, 1) := by decide +kernel
theorem dX3_meanVisits_22 : decode cX3_meanVisits 22 = .ok (.getfield 58, 3) := by decide +kernel
theorem dX3_meanVisits_25 : decode cX3_meanVisits 25 = .ok (.i2d, 1) := by decide +kernel
theorem dX3_meanVisits_26 : decode cX3_meanVisits 26 = .ok (.ddiv, 1) := by decide +kernel
theorem dX3_meanVisits_27 : decode cX3_meanVisits 27 = .ok (.dreturn, 1) := by decide +kernel
theorem dJ9_max_7cf53_0 : decode cJ9_max_7cf53 0 = .ok (.iload_n 0, 1) := by decide +kernel
theorem dJ9_max_7cf53_1 : decode cJ9_max_7cf53 1 = .ok (.iload_n 1, 1) := by decide +kernel
theorem dJ9_max_7cf53_2 : decode cJ9_max_7cf53 2 = .ok (.if_icmp .lt 7, 3) := by decide +kernel
theorem dJ9_max_7cf53_5 : decode cJ9_max_7cf53 5 = .ok (.iload_n 0, 1) := by decide +kernel
theorem dJ9_max_7cf53_6 : decode cJ9_max_7cf53 6 = .ok (.goto 4, 3) := by decide +kernel
theorem dJ9_max_7cf53_9 : decode cJ9_max_7cf53 9 = .ok (.iload_n 1, 1) := by decide +kernel
theorem dJ9_max_7cf53_10 : decode cJ9_max_7cf53 10 = .ok (.ireturn, 1) := by decide +kernel
theorem dJ9_min_7cf53_0 : decode cJ9_min_7cf53 0 = .ok (.iload_n 0, 1) := by decide +kernel
theorem dJ9_min_7cf53_1 : decode cJ9_min_7cf53 1 = .ok (.iload_n 1, 1) := by decide +kernel
theorem dJ9_min_7cf53_2 : decode cJ9_min_7cf53 2 = .ok (.if_icmp .gt 7, 3) := by decide +kernel
theorem dJ9_min_7cf53_5 : decode cJ9_min_7cf53 5 = .ok (.iload_n 0, 1) := by decide +kernel
theorem dJ9_min_7cf53_6 : decode cJ9_min_7cf53 6 = .ok (.goto 4, 3) := by decide +kernel
theorem dJ9_min_7cf53_9 : decode cJ9_min_7cf53 9 = .ok (.iload_n 1, 1) := by decide +kernel
theorem dJ9_min_7cf53_10 : decode cJ9_min_7cf53 10 = .ok (.ireturn, 1) := by decide +kernel
