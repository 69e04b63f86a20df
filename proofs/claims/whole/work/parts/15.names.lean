theorem dX5_bend_124 : decode cX5_bend 124 = .ok (.iload 6, 2) := by decide +kernel
theorem dX5_bend_126 : decode cX5_bend 126 = .ok (.bipush 8, 2) := by decide +kernel
theorem dX5_bend_128 : decode cX5_bend 128 = .ok (.iload 4, 2) := by decide +kernel
theorem dX5_bend_130 : decode cX5_bend 130 = .ok (.imul, 1) := by decide +kernel
theorem dX5_bend_131 : decode cX5_bend 131 = .ok (.bipush 8, 2) := by decide +kernel
theorem dX5_bend_133 : decode cX5_bend 133 = .ok (.iadd, 1) := by decide +kernel
theorem dX5_bend_134 : decode cX5_bend 134 = .ok (.if_icmp .ge 63, 3) := by decide +kernel
theorem dX5_bend_137 : decode cX5_bend 137 = .ok (.iload 6, 2) := by decide +kernel
theorem dX5_bend_139 : decode cX5_bend 139 = .ok (.aload_n 0, 1) := by decide +kernel
theorem dX5_bend_140 : decode cX5_bend 140 = .ok (.getfield 9, 3) := by decide +kernel
theorem dX5_bend_143 : decode cX5_bend 143 = .ok (.iload_n 1, 1) := by decide +kernel
theorem dX5_bend_144 : decode cX5_bend 144 = .ok (.iaload, 1) := by decide +kernel
theorem dX5_bend_145 : decode cX5_bend 145 = .ok (.if_icmp .ge 52, 3) := by decide +kernel
theorem dX5_bend_148 : decode cX5_bend 148 = .ok (.iconst 0, 1) := by decide +kernel
theorem dX5_bend_149 : decode cX5_bend 149 = .ok (.istore 7, 2) := by decide +kernel
theorem dX5_bend_151 : decode cX5_bend 151 = .ok (.iload 7, 2) := by decide +kernel
theorem dX5_bend_153 : decode cX5_bend 153 = .ok (.iload 5, 2) := by decide +kernel
theorem dX5_bend_155 : decode cX5_bend 155 = .ok (.if_icmp .gt 36, 3) := by decide +kernel
theorem dX5_bend_158 : decode cX5_bend 158 = .ok (.aload_n 0, 1) := by decide +kernel
theorem dX5_bend_159 : decode cX5_bend 159 = .ok (.getfield 21, 3) := by decide +kernel
theorem dX5_bend_162 : decode cX5_bend 162 = .ok (.iload 7, 2) := by decide +kernel
theorem dX5_bend_164 : decode cX5_bend 164 = .ok (.iload_n 2, 1) := by decide +kernel
theorem dX5_bend_165 : decode cX5_bend 165 = .ok (.iadd, 1) := by decide +kernel
theorem dX5_bend_166 : decode cX5_bend 166 = .ok (.iload 5, 2) := by decide +kernel
theorem dX5_bend_168 : decode cX5_bend 168 = .ok (.isub, 1) := by decide +kernel
theorem dX5_bend_169 : decode cX5_bend 169 = .ok (.bipush 64, 2) := by decide +kernel
theorem dX5_bend_171 : decode cX5_bend 171 = .ok (.imul, 1) := by decide +kernel
theorem dX5_bend_172 : decode cX5_bend 172 = .ok (.iload 6, 2) := by decide +kernel
theorem dX5_bend_174 : decode cX5_bend 174 = .ok (.iadd, 1) := by decide +kernel
theorem dX5_bend_175 : decode cX5_bend 175 = .ok (.aload_n 0, 1) := by decide +kernel
theorem dX5_bend_176 : decode cX5_bend 176 = .ok (.iload_n 1, 1) := by decide +kernel
theorem dX5_bend_177 : decode cX5_bend 177 = .ok (.iload 6, 2) := by decide +kernel
theorem dX5_bend_179 : decode cX5_bend 179 = .ok (.iload 7, 2) := by decide +kernel
theorem dX5_bend_181 : decode cX5_bend 181 = .ok (.invokevirtual 109, 3) := by decide +kernel
theorem dX5_bend_184 : decode cX5_bend 184 = .ok (.bastore, 1) := by decide +kernel
theorem dX5_bend_185 : decode cX5_bend 185 = .ok (.iinc 7 1, 3) := by decide +kernel
theorem dX5_bend_188 : decode cX5_bend 188 = .ok (.goto (-37), 3) := by decide +kernel
theorem dX5_bend_191 : decode cX5_bend 191 = .ok (.iinc 6 1, 3) := by decide +kernel
theorem dX5_bend_194 : decode cX5_bend 194 = .ok (.goto (-70), 3) := by decide +kernel
theorem dX5_bend_197 : decode cX5_bend 197 = .ok (.iinc 4 1, 3) := by decide +kernel
theorem dX5_bend_200 : decode cX5_bend 200 = .ok (.goto (-126), 3) := by decide +kernel
theorem dX5_bend_203 : decode cX5_bend 203 = .ok (.aload_n 0, 1) := by decide +kernel
theorem dX5_bend_204 : decode cX5_bend 204 = .ok (.iload_n 1, 1) := by decide +kernel
theorem dX5_bend_205 : decode cX5_bend 205 = .ok (.aload_n 0, 1) := by decide +kernel
theorem dX5_bend_206 : decode cX5_bend 206 = .ok (.getfield 9, 3) := by decide +kernel
theorem dX5_bend_209 : decode cX5_bend 209 = .ok (.iload_n 1, 1) := by decide +kernel
theorem dX5_bend_210 : decode cX5_bend 210 = .ok (.iaload, 1) := by decide +kernel
theorem dX5_bend_211 : decode cX5_bend 211 = .ok (.aload_n 0, 1) := by decide +kernel
theorem dX5_bend_212 : decode cX5_bend 212 = .ok (.getfield 13, 3) := by decide +kernel
theorem dX5_bend_215 : decode cX5_bend 215 = .ok (.iload_n 1, 1) := by decide +kernel
theorem dX5_bend_216 : decode cX5_bend 216 = .ok (.iaload, 1) := by decide +kernel
theorem dX5_bend_217 : decode cX5_bend 217 = .ok (.invokevirtual 171, 3) := by decide +kernel
theorem dX5_bend_220 : decode cX5_bend 220 = .ok (.iload_n 3, 1) := by decide +kernel
theorem dX5_bend_221 : decode cX5_bend 221 = .ok (.ireturn, 1) := by decide +kernel
set_option maxRecDepth 20000 in
theorem ggX5_areSpecks_X5_in : GoodIn wsX5_areSpecks wsX5_in := goodIn_r _ [6] (by decide +kernel) (by decide +kernel)
set_option maxRecDepth 20000 in
theorem gX5_areSpecks_X5_in : GoodIn wsX5_areSpecks (va_wsS RX5 71 yX5_in wsX5_in) := goodIn_app (goodIn_of _ (by decide +kernel)) ggX5_areSpecks_X5_in
theorem dX5_areSpecks_0 : decode cX5_areSpecks 0 = .ok (.iload_n 0, 1) := by decide +kernel
theorem dX5_areSpecks_1 : decode cX5_areSpecks 1 = .ok (.i2l, 1) := by decide +kernel
theorem dX5_areSpecks_2 : decode cX5_areSpecks 2 = .ok (.lconst 1, 1) := by decide +kernel
theorem dX5_areSpecks_3 : decode cX5_areSpecks 3 = .ok (.ldc2_w 198, 3) := by decide +kernel
theorem dX5_areSpecks_6 : decode cX5_areSpecks 6 = .ok (.invokestatic 71, 3) := by decide +kernel
theorem dX5_areSpecks_9 : decode cX5_areSpecks 9 = .ok (.ifCond .eq 19, 3) := by decide +kernel
theorem dX5_areSpecks_12 : decode cX5_areSpecks 12 = .ok (.iload_n 1, 1) := by decide +kernel
theorem dX5_areSpecks_13 : decode cX5_areSpecks 13 = .ok (.i2l, 1) := by decide +kernel
theorem dX5_areSpecks_14 : decode cX5_areSpecks 14 = .ok (.lconst 0, 1) := by decide +kernel
theorem dX5_areSpecks_15 : decode cX5_areSpecks 15 = .ok (.ldc2_w 200, 3) := by decide +kernel
theorem dX5_areSpecks_18 : decode cX5_areSpecks 18 = .ok (.invokestatic 71, 3) := by decide +kernel
theorem dX5_areSpecks_21 : decode cX5_areSpecks 21 = .ok (.ifCond .eq 7, 3) := by decide +kernel
theorem dX5_areSpecks_24 : decode cX5_areSpecks 24 = .ok (.iconst 1, 1) := by decide +kernel
theorem dX5_areSpecks_25 : decode cX5_areSpecks 25 = .ok (.goto 4, 3) := by decide +kernel
theorem dX5_areSpecks_28 : decode cX5_areSpecks 28 = .ok (.iconst 0, 1) := by decide +kernel
theorem dX5_areSpecks_29 : decode cX5_areSpecks 29 = .ok (.ireturn, 1) := by decide +kernel
set_option maxRecDepth 20000 in
theorem ggX5_findsSpecks_X5_findsSpots : GoodIn wsX5_findsSpecks wsX5_findsSpots := goodIn_r _ [11, 1, 6, 4, 5, 3, 12, 13, 14, 10, 15, 16, 17, 18, 19, 20, 21, 22, 23, 24, 25, 26, 27, 28, 29, 30, 31, 32, 33, 45, 46, 47, 48, 49, 50, 51, 52, 53, 54, 55, 56, 57, 58, 59, 60, 61, 62, 63, 64, 65, 66, 67, 68] (by decide +kernel) (by decide +kernel)
set_option maxRecDepth 20000 in
theorem gX5_findsSpecks_X5_findsSpots : GoodIn wsX5_findsSpecks (wsV RX5 143 RX5 yX5_findsSpots wsX5_findsSpots) := goodIn_app (goodIn_of _ (by decide +kernel)) ggX5_findsSpecks_X5_findsSpots
set_option maxRecDepth 20000 in
theorem ggX5_findsSpecks_X5_isNear : GoodIn wsX5_findsSpecks wsX5_isNear := goodIn_r _ [37, 38, 39, 40, 41, 4, 42, 43, 44, 5, 6, 3, 45, 46, 47, 48, 49, 50, 51, 52, 53, 54, 55, 56, 57, 58, 59, 60, 61, 62, 63, 64, 65, 66, 67, 68] (by decide +kernel) (by decide +kernel)
set_option maxRecDepth 20000 in
theorem gX5_findsSpecks_X5_isNear : GoodIn wsX5_findsSpecks (wsV RX5 202 RX5 yX5_isNear wsX5_isNear) := goodIn_app (goodIn_of _ (by decide +kernel)) ggX5_findsSpecks_X5_isNear
theorem dX5_findsSpecks_0 : decode cX5_findsSpecks 0 = .ok (.aload_n 0, 1) := by decide +kernel
theorem dX5_findsSpecks_1 : decode cX5_findsSpecks 1 = .ok (.iload_n 1, 1) := by decide +kernel
theorem dX5_findsSpecks_2 : decode cX5_findsSpecks 2 = .ok (.invokevirtual 143, 3) := by decide +kernel
theorem dX5_findsSpecks_5 : decode cX5_findsSpecks 5 = .ok (.iconst 1, 1) := by decide +kernel
theorem dX5_findsSpecks_6 : decode cX5_findsSpecks 6 = .ok (.istore 4, 2) := by decide +kernel
theorem dX5_findsSpecks_8 : decode cX5_findsSpecks 8 = .ok (.iload 4, 2) := by decide +kernel
theorem dX5_findsSpecks_10 : decode cX5_findsSpecks 10 = .ok (.aload_n 0, 1) := by decide +kernel
theorem dX5_findsSpecks_11 : decode cX5_findsSpecks 11 = .ok (.getfield 131, 3) := by decide +kernel
theorem dX5_findsSpecks_14 : decode cX5_findsSpecks 14 = .ok (.if_icmp .gt 32, 3) := by decide +kernel
theorem dX5_findsSpecks_17 : decode cX5_findsSpecks 17 = .ok (.aload_n 0, 1) := by decide +kernel
theorem dX5_findsSpecks_18 : decode cX5_findsSpecks 18 = .ok (.getfield 52, 3) := by decide +kernel
theorem dX5_findsSpecks_21 : decode cX5_findsSpecks 21 = .ok (.iload 4, 2) := by decide +kernel
theorem dX5_findsSpecks_23 : decode cX5_findsSpecks 23 = .ok (.aload_n 0, 1) := by decide +kernel
theorem dX5_findsSpecks_24 : decode cX5_findsSpecks 24 = .ok (.getfield 43, 3) := by decide +kernel
theorem dX5_findsSpecks_27 : decode cX5_findsSpecks 27 = .ok (.iload 4, 2) := by decide +kernel
theorem dX5_findsSpecks_29 : decode cX5_findsSpecks 29 = .ok (.iaload, 1) := by decide +kernel
theorem dX5_findsSpecks_30 : decode cX5_findsSpecks 30 = .ok (.iload_n 2, 1) := by decide +kernel
theorem dX5_findsSpecks_31 : decode cX5_findsSpecks 31 = .ok (.if_icmp .gt 7, 3) := by decide +kernel
theorem dX5_findsSpecks_34 : decode cX5_findsSpecks 34 = .ok (.iconst 1, 1) := by decide +kernel
theorem dX5_findsSpecks_35 : decode cX5_findsSpecks 35 = .ok (.goto 4, 3) := by decide +kernel
theorem dX5_findsSpecks_38 : decode cX5_findsSpecks 38 = .ok (.iconst 0, 1) := by decide +kernel
theorem dX5_findsSpecks_39 : decode cX5_findsSpecks 39 = .ok (.bastore, 1) := by decide +kernel
theorem dX5_findsSpecks_40 : decode cX5_findsSpecks 40 = .ok (.iinc 4 1, 3) := by decide +kernel
theorem dX5_findsSpecks_43 : decode cX5_findsSpecks 43 = .ok (.goto (-35), 3) := by decide +kernel
theorem dX5_findsSpecks_46 : decode cX5_findsSpecks 46 = .ok (.iconst 0, 1) := by decide +kernel
theorem dX5_findsSpecks_47 : decode cX5_findsSpecks 47 = .ok (.istore 4, 2) := by decide +kernel
theorem dX5_findsSpecks_49 : decode cX5_findsSpecks 49 = .ok (.iload 4, 2) := by decide +kernel
theorem dX5_findsSpecks_51 : decode cX5_findsSpecks 51 = .ok (.aload_n 0, 1) := by decide +kernel
theorem dX5_findsSpecks_52 : decode cX5_findsSpecks 52 = .ok (.getfield 13, 3) := by decide +kernel
theorem dX5_findsSpecks_55 : decode cX5_findsSpecks 55 = .ok (.iload_n 1, 1) := by decide +kernel
theorem dX5_findsSpecks_56 : decode cX5_findsSpecks 56 = .ok (.iaload, 1) := by decide +kernel
theorem dX5_findsSpecks_57 : decode cX5_findsSpecks 57 = .ok (.if_icmp .ge 81, 3) := by decide +kernel
theorem dX5_findsSpecks_60 : decode cX5_findsSpecks 60 = .ok (.iconst 0, 1) := by decide +kernel
theorem dX5_findsSpecks_61 : decode cX5_findsSpecks 61 = .ok (.istore 5, 2) := by decide +kernel
theorem dX5_findsSpecks_63 : decode cX5_findsSpecks 63 = .ok (.iload 5, 2) := by decide +kernel
theorem dX5_findsSpecks_65 : decode cX5_findsSpecks 65 = .ok (.aload_n 0, 1) := by decide +kernel
theorem dX5_findsSpecks_66 : decode cX5_findsSpecks 66 = .ok (.getfield 9, 3) := by decide +kernel
theorem dX5_findsSpecks_69 : decode cX5_findsSpecks 69 = .ok (.iload_n 1, 1) := by decide +kernel
theorem dX5_findsSpecks_70 : decode cX5_findsSpecks 70 = .ok (.iaload, 1) := by decide +kernel
theorem dX5_findsSpecks_71 : decode cX5_findsSpecks 71 = .ok (.if_icmp .ge 61, 3) := by decide +kernel
theorem dX5_findsSpecks_74 : decode cX5_findsSpecks 74 = .ok (.aload_n 0, 1) := by decide +kernel
theorem dX5_findsSpecks_75 : decode cX5_findsSpecks 75 = .ok (.getfield 40, 3) := by decide +kernel
theorem dX5_findsSpecks_78 : decode cX5_findsSpecks 78 = .ok (.iload 4, 2) := by decide +kernel
theorem dX5_findsSpecks_80 : decode cX5_findsSpecks 80 = .ok (.bipush 64, 2) := by decide +kernel
theorem dX5_findsSpecks_82 : decode cX5_findsSpecks 82 = .ok (.imul, 1) := by decide +kernel
theorem dX5_findsSpecks_83 : decode cX5_findsSpecks 83 = .ok (.iload 5, 2) := by decide +kernel
theorem dX5_findsSpecks_85 : decode cX5_findsSpecks 85 = .ok (.iadd, 1) := by decide +kernel
theorem dX5_findsSpecks_86 : decode cX5_findsSpecks 86 = .ok (.iaload, 1) := by decide +kernel
theorem dX5_findsSpecks_87 : decode cX5_findsSpecks 87 = .ok (.istore 6, 2) := by decide +kernel
theorem dX5_findsSpecks_89 : decode cX5_findsSpecks 89 = .ok (.iload 6, 2) := by decide +kernel
theorem dX5_findsSpecks_91 : decode cX5_findsSpecks 91 = .ok (.ifCond .le 35, 3) := by decide +kernel
theorem dX5_findsSpecks_94 : decode cX5_findsSpecks 94 = .ok (.aload_n 0, 1) := by decide +kernel
theorem dX5_findsSpecks_95 : decode cX5_findsSpecks 95 = .ok (.getfield 52, 3) := by decide +kernel
theorem dX5_findsSpecks_98 : decode cX5_findsSpecks 98 = .ok (.iload 6, 2) := by decide +kernel
theorem dX5_findsSpecks_100 : decode cX5_findsSpecks 100 = .ok (.baload, 1) := by decide +kernel
theorem dX5_findsSpecks_101 : decode cX5_findsSpecks 101 = .ok (.ifCond .eq 25, 3) := by decide +kernel
theorem dX5_findsSpecks_104 : decode cX5_findsSpecks 104 = .ok (.aload_n 0, 1) := by decide +kernel
theorem dX5_findsSpecks_105 : decode cX5_findsSpecks 105 = .ok (.iload_n 1, 1) := by decide +kernel
theorem dX5_findsSpecks_106 : decode cX5_findsSpecks 106 = .ok (.iload 5, 2) := by decide +kernel
theorem dX5_findsSpecks_108 : decode cX5_findsSpecks 108 = .ok (.iload 4, 2) := by decide +kernel
theorem dX5_findsSpecks_110 : decode cX5_findsSpecks 110 = .ok (.iload_n 2, 1) := by decide +kernel
theorem dX5_findsSpecks_111 : decode cX5_findsSpecks 111 = .ok (.iload_n 3, 1) := by decide +kernel
theorem dX5_findsSpecks_112 : decode cX5_findsSpecks 112 = .ok (.invokevirtual 202, 3) := by decide +kernel
theorem dX5_findsSpecks_115 : decode cX5_findsSpecks 115 = .ok (.ifCond .eq 11, 3) := by decide +kernel
theorem dX5_findsSpecks_118 : decode cX5_findsSpecks 118 = .ok (.aload_n 0, 1) := by decide +kernel
theorem dX5_findsSpecks_119 : decode cX5_findsSpecks 119 = .ok (.getfield 52, 3) := by decide +kernel
theorem dX5_findsSpecks_122 : decode cX5_findsSpecks 122 = .ok (.iload 6, 2) := by decide +kernel
theorem dX5_findsSpecks_124 : decode cX5_findsSpecks 124 = .ok (.iconst 0, 1) := by decide +kernel
theorem dX5_findsSpecks_125 : decode cX5_findsSpecks 125 = .ok (.bastore, 1) := by decide +kernel
theorem dX5_findsSpecks_126 : decode cX5_findsSpecks 126 = .ok (.iinc 5 1, 3) := by decide +kernel
theorem dX5_findsSpecks_129 : decode cX5_findsSpecks 129 = .ok (.goto (-66), 3) := by decide +kernel
theorem dX5_findsSpecks_132 : decode cX5_findsSpecks 132 = .ok (.iinc 4 1, 3) := by decide +kernel
theorem dX5_findsSpecks_135 : decode cX5_findsSpecks 135 = .ok (.goto (-86), 3) := by decide +kernel
theorem dX5_findsSpecks_138 : decode cX5_findsSpecks 138 = .ok (.iconst 0, 1) := by decide +kernel
theorem dX5_findsSpecks_139 : decode cX5_findsSpecks 139 = .ok (.istore 4, 2) := by decide +kernel
theorem dX5_findsSpecks_141 : decode cX5_findsSpecks 141 = .ok (.iconst 1, 1) := by decide +kernel
theorem dX5_findsSpecks_142 : decode cX5_findsSpecks 142 = .ok (.istore 5, 2) := by decide +kernel
theorem dX5_findsSpecks_144 : decode cX5_findsSpecks 144 = .ok (.iload 5, 2) := by decide +kernel
theorem dX5_findsSpecks_146 : decode cX5_findsSpecks 146 = .ok (.aload_n 0, 1) := by decide +kernel
theorem dX5_findsSpecks_147 : decode cX5_findsSpecks 147 = .ok (.getfield 131, 3) := by decide +kernel
theorem dX5_findsSpecks_150 : decode cX5_findsSpecks 150 = .ok (.if_icmp .gt 29, 3) := by decide +kernel
theorem dX5_findsSpecks_153 : decode cX5_findsSpecks 153 = .ok (.iload 4, 2) := by decide +kernel
theorem dX5_findsSpecks_155 : decode cX5_findsSpecks 155 = .ok (.aload_n 0, 1) := by decide +kernel
theorem dX5_findsSpecks_156 : decode cX5_findsSpecks 156 = .ok (.getfield 52, 3) := by decide +kernel
theorem dX5_findsSpecks_159 : decode cX5_findsSpecks 159 = .ok (.iload 5, 2) := by decide +kernel
theorem dX5_findsSpecks_161 : decode cX5_findsSpecks 161 = .ok (.baload, 1) := by decide +kernel
theorem dX5_findsSpecks_162 : decode cX5_findsSpecks 162 = .ok (.ifCond .eq 7, 3) := by decide +kernel
theorem dX5_findsSpecks_165 : decode cX5_findsSpecks 165 = .ok (.iconst 1, 1) := by decide +kernel
theorem dX5_findsSpecks_166 : decode cX5_findsSpecks 166 = .ok (.goto 4, 3) := by decide +kernel
theorem dX5_findsSpecks_169 : decode cX5_findsSpecks 169 = .ok (.iconst 0, 1) := by decide +kernel
theorem dX5_findsSpecks_170 : decode cX5_findsSpecks 170 = .ok (.iadd, 1) := by decide +kernel
theorem dX5_findsSpecks_171 : decode cX5_findsSpecks 171 = .ok (.istore 4, 2) := by decide +kernel
theorem dX5_findsSpecks_173 : decode cX5_findsSpecks 173 = .ok (.iinc 5 1, 3) := by decide +kernel
theorem dX5_findsSpecks_176 : decode cX5_findsSpecks 176 = .ok (.goto (-32), 3) := by decide +kernel
theorem dX5_findsSpecks_179 : decode cX5_findsSpecks 179 = .ok (.iload 4, 2) := by decide +kernel
theorem dX5_findsSpecks_181 : decode cX5_findsSpecks 181 = .ok (.ireturn, 1) := by decide +kernel
theorem dX5_isNear_0 : decode cX5_isNear 0 = .ok (.iconst 0, 1) := by decide +kernel
theorem dX5_isNear_1 : decode cX5_isNear 1 = .ok (.iload_n 3, 1) := by decide +kernel
theorem dX5_isNear_2 : decode cX5_isNear 2 = .ok (.iload 5, 2) := by decide +kernel
theorem dX5_isNear_4 : decode cX5_isNear 4 = .ok (.isub, 1) := by decide +kernel
theorem dX5_isNear_5 : decode cX5_isNear 5 = .ok (.invokestatic 146, 3) := by decide +kernel
theorem dX5_isNear_8 : decode cX5_isNear 8 = .ok (.istore 6, 2) := by decide +kernel
theorem dX5_isNear_10 : decode cX5_isNear 10 = .ok (.iload 6, 2) := by decide +kernel
theorem dX5_isNear_12 : decode cX5_isNear 12 = .ok (.aload_n 0, 1) := by decide +kernel
theorem dX5_isNear_13 : decode cX5_isNear 13 = .ok (.getfield 13, 3) := by decide +kernel
theorem dX5_isNear_16 : decode cX5_isNear 16 = .ok (.iload_n 1, 1) := by decide +kernel
theorem dX5_isNear_17 : decode cX5_isNear 17 = .ok (.iaload, 1) := by decide +kernel
theorem dX5_isNear_18 : decode cX5_isNear 18 = .ok (.iconst 1, 1) := by decide +kernel
theorem dX5_isNear_19 : decode cX5_isNear 19 = .ok (.isub, 1) := by decide +kernel
theorem dX5_isNear_20 : decode cX5_isNear 20 = .ok (.iload_n 3, 1) := by decide +kernel
theorem dX5_isNear_21 : decode cX5_isNear 21 = .ok (.iload 5, 2) := by decide +kernel
theorem dX5_isNear_23 : decode cX5_isNear 23 = .ok (.iadd, 1) := by decide +kernel
theorem dX5_isNear_24 : decode cX5_isNear 24 = .ok (.invokestatic 91, 3) := by decide +kernel
theorem dX5_isNear_27 : decode cX5_isNear 27 = .ok (.if_icmp .gt 79, 3) := by decide +kernel
theorem dX5_isNear_30 : decode cX5_isNear 30 = .ok (.iconst 0, 1) := by decide +kernel
theorem dX5_isNear_31 : decode cX5_isNear 31 = .ok (.iload_n 2, 1) := by decide +kernel
theorem dX5_isNear_32 : decode cX5_isNear 32 = .ok (.iload 5, 2) := by decide +kernel
theorem dX5_isNear_34 : decode cX5_isNear 34 = .ok (.isub, 1) := by decide +kernel
theorem dX5_isNear_35 : decode cX5_isNear 35 = .ok (.invokestatic 146, 3) := by decide +kernel
theorem dX5_isNear_38 : decode cX5_isNear 38 = .ok (.istore 7, 2) := by decide +kernel
theorem dX5_isNear_40 : decode cX5_isNear 40 = .ok (.iload 7, 2) := by decide +kernel
theorem dX5_isNear_42 : decode cX5_isNear 42 = .ok (.aload_n 0, 1) := by decide +kernel
theorem dX5_isNear_43 : decode cX5_isNear 43 = .ok (.getfield 9, 3) := by decide +kernel
theorem dX5_isNear_46 : decode cX5_isNear 46 = .ok (.iload_n 1, 1) := by decide +kernel
theorem dX5_isNear_47 : decode cX5_isNear 47 = .ok (.iaload, 1) := by decide +kernel
theorem dX5_isNear_48 : decode cX5_isNear 48 = .ok (.iconst 1, 1) := by decide +kernel
theorem dX5_isNear_49 : decode cX5_isNear 49 = .ok (.isub, 1) := by decide +kernel
theorem dX5_isNear_50 : decode cX5_isNear 50 = .ok (.iload_n 2, 1) := by decide +kernel
theorem dX5_isNear_51 : decode cX5_isNear 51 = .ok (.iload 5, 2) := by decide +kernel
theorem dX5_isNear_53 : decode cX5_isNear 53 = .ok (.iadd, 1) := by decide +kernel
theorem dX5_isNear_54 : decode cX5_isNear 54 = .ok (.invokestatic 91, 3) := by decide +kernel
theorem dX5_isNear_57 : decode cX5_isNear 57 = .ok (.if_icmp .gt 43, 3) := by decide +kernel
theorem dX5_isNear_60 : decode cX5_isNear 60 = .ok (.aload_n 0, 1) := by decide +kernel
theorem dX5_isNear_61 : decode cX5_isNear 61 = .ok (.getfield 40, 3) := by decide +kernel
theorem dX5_isNear_64 : decode cX5_isNear 64 = .ok (.iload 6, 2) := by decide +kernel
theorem dX5_isNear_66 : decode cX5_isNear 66 = .ok (.bipush 64, 2) := by decide +kernel
theorem dX5_isNear_68 : decode cX5_isNear 68 = .ok (.imul, 1) := by decide +kernel
theorem dX5_isNear_69 : decode cX5_isNear 69 = .ok (.iload 7, 2) := by decide +kernel
theorem dX5_isNear_71 : decode cX5_isNear 71 = .ok (.iadd, 1) := by decide +kernel
theorem dX5_isNear_72 : decode cX5_isNear 72 = .ok (.iaload, 1) := by decide +kernel
theorem dX5_isNear_73 : decode cX5_isNear 73 = .ok (.istore 8, 2) := by decide +kernel
theorem dX5_isNear_75 : decode cX5_isNear 75 = .ok (.iload 8, 2) := by decide +kernel
theorem dX5_isNear_77 : decode cX5_isNear 77 = .ok (.ifCond .le 17, 3) := by decide +kernel
theorem dX5_isNear_80 : decode cX5_isNear 80 = .ok (.aload_n 0, 1) := by decide +kernel
theorem dX5_isNear_81 : decode cX5_isNear 81 = .ok (.getfield 43, 3) := by decide +kernel
theorem dX5_isNear_84 : decode cX5_isNear 84 = .ok (.iload 8, 2) := by decide +kernel
theorem dX5_isNear_86 : decode cX5_isNear 86 = .ok (.iaload, 1) := by decide +kernel
theorem dX5_isNear_87 : decode cX5_isNear 87 = .ok (.iload 4, 2) := by decide +kernel
theorem dX5_isNear_89 : decode cX5_isNear 89 = .ok (.if_icmp .le 5, 3) := by decide +kernel
theorem dX5_isNear_92 : decode cX5_isNear 92 = .ok (.iconst 1, 1) := by decide +kernel
theorem dX5_isNear_93 : decode cX5_isNear 93 = .ok (.ireturn, 1) := by decide +kernel
theorem dX5_isNear_94 : decode cX5_isNear 94 = .ok (.iinc 7 1, 3) := by decide +kernel
theorem dX5_isNear_97 : decode cX5_isNear 97 = .ok (.goto (-57), 3) := by decide +kernel
theorem dX5_isNear_100 : decode cX5_isNear 100 = .ok (.iinc 6 1, 3) := by decide +kernel
theorem dX5_isNear_103 : decode cX5_isNear 103 = .ok (.goto (-93), 3) := by decide +kernel
theorem dX5_isNear_106 : decode cX5_isNear 106 = .ok (.iconst 0, 1) := by decide +kernel
theorem dX5_isNear_107 : decode cX5_isNear 107 = .ok (.ireturn, 1) := by decide +kernel
set_option maxRecDepth 20000 in
theorem ggX5_specks_X5_isPage : GoodIn wsX5_specks wsX5_isPage := goodIn_r _ [6, 7, 8, 9, 5, 10, 55, 56, 57, 58, 59, 60, 61, 62, 63, 64, 65, 66, 67, 68, 69, 70, 71, 72, 73, 74, 75, 76, 77, 78] (by decide +kernel) (by decide +kernel)
set_option maxRecDepth 20000 in
theorem gX5_specks_X5_isPage : GoodIn wsX5_specks (wsV RX5 81 RX5 yX5_isPage wsX5_isPage) := goodIn_app (goodIn_of _ (by decide +kernel)) ggX5_specks_X5_isPage
set_option maxRecDepth 20000 in
theorem ggX5_specks_X5_areSpecks : GoodIn wsX5_specks wsX5_areSpecks := goodIn_r _ [13, 14, 15, 8, 9, 5, 10] (by decide +kernel) (by decide +kernel)
set_option maxRecDepth 20000 in
theorem gX5_specks_X5_areSpecks : GoodIn wsX5_specks (va_wsS RX5 206 yX5_areSpecks wsX5_areSpecks) := goodIn_app (goodIn_of _ (by decide +kernel)) ggX5_specks_X5_areSpecks
set_option maxRecDepth 20000 in
theorem ggX5_specks_X5_findsSpecks : GoodIn wsX5_specks wsX5_findsSpecks := goodIn_r _ [19, 20, 21, 22, 23, 24, 25, 26, 27, 28, 5, 29, 30, 31, 32, 33, 34, 35, 36, 37, 38, 39, 40, 41, 42, 43, 2, 3, 4, 6, 7, 8, 9, 10, 44, 45, 46, 47, 48, 49, 50, 51, 52, 53, 54, 55, 56, 57, 58, 59, 60, 61, 62, 63, 64, 65, 66, 67, 68, 69, 70, 71, 72, 73, 74, 75, 76, 77, 78] (by decide +kernel) (by decide +kernel)
set_option maxRecDepth 20000 in
theorem gX5_specks_X5_findsSpecks : GoodIn wsX5_specks (wsV RX5 209 RX5 yX5_findsSpecks wsX5_findsSpecks) := goodIn_app (goodIn_of _ (by decide +kernel)) ggX5_specks_X5_findsSpecks
theorem dX5_specks_0 : decode cX5_specks 0 = .ok (.aload_n 0, 1) := by decide +kernel
theorem dX5_specks_1 : decode cX5_specks 1 = .ok (.iconst 0, 1) := by decide +kernel
theorem dX5_specks_2 : decode cX5_specks 2 = .ok (.putfield 64, 3) := by decide +kernel
theorem dX5_specks_5 : decode cX5_specks 5 = .ok (.aload_n 0, 1) := by decide +kernel
theorem dX5_specks_6 : decode cX5_specks 6 = .ok (.iload_n 1, 1) := by decide +kernel
theorem dX5_specks_7 : decode cX5_specks 7 = .ok (.invokevirtual 81, 3) := by decide +kernel
theorem dX5_specks_10 : decode cX5_specks 10 = .ok (.ifCond .eq 21, 3) := by decide +kernel
theorem dX5_specks_13 : decode cX5_specks 13 = .ok (.iload_n 2, 1) := by decide +kernel
theorem dX5_specks_14 : decode cX5_specks 14 = .ok (.iload_n 3, 1) := by decide +kernel
theorem dX5_specks_15 : decode cX5_specks 15 = .ok (.invokestatic 206, 3) := by decide +kernel
theorem dX5_specks_18 : decode cX5_specks 18 = .ok (.ifCond .eq 13, 3) := by decide +kernel
theorem dX5_specks_21 : decode cX5_specks 21 = .ok (.aload_n 0, 1) := by decide +kernel
theorem dX5_specks_22 : decode cX5_specks 22 = .ok (.iload_n 1, 1) := by decide +kernel
theorem dX5_specks_23 : decode cX5_specks 23 = .ok (.iload_n 2, 1) := by decide +kernel
theorem dX5_specks_24 : decode cX5_specks 24 = .ok (.iload_n 3, 1) := by decide +kernel
theorem dX5_specks_25 : decode cX5_specks 25 = .ok (.invokevirtual 209, 3) := by decide +kernel
theorem dX5_specks_28 : decode cX5_specks 28 = .ok (.goto 4, 3) := by decide +kernel
theorem dX5_specks_31 : decode cX5_specks 31 = .ok (.iconst (-1), 1) := by decide +kernel
theorem dX5_specks_32 : decode cX5_specks 32 = .ok (.ireturn, 1) := by decide +kernel
set_option maxRecDepth 20000 in
theorem ggX5_takes_X5_inks : GoodIn wsX5_takes wsX5_inks := goodIn_r _ [8, 9, 10, 11, 12, 13, 14, 15, 16, 17, 18, 19, 20, 21, 22, 23, 24, 25, 26, 27, 28, 29, 30, 31, 32, 33] (by decide +kernel) (by decide +kernel)
set_option maxRecDepth 20000 in
theorem gX5_takes_X5_inks : GoodIn wsX5_takes (wsV RX5 105 RX5 yX5_inks wsX5_inks) := goodIn_app (goodIn_of _ (by decide +kernel)) ggX5_takes_X5_inks
theorem dX5_takes_0 : decode cX5_takes 0 = .ok (.aload_n 0, 1) := by decide +kernel
theorem dX5_takes_1 : decode cX5_takes 1 = .ok (.iload_n 1, 1) := by decide +kernel
theorem dX5_takes_2 : decode cX5_takes 2 = .ok (.iload_n 2, 1) := by decide +kernel
theorem dX5_takes_3 : decode cX5_takes 3 = .ok (.iload_n 3, 1) := by decide +kernel
theorem dX5_takes_4 : decode cX5_takes 4 = .ok (.iconst 0, 1) := by decide +kernel
theorem dX5_takes_5 : decode cX5_takes 5 = .ok (.invokevirtual 105, 3) := by decide +kernel
theorem dX5_takes_8 : decode cX5_takes 8 = .ok (.aload_n 0, 1) := by decide +kernel
theorem dX5_takes_9 : decode cX5_takes 9 = .ok (.getfield 55, 3) := by decide +kernel
theorem dX5_takes_12 : decode cX5_takes 12 = .ok (.aload_n 0, 1) := by decide +kernel
theorem dX5_takes_13 : decode cX5_takes 13 = .ok (.getfield 149, 3) := by decide +kernel
theorem dX5_takes_16 : decode cX5_takes 16 = .ok (.iload_n 2, 1) := by decide +kernel
theorem dX5_takes_17 : decode cX5_takes 17 = .ok (.iastore, 1) := by decide +kernel
theorem dX5_takes_18 : decode cX5_takes 18 = .ok (.aload_n 0, 1) := by decide +kernel
theorem dX5_takes_19 : decode cX5_takes 19 = .ok (.getfield 58, 3) := by decide +kernel
theorem dX5_takes_22 : decode cX5_takes 22 = .ok (.aload_n 0, 1) := by decide +kernel
theorem dX5_takes_23 : decode cX5_takes 23 = .ok (.getfield 149, 3) := by decide +kernel
theorem dX5_takes_26 : decode cX5_takes 26 = .ok (.iload_n 3, 1) := by decide +kernel
theorem dX5_takes_27 : decode cX5_takes 27 = .ok (.iastore, 1) := by decide +kernel
theorem dX5_takes_28 : decode cX5_takes 28 = .ok (.aload_n 0, 1) := by decide +kernel
theorem dX5_takes_29 : decode cX5_takes 29 = .ok (.dup, 1) := by decide +kernel
theorem dX5_takes_30 : decode cX5_takes 30 = .ok (.getfield 149, 3) := by decide +kernel
theorem dX5_takes_33 : decode cX5_takes 33 = .ok (.iconst 1, 1) := by decide +kernel
theorem dX5_takes_34 : decode cX5_takes 34 = .ok (.iadd, 1) := by decide +kernel
theorem dX5_takes_35 : decode cX5_takes 35 = .ok (.putfield 149, 3) := by decide +kernel
theorem dX5_takes_38 : decode cX5_takes 38 = .ok (.return_, 1) := by decide +kernel
set_option maxRecDepth 20000 in
theorem ggX5_take_X5_isPage : GoodIn wsX5_take wsX5_isPage := goodIn_r _ [11, 12, 13, 14, 10, 15, 77, 78, 79, 80, 81, 82, 83, 84, 85, 86, 87, 88, 89, 90, 91, 92, 93, 94, 95, 96, 97, 98, 99, 100] (by decide +kernel) (by decide +kernel)
set_option maxRecDepth 20000 in
theorem gX5_take_X5_isPage : GoodIn wsX5_take (wsV RX5 81 RX5 yX5_isPage wsX5_isPage) := goodIn_app (goodIn_of _ (by decide +kernel)) ggX5_take_X5_isPage
set_option maxRecDepth 20000 in
theorem ggX5_take_X5_areSpecks : GoodIn wsX5_take wsX5_areSpecks := goodIn_r _ [18, 19, 20, 13, 14, 10, 15] (by decide +kernel) (by decide +kernel)
set_option maxRecDepth 20000 in
theorem gX5_take_X5_areSpecks : GoodIn wsX5_take (va_wsS RX5 206 yX5_areSpecks wsX5_areSpecks) := goodIn_app (goodIn_of _ (by decide +kernel)) ggX5_take_X5_areSpecks
set_option maxRecDepth 20000 in
theorem ggX5_take_X5_changing : GoodIn wsX5_take wsX5_changing := goodIn_r _ [24, 25, 26, 27, 28, 29, 30, 31, 32, 4, 33, 3, 34, 35, 36, 77, 78, 79, 80, 81, 82, 83, 84, 85, 86, 87, 88, 89, 90, 91, 92, 93, 94, 95, 96, 97, 98, 99, 100] (by decide +kernel) (by decide +kernel)
set_option maxRecDepth 20000 in
theorem gX5_take_X5_changing : GoodIn wsX5_take (wsV RX5 101 RX5 yX5_changing wsX5_changing) := goodIn_app (goodIn_of _ (by decide +kernel)) ggX5_take_X5_changing
set_option maxRecDepth 20000 in
theorem ggX5_take_X5_findsSpecks : GoodIn wsX5_take wsX5_findsSpecks := goodIn_r _ [40, 41, 6, 42, 3, 4, 5, 43, 44, 45, 10, 46, 47, 48, 49, 50, 36, 51, 52, 53, 54, 55, 56, 57, 58, 59, 7, 8, 9, 11, 12, 13, 14, 15, 60, 61, 62, 63, 64, 65, 29, 66, 27, 28, 30, 77, 78, 79, 80, 81, 82, 83, 84, 85, 86, 87, 88, 89, 90, 91, 92, 93, 94, 95, 96, 97, 98, 99, 100] (by decide +kernel) (by decide +kernel)
set_option maxRecDepth 20000 in
theorem gX5_take_X5_findsSpecks : GoodIn wsX5_take (wsV RX5 209 RX5 yX5_findsSpecks wsX5_findsSpecks) := goodIn_app (goodIn_of _ (by decide +kernel)) ggX5_take_X5_findsSpecks
set_option maxRecDepth 20000 in
theorem ggX5_take_X5_takes : GoodIn wsX5_take wsX5_takes := goodIn_r _ [70, 71, 2, 72, 73, 74, 75, 10, 76, 36, 77, 78, 79, 80, 81, 82, 83, 84, 85, 86, 87, 88, 89, 90, 91, 92, 93, 94, 95, 96, 97, 98, 99, 100] (by decide +kernel) (by decide +kernel)
set_option maxRecDepth 20000 in
theorem gX5_take_X5_takes : GoodIn wsX5_take (wsV RX5 212 RX5 yX5_takes wsX5_takes) := goodIn_app (goodIn_of _ (by decide +kernel)) ggX5_take_X5_takes
theorem dX5_take_0 : decode cX5_take 0 = .ok (.aload_n 0, 1) := by decide +kernel
theorem dX5_take_1 : decode cX5_take 1 = .ok (.iconst 0, 1) := by decide +kernel
theorem dX5_take_2 : decode cX5_take 2 = .ok (.putfield 64, 3) := by decide +kernel
theorem dX5_take_5 : decode cX5_take 5 = .ok (.aload_n 0, 1) := by decide +kernel
theorem dX5_take_6 : decode cX5_take 6 = .ok (.iload_n 1, 1) := by decide +kernel
theorem dX5_take_7 : decode cX5_take 7 = .ok (.invokevirtual 81, 3) := by decide +kernel
theorem dX5_take_10 : decode cX5_take 10 = .ok (.ifCond .eq 11, 3) := by decide +kernel
theorem dX5_take_13 : decode cX5_take 13 = .ok (.iload_n 2, 1) := by decide +kernel
theorem dX5_take_14 : decode cX5_take 14 = .ok (.iload_n 3, 1) := by decide +kernel
theorem dX5_take_15 : decode cX5_take 15 = .ok (.invokestatic 206, 3) := by decide +kernel
theorem dX5_take_18 : decode cX5_take 18 = .ok (.ifCond .ne 5, 3) := by decide +kernel
theorem dX5_take_21 : decode cX5_take 21 = .ok (.iconst (-1), 1) := by decide +kernel
theorem dX5_take_22 : decode cX5_take 22 = .ok (.ireturn, 1) := by decide +kernel
theorem dX5_take_23 : decode cX5_take 23 = .ok (.aload_n 0, 1) := by decide +kernel
theorem dX5_take_24 : decode cX5_take 24 = .ok (.iload_n 1, 1) := by decide +kernel
theorem dX5_take_25 : decode cX5_take 25 = .ok (.invokevirtual 101, 3) := by decide +kernel
theorem dX5_take_28 : decode cX5_take 28 = .ok (.aload_n 0, 1) := by decide +kernel
theorem dX5_take_29 : decode cX5_take 29 = .ok (.iload_n 1, 1) := by decide +kernel
theorem dX5_take_30 : decode cX5_take 30 = .ok (.iload_n 2, 1) := by decide +kernel
theorem dX5_take_31 : decode cX5_take 31 = .ok (.iload_n 3, 1) := by decide +kernel
theorem dX5_take_32 : decode cX5_take 32 = .ok (.invokevirtual 209, 3) := by decide +kernel
theorem dX5_take_35 : decode cX5_take 35 = .ok (.istore 4, 2) := by decide +kernel
theorem dX5_take_37 : decode cX5_take 37 = .ok (.aload_n 0, 1) := by decide +kernel
theorem dX5_take_38 : decode cX5_take 38 = .ok (.iconst 0, 1) := by decide +kernel
theorem dX5_take_39 : decode cX5_take 39 = .ok (.putfield 149, 3) := by decide +kernel
theorem dX5_take_42 : decode cX5_take 42 = .ok (.iconst 0, 1) := by decide +kernel
theorem dX5_take_43 : decode cX5_take 43 = .ok (.istore 5, 2) := by decide +kernel
theorem dX5_take_45 : decode cX5_take 45 = .ok (.iload 5, 2) := by decide +kernel
theorem dX5_take_47 : decode cX5_take 47 = .ok (.aload_n 0, 1) := by decide +kernel
theorem dX5_take_48 : decode cX5_take 48 = .ok (.getfield 13, 3) := by decide +kernel
theorem dX5_take_51 : decode cX5_take 51 = .ok (.iload_n 1, 1) := by decide +kernel
theorem dX5_take_52 : decode cX5_take 52 = .ok (.iaload, 1) := by decide +kernel
theorem dX5_take_53 : decode cX5_take 53 = .ok (.if_icmp .ge 68, 3) := by decide +kernel
theorem dX5_take_56 : decode cX5_take 56 = .ok (.iconst 0, 1) := by decide +kernel
theorem dX5_take_57 : decode cX5_take 57 = .ok (.istore 6, 2) := by decide +kernel
theorem dX5_take_59 : decode cX5_take 59 = .ok (.iload 6, 2) := by decide +kernel
theorem dX5_take_61 : decode cX5_take 61 = .ok (.aload_n 0, 1) := by decide +kernel
theorem dX5_take_62 : decode cX5_take 62 = .ok (.getfield 9, 3) := by decide +kernel
theorem dX5_take_65 : decode cX5_take 65 = .ok (.iload_n 1, 1) := by decide +kernel
theorem dX5_take_66 : decode cX5_take 66 = .ok (.iaload, 1) := by decide +kernel
theorem dX5_take_67 : decode cX5_take 67 = .ok (.if_icmp .ge 48, 3) := by decide +kernel
theorem dX5_take_70 : decode cX5_take 70 = .ok (.aload_n 0, 1) := by decide +kernel
theorem dX5_take_71 : decode cX5_take 71 = .ok (.getfield 40, 3) := by decide +kernel
theorem dX5_take_74 : decode cX5_take 74 = .ok (.iload 5, 2) := by decide +kernel
theorem dX5_take_76 : decode cX5_take 76 = .ok (.bipush 64, 2) := by decide +kernel
theorem dX5_take_78 : decode cX5_take 78 = .ok (.imul, 1) := by decide +kernel
theorem dX5_take_79 : decode cX5_take 79 = .ok (.iload 6, 2) := by decide +kernel
theorem dX5_take_81 : decode cX5_take 81 = .ok (.iadd, 1) := by decide +kernel
theorem dX5_take_82 : decode cX5_take 82 = .ok (.iaload, 1) := by decide +kernel
theorem dX5_take_83 : decode cX5_take 83 = .ok (.istore 7, 2) := by decide +kernel
theorem dX5_take_85 : decode cX5_take 85 = .ok (.iload 7, 2) := by decide +kernel
theorem dX5_take_87 : decode cX5_take 87 = .ok (.ifCond .le 22, 3) := by decide +kernel
theorem dX5_take_90 : decode cX5_take 90 = .ok (.aload_n 0, 1) := by decide +kernel
theorem dX5_take_91 : decode cX5_take 91 = .ok (.getfield 52, 3) := by decide +kernel
theorem dX5_take_94 : decode cX5_take 94 = .ok (.iload 7, 2) := by decide +kernel
theorem dX5_take_96 : decode cX5_take 96 = .ok (.baload, 1) := by decide +kernel
theorem dX5_take_97 : decode cX5_take 97 = .ok (.ifCond .eq 12, 3) := by decide +kernel
theorem dX5_take_100 : decode cX5_take 100 = .ok (.aload_n 0, 1) := by decide +kernel
theorem dX5_take_101 : decode cX5_take 101 = .ok (.iload_n 1, 1) := by decide +kernel
theorem dX5_take_102 : decode cX5_take 102 = .ok (.iload 6, 2) := by decide +kernel
theorem dX5_take_104 : decode cX5_take 104 = .ok (.iload 5, 2) := by decide +kernel
theorem dX5_take_106 : decode cX5_take 106 = .ok (.invokevirtual 212, 3) := by decide +kernel
theorem dX5_take_109 : decode cX5_take 109 = .ok (.iinc 6 1, 3) := by decide +kernel
theorem dX5_take_112 : decode cX5_take 112 = .ok (.goto (-53), 3) := by decide +kernel
theorem dX5_take_115 : decode cX5_take 115 = .ok (.iinc 5 1, 3) := by decide +kernel
theorem dX5_take_118 : decode cX5_take 118 = .ok (.goto (-73), 3) := by decide +kernel
theorem dX5_take_121 : decode cX5_take 121 = .ok (.aload_n 0, 1) := by decide +kernel
theorem dX5_take_122 : decode cX5_take 122 = .ok (.getfield 149, 3) := by decide +kernel
theorem dX5_take_125 : decode cX5_take 125 = .ok (.ireturn, 1) := by decide +kernel
set_option maxRecDepth 20000 in
theorem ggX5_isDark_X5_columnInk : GoodIn wsX5_isDark wsX5_columnInk := goodIn_r _ [6, 1, 7, 8, 9, 5, 10, 11, 12, 13, 14, 15, 16, 17, 18, 19, 20, 21, 22, 23, 24, 25, 26, 27, 28, 29, 30, 31, 32, 33, 34, 35] (by decide +kernel) (by decide +kernel)
set_option maxRecDepth 20000 in
theorem gX5_isDark_X5_columnInk : GoodIn wsX5_isDark (wsV RX5 140 RX5 yX5_columnInk wsX5_columnInk) := goodIn_app (goodIn_of _ (by decide +kernel)) ggX5_isDark_X5_columnInk
theorem dX5_isDark_0 : decode cX5_isDark 0 = .ok (.bipush 100, 2) := by decide +kernel
theorem dX5_isDark_2 : decode cX5_isDark 2 = .ok (.aload_n 0, 1) := by decide +kernel
theorem dX5_isDark_3 : decode cX5_isDark 3 = .ok (.iload_n 1, 1) := by decide +kernel
theorem dX5_isDark_4 : decode cX5_isDark 4 = .ok (.iload_n 2, 1) := by decide +kernel
theorem dX5_isDark_5 : decode cX5_isDark 5 = .ok (.invokevirtual 140, 3) := by decide +kernel
theorem dX5_isDark_8 : decode cX5_isDark 8 = .ok (.imul, 1) := by decide +kernel
theorem dX5_isDark_9 : decode cX5_isDark 9 = .ok (.iload_n 3, 1) := by decide +kernel
theorem dX5_isDark_10 : decode cX5_isDark 10 = .ok (.aload_n 0, 1) := by decide +kernel
theorem dX5_isDark_11 : decode cX5_isDark 11 = .ok (.getfield 13, 3) := by decide +kernel
theorem dX5_isDark_14 : decode cX5_isDark 14 = .ok (.iload_n 1, 1) := by decide +kernel
theorem dX5_isDark_15 : decode cX5_isDark 15 = .ok (.iaload, 1) := by decide +kernel
theorem dX5_isDark_16 : decode cX5_isDark 16 = .ok (.imul, 1) := by decide +kernel
theorem dX5_isDark_17 : decode cX5_isDark 17 = .ok (.if_icmp .lt 7, 3) := by decide +kernel
theorem dX5_isDark_20 : decode cX5_isDark 20 = .ok (.iconst 1, 1) := by decide +kernel
theorem dX5_isDark_21 : decode cX5_isDark 21 = .ok (.goto 4, 3) := by decide +kernel
theorem dX5_isDark_24 : decode cX5_isDark 24 = .ok (.iconst 0, 1) := by decide +kernel
theorem dX5_isDark_25 : decode cX5_isDark 25 = .ok (.ireturn, 1) := by decide +kernel
set_option maxRecDepth 20000 in
theorem ggX5_shadow_X5_isPage : GoodIn wsX5_shadow wsX5_isPage := goodIn_r _ [10, 11, 12, 13, 9, 14, 53, 54, 55, 56, 57, 58, 59, 60, 61, 62, 63, 64, 65, 66, 67, 68, 69, 70, 71, 72, 73, 74, 75, 76] (by decide +kernel) (by decide +kernel)
set_option maxRecDepth 20000 in
theorem gX5_shadow_X5_isPage : GoodIn wsX5_shadow (wsV RX5 81 RX5 yX5_isPage wsX5_isPage) := goodIn_app (goodIn_of _ (by decide +kernel)) ggX5_shadow_X5_isPage
set_option maxRecDepth 20000 in
theorem ggX5_shadow_X5_in : GoodIn wsX5_shadow wsX5_in := goodIn_r _ [14] (by decide +kernel) (by decide +kernel)
set_option maxRecDepth 20000 in
theorem gX5_shadow_X5_in : GoodIn wsX5_shadow (va_wsS RX5 71 yX5_in wsX5_in) := goodIn_app (goodIn_of _ (by decide +kernel)) ggX5_shadow_X5_in
set_option maxRecDepth 20000 in
theorem ggX5_shadow_X5_changing : GoodIn wsX5_shadow wsX5_changing := goodIn_r _ [18, 19, 20, 21, 22, 23, 24, 25, 26, 3, 27, 5, 28, 29, 30, 53, 54, 55, 56, 57, 58, 59, 60, 61, 62, 63, 64, 65, 66, 67, 68, 69, 70, 71, 72, 73, 74, 75, 76] (by decide +kernel) (by decide +kernel)
set_option maxRecDepth 20000 in
theorem gX5_shadow_X5_changing : GoodIn wsX5_shadow (wsV RX5 101 RX5 yX5_changing wsX5_changing) := goodIn_app (goodIn_of _ (by decide +kernel)) ggX5_shadow_X5_changing
set_option maxRecDepth 20000 in
theorem ggX5_shadow_X5_isDark : GoodIn wsX5_shadow wsX5_isDark := goodIn_r _ [34, 5, 35, 36, 37, 9, 38, 39, 40, 41, 42, 30, 53, 54, 55, 56, 57, 58, 59, 60, 61, 62, 63, 64, 65, 66, 67, 68, 69, 70, 71, 72, 73, 74, 75, 76] (by decide +kernel) (by decide +kernel)
set_option maxRecDepth 20000 in
theorem gX5_shadow_X5_isDark : GoodIn wsX5_shadow (wsV RX5 215 RX5 yX5_isDark wsX5_isDark) := goodIn_app (goodIn_of _ (by decide +kernel)) ggX5_shadow_X5_isDark
set_option maxRecDepth 20000 in
theorem ggX5_shadow_X5_has : GoodIn wsX5_shadow wsX5_has := goodIn_r _ [42, 30, 53, 54, 55, 56, 57, 58, 59, 60, 61, 62, 63, 64, 65, 66, 67, 68, 69, 70, 71, 72, 73, 74, 75, 76] (by decide +kernel) (by decide +kernel)
set_option maxRecDepth 20000 in
theorem gX5_shadow_X5_has : GoodIn wsX5_shadow (wsV RX5 109 RX5 yX5_has wsX5_has) := goodIn_app (goodIn_of _ (by decide +kernel)) ggX5_shadow_X5_has
set_option maxRecDepth 20000 in
theorem ggX5_shadow_X5_takes : GoodIn wsX5_shadow wsX5_takes := goodIn_r _ [46, 47, 4, 48, 49, 50, 51, 9, 52, 30, 53, 54, 55, 56, 57, 58, 59, 60, 61, 62, 63, 64, 65, 66, 67, 68, 69, 70, 71, 72, 73, 74, 75, 76] (by decide +kernel) (by decide +kernel)
set_option maxRecDepth 20000 in
theorem gX5_shadow_X5_takes : GoodIn wsX5_shadow (wsV RX5 212 RX5 yX5_takes wsX5_takes) := goodIn_app (goodIn_of _ (by decide +kernel)) ggX5_shadow_X5_takes
theorem dX5_shadow_0 : decode cX5_shadow 0 = .ok (.aload_n 0, 1) := by decide +kernel
theorem dX5_shadow_1 : decode cX5_shadow 1 = .ok (.iconst 0, 1) := by decide +kernel
theorem dX5_shadow_2 : decode cX5_shadow 2 = .ok (.putfield 64, 3) := by decide +kernel
theorem dX5_shadow_5 : decode cX5_shadow 5 = .ok (.aload_n 0, 1) := by decide +kernel
theorem dX5_shadow_6 : decode cX5_shadow 6 = .ok (.iload_n 1, 1) := by decide +kernel
theorem dX5_shadow_7 : decode cX5_shadow 7 = .ok (.invokevirtual 81, 3) := by decide +kernel
theorem dX5_shadow_10 : decode cX5_shadow 10 = .ok (.ifCond .eq 15, 3) := by decide +kernel
theorem dX5_shadow_13 : decode cX5_shadow 13 = .ok (.iload_n 2, 1) := by decide +kernel
theorem dX5_shadow_14 : decode cX5_shadow 14 = .ok (.i2l, 1) := by decide +kernel
theorem dX5_shadow_15 : decode cX5_shadow 15 = .ok (.lconst 1, 1) := by decide +kernel
theorem dX5_shadow_16 : decode cX5_shadow 16 = .ok (.ldc2_w 198, 3) := by decide +kernel
theorem dX5_shadow_19 : decode cX5_shadow 19 = .ok (.invokestatic 71, 3) := by decide +kernel
theorem dX5_shadow_22 : decode cX5_shadow 22 = .ok (.ifCond .ne 5, 3) := by decide +kernel
theorem dX5_shadow_25 : decode cX5_shadow 25 = .ok (.iconst (-1), 1) := by decide +kernel
theorem dX5_shadow_26 : decode cX5_shadow 26 = .ok (.ireturn, 1) := by decide +kernel
theorem dX5_shadow_27 : decode cX5_shadow 27 = .ok (.aload_n 0, 1) := by decide +kernel
theorem dX5_shadow_28 : decode cX5_shadow 28 = .ok (.iload_n 1, 1) := by decide +kernel
theorem dX5_shadow_29 : decode cX5_shadow 29 = .ok (.invokevirtual 101, 3) := by decide +kernel
theorem dX5_shadow_32 : decode cX5_shadow 32 = .ok (.aload_n 0, 1) := by decide +kernel
theorem dX5_shadow_33 : decode cX5_shadow 33 = .ok (.getfield 9, 3) := by decide +kernel
theorem dX5_shadow_36 : decode cX5_shadow 36 = .ok (.iload_n 1, 1) := by decide +kernel
theorem dX5_shadow_37 : decode cX5_shadow 37 = .ok (.iaload, 1) := by decide +kernel
theorem dX5_shadow_38 : decode cX5_shadow 38 = .ok (.istore_n 3, 1) := by decide +kernel
theorem dX5_shadow_39 : decode cX5_shadow 39 = .ok (.iconst 0, 1) := by decide +kernel
theorem dX5_shadow_40 : decode cX5_shadow 40 = .ok (.istore 4, 2) := by decide +kernel
theorem dX5_shadow_42 : decode cX5_shadow 42 = .ok (.iload 4, 2) := by decide +kernel
theorem dX5_shadow_44 : decode cX5_shadow 44 = .ok (.iload_n 3, 1) := by decide +kernel
theorem dX5_shadow_45 : decode cX5_shadow 45 = .ok (.if_icmp .ge 20, 3) := by decide +kernel
theorem dX5_shadow_48 : decode cX5_shadow 48 = .ok (.aload_n 0, 1) := by decide +kernel
theorem dX5_shadow_49 : decode cX5_shadow 49 = .ok (.iload_n 1, 1) := by decide +kernel
theorem dX5_shadow_50 : decode cX5_shadow 50 = .ok (.iload 4, 2) := by decide +kernel
theorem dX5_shadow_52 : decode cX5_shadow 52 = .ok (.iload_n 2, 1) := by decide +kernel
theorem dX5_shadow_53 : decode cX5_shadow 53 = .ok (.invokevirtual 215, 3) := by decide +kernel
theorem dX5_shadow_56 : decode cX5_shadow 56 = .ok (.ifCond .eq 9, 3) := by decide +kernel
theorem dX5_shadow_59 : decode cX5_shadow 59 = .ok (.iinc 4 1, 3) := by decide +kernel
theorem dX5_shadow_62 : decode cX5_shadow 62 = .ok (.goto (-20), 3) := by decide +kernel
theorem dX5_shadow_65 : decode cX5_shadow 65 = .ok (.iconst 0, 1) := by decide +kernel
theorem dX5_shadow_66 : decode cX5_shadow 66 = .ok (.istore 5, 2) := by decide +kernel
theorem dX5_shadow_68 : decode cX5_shadow 68 = .ok (.iload 4, 2) := by decide +kernel
theorem dX5_shadow_70 : decode cX5_shadow 70 = .ok (.iload_n 3, 1) := by decide +kernel
theorem dX5_shadow_71 : decode cX5_shadow 71 = .ok (.if_icmp .ge 24, 3) := by decide +kernel
theorem dX5_shadow_74 : decode cX5_shadow 74 = .ok (.aload_n 0, 1) := by decide +kernel
theorem dX5_shadow_75 : decode cX5_shadow 75 = .ok (.iload_n 1, 1) := by decide +kernel
theorem dX5_shadow_76 : decode cX5_shadow 76 = .ok (.iload_n 3, 1) := by decide +kernel
theorem dX5_shadow_77 : decode cX5_shadow 77 = .ok (.iconst 1, 1) := by decide +kernel
theorem dX5_shadow_78 : decode cX5_shadow 78 = .ok (.isub, 1) := by decide +kernel
theorem dX5_shadow_79 : decode cX5_shadow 79 = .ok (.iload 5, 2) := by decide +kernel
theorem dX5_shadow_81 : decode cX5_shadow 81 = .ok (.isub, 1) := by decide +kernel
theorem dX5_shadow_82 : decode cX5_shadow 82 = .ok (.iload_n 2, 1) := by decide +kernel
theorem dX5_shadow_83 : decode cX5_shadow 83 = .ok (.invokevirtual 215, 3) := by decide +kernel
theorem dX5_shadow_86 : decode cX5_shadow 86 = .ok (.ifCond .eq 9, 3) := by decide +kernel
theorem dX5_shadow_89 : decode cX5_shadow 89 = .ok (.iinc 5 1, 3) := by decide +kernel
theorem dX5_shadow_92 : decode cX5_shadow 92 = .ok (.goto (-24), 3) := by decide +kernel
theorem dX5_shadow_95 : decode cX5_shadow 95 = .ok (.iload 4, 2) := by decide +kernel
theorem dX5_shadow_97 : decode cX5_shadow 97 = .ok (.iload_n 3, 1) := by decide +kernel
theorem dX5_shadow_98 : decode cX5_shadow 98 = .ok (.if_icmp .ne 7, 3) := by decide +kernel
theorem dX5_shadow_101 : decode cX5_shadow 101 = .ok (.iconst 0, 1) := by decide +kernel
theorem dX5_shadow_102 : decode cX5_shadow 102 = .ok (.goto 5, 3) := by decide +kernel
theorem dX5_shadow_105 : decode cX5_shadow 105 = .ok (.iload 4, 2) := by decide +kernel
theorem dX5_shadow_107 : decode cX5_shadow 107 = .ok (.istore 4, 2) := by decide +kernel
theorem dX5_shadow_109 : decode cX5_shadow 109 = .ok (.aload_n 0, 1) := by decide +kernel
theorem dX5_shadow_110 : decode cX5_shadow 110 = .ok (.iconst 0, 1) := by decide +kernel
theorem dX5_shadow_111 : decode cX5_shadow 111 = .ok (.putfield 149, 3) := by decide +kernel
theorem dX5_shadow_114 : decode cX5_shadow 114 = .ok (.iconst 0, 1) := by decide +kernel
theorem dX5_shadow_115 : decode cX5_shadow 115 = .ok (.istore 6, 2) := by decide +kernel
theorem dX5_shadow_117 : decode cX5_shadow 117 = .ok (.iload 6, 2) := by decide +kernel
theorem dX5_shadow_119 : decode cX5_shadow 119 = .ok (.aload_n 0, 1) := by decide +kernel
theorem dX5_shadow_120 : decode cX5_shadow 120 = .ok (.getfield 13, 3) := by decide +kernel
theorem dX5_shadow_123 : decode cX5_shadow 123 = .ok (.iload_n 1, 1) := by decide +kernel
theorem dX5_shadow_124 : decode cX5_shadow 124 = .ok (.iaload, 1) := by decide +kernel
theorem dX5_shadow_125 : decode cX5_shadow 125 = .ok (.if_icmp .ge 61, 3) := by decide +kernel
theorem dX5_shadow_128 : decode cX5_shadow 128 = .ok (.iconst 0, 1) := by decide +kernel
theorem dX5_shadow_129 : decode cX5_shadow 129 = .ok (.istore 7, 2) := by decide +kernel
theorem dX5_shadow_131 : decode cX5_shadow 131 = .ok (.iload 7, 2) := by decide +kernel
theorem dX5_shadow_133 : decode cX5_shadow 133 = .ok (.iload_n 3, 1) := by decide +kernel
theorem dX5_shadow_134 : decode cX5_shadow 134 = .ok (.if_icmp .ge 46, 3) := by decide +kernel
theorem dX5_shadow_137 : decode cX5_shadow 137 = .ok (.iload 7, 2) := by decide +kernel
theorem dX5_shadow_139 : decode cX5_shadow 139 = .ok (.iload 4, 2) := by decide +kernel
theorem dX5_shadow_141 : decode cX5_shadow 141 = .ok (.if_icmp .lt 12, 3) := by decide +kernel
theorem dX5_shadow_144 : decode cX5_shadow 144 = .ok (.iload 7, 2) := by decide +kernel
theorem dX5_shadow_146 : decode cX5_shadow 146 = .ok (.iload_n 3, 1) := by decide +kernel
theorem dX5_shadow_147 : decode cX5_shadow 147 = .ok (.iload 5, 2) := by decide +kernel
theorem dX5_shadow_149 : decode cX5_shadow 149 = .ok (.isub, 1) := by decide +kernel
theorem dX5_shadow_150 : decode cX5_shadow 150 = .ok (.if_icmp .lt 24, 3) := by decide +kernel
theorem dX5_shadow_153 : decode cX5_shadow 153 = .ok (.aload_n 0, 1) := by decide +kernel
theorem dX5_shadow_154 : decode cX5_shadow 154 = .ok (.iload_n 1, 1) := by decide +kernel
theorem dX5_shadow_155 : decode cX5_shadow 155 = .ok (.iload 7, 2) := by decide +kernel
theorem dX5_shadow_157 : decode cX5_shadow 157 = .ok (.iload 6, 2) := by decide +kernel
theorem dX5_shadow_159 : decode cX5_shadow 159 = .ok (.invokevirtual 109, 3) := by decide +kernel
theorem dX5_shadow_162 : decode cX5_shadow 162 = .ok (.ifCond .eq 12, 3) := by decide +kernel
theorem dX5_shadow_165 : decode cX5_shadow 165 = .ok (.aload_n 0, 1) := by decide +kernel
theorem dX5_shadow_166 : decode cX5_shadow 166 = .ok (.iload_n 1, 1) := by decide +kernel
theorem dX5_shadow_167 : decode cX5_shadow 167 = .ok (.iload 7, 2) := by decide +kernel
theorem dX5_shadow_169 : decode cX5_shadow 169 = .ok (.iload 6, 2) := by decide +kernel
theorem dX5_shadow_171 : decode cX5_shadow 171 = .ok (.invokevirtual 212, 3) := by decide +kernel
theorem dX5_shadow_174 : decode cX5_shadow 174 = .ok (.iinc 7 1, 3) := by decide +kernel
theorem dX5_shadow_177 : decode cX5_shadow 177 = .ok (.goto (-46), 3) := by decide +kernel
theorem dX5_shadow_180 : decode cX5_shadow 180 = .ok (.iinc 6 1, 3) := by decide +kernel
theorem dX5_shadow_183 : decode cX5_shadow 183 = .ok (.goto (-66), 3) := by decide +kernel
theorem dX5_shadow_186 : decode cX5_shadow 186 = .ok (.iload 4, 2) := by decide +kernel
theorem dX5_shadow_188 : decode cX5_shadow 188 = .ok (.iload 5, 2) := by decide +kernel
theorem dX5_shadow_190 : decode cX5_shadow 190 = .ok (.iadd, 1) := by decide +kernel
theorem dX5_shadow_191 : decode cX5_shadow 191 = .ok (.ireturn, 1) := by decide +kernel
set_option maxRecDepth 20000 in
theorem ggX5_listed_X5_in : GoodIn wsX5_listed wsX5_in := goodIn_r _ [8] (by decide +kernel) (by decide +kernel)
set_option maxRecDepth 20000 in
theorem gX5_listed_X5_in : GoodIn wsX5_listed (va_wsS RX5 71 yX5_in wsX5_in) := goodIn_app (goodIn_of _ (by decide +kernel)) ggX5_listed_X5_in
set_option maxRecDepth 20000 in
theorem ggX5_listed_X5_refuse : GoodIn wsX5_listed wsX5_refuse := goodIn_r _ [12, 1, 13, 14, 15, 16, 17, 18, 19, 20, 21, 22, 23, 24, 25, 26, 27, 28, 29, 30, 31, 32, 33, 34, 35, 36] (by decide +kernel) (by decide +kernel)
set_option maxRecDepth 20000 in
theorem gX5_listed_X5_refuse : GoodIn wsX5_listed (wsV RX5 127 RX5 yX5_refuse wsX5_refuse) := goodIn_app (goodIn_of _ (by decide +kernel)) ggX5_listed_X5_refuse
theorem dX5_listed_0 : decode cX5_listed 0 = .ok (.aload_n 0, 1) := by decide +kernel
theorem dX5_listed_1 : decode cX5_listed 1 = .ok (.iconst 0, 1) := by decide +kernel
theorem dX5_listed_2 : decode cX5_listed 2 = .ok (.putfield 64, 3) := by decide +kernel
theorem dX5_listed_5 : decode cX5_listed 5 = .ok (.iload_n 1, 1) := by decide +kernel
theorem dX5_listed_6 : decode cX5_listed 6 = .ok (.i2l, 1) := by decide +kernel
theorem dX5_listed_7 : decode cX5_listed 7 = .ok (.lconst 0, 1) := by decide +kernel
theorem dX5_listed_8 : decode cX5_listed 8 = .ok (.aload_n 0, 1) := by decide +kernel
theorem dX5_listed_9 : decode cX5_listed 9 = .ok (.getfield 149, 3) := by decide +kernel
theorem dX5_listed_12 : decode cX5_listed 12 = .ok (.iconst 1, 1) := by decide +kernel
theorem dX5_listed_13 : decode cX5_listed 13 = .ok (.isub, 1) := by decide +kernel
theorem dX5_listed_14 : decode cX5_listed 14 = .ok (.i2l, 1) := by decide +kernel
theorem dX5_listed_15 : decode cX5_listed 15 = .ok (.invokestatic 71, 3) := by decide +kernel
theorem dX5_listed_18 : decode cX5_listed 18 = .ok (.ifCond .eq 13, 3) := by decide +kernel
theorem dX5_listed_21 : decode cX5_listed 21 = .ok (.iload_n 2, 1) := by decide +kernel
theorem dX5_listed_22 : decode cX5_listed 22 = .ok (.i2l, 1) := by decide +kernel
theorem dX5_listed_23 : decode cX5_listed 23 = .ok (.lconst 0, 1) := by decide +kernel
theorem dX5_listed_24 : decode cX5_listed 24 = .ok (.lconst 1, 1) := by decide +kernel
theorem dX5_listed_25 : decode cX5_listed 25 = .ok (.invokestatic 71, 3) := by decide +kernel
theorem dX5_listed_28 : decode cX5_listed 28 = .ok (.ifCond .ne 8, 3) := by decide +kernel
theorem dX5_listed_31 : decode cX5_listed 31 = .ok (.aload_n 0, 1) := by decide +kernel
theorem dX5_listed_32 : decode cX5_listed 32 = .ok (.invokevirtual 127, 3) := by decide +kernel
theorem dX5_listed_35 : decode cX5_listed 35 = .ok (.ireturn, 1) := by decide +kernel
theorem dX5_listed_36 : decode cX5_listed 36 = .ok (.iload_n 2, 1) := by decide +kernel
theorem dX5_listed_37 : decode cX5_listed 37 = .ok (.ifCond .ne 12, 3) := by decide +kernel
theorem dX5_listed_40 : decode cX5_listed 40 = .ok (.aload_n 0, 1) := by decide +kernel
theorem dX5_listed_41 : decode cX5_listed 41 = .ok (.getfield 55, 3) := by decide +kernel
theorem dX5_listed_44 : decode cX5_listed 44 = .ok (.iload_n 1, 1) := by decide +kernel
theorem dX5_listed_45 : decode cX5_listed 45 = .ok (.iaload, 1) := by decide +kernel
theorem dX5_listed_46 : decode cX5_listed 46 = .ok (.goto 9, 3) := by decide +kernel
theorem dX5_listed_49 : decode cX5_listed 49 = .ok (.aload_n 0, 1) := by decide +kernel
theorem dX5_listed_50 : decode cX5_listed 50 = .ok (.getfield 58, 3) := by decide +kernel
theorem dX5_listed_53 : decode cX5_listed 53 = .ok (.iload_n 1, 1) := by decide +kernel
theorem dX5_listed_54 : decode cX5_listed 54 = .ok (.iaload, 1) := by decide +kernel
theorem dX5_listed_55 : decode cX5_listed 55 = .ok (.ireturn, 1) := by decide +kernel
set_option maxRecDepth 20000 in
theorem ggX5_firstColumn_X5_columnInk : GoodIn wsX5_firstColumn wsX5_columnInk := goodIn_r _ [6, 7, 8, 9, 10, 5, 11, 12, 13, 14, 15, 16, 17, 18, 19, 20, 21, 22, 23, 24, 25, 26, 27, 28, 29, 30, 31, 32, 33, 34, 35, 36] (by decide +kernel) (by decide +kernel)
set_option maxRecDepth 20000 in
theorem gX5_firstColumn_X5_columnInk : GoodIn wsX5_firstColumn (wsV RX5 140 RX5 yX5_columnInk wsX5_columnInk) := goodIn_app (goodIn_of _ (by decide +kernel)) ggX5_firstColumn_X5_columnInk
theorem dX5_firstColumn_0 : decode cX5_firstColumn 0 = .ok (.iconst 0, 1) := by decide +kernel
theorem dX5_firstColumn_1 : decode cX5_firstColumn 1 = .ok (.istore_n 2, 1) := by decide +kernel
theorem dX5_firstColumn_2 : decode cX5_firstColumn 2 = .ok (.iload_n 2, 1) := by decide +kernel
theorem dX5_firstColumn_3 : decode cX5_firstColumn 3 = .ok (.aload_n 0, 1) := by decide +kernel
theorem dX5_firstColumn_4 : decode cX5_firstColumn 4 = .ok (.getfield 9, 3) := by decide +kernel
theorem dX5_firstColumn_7 : decode cX5_firstColumn 7 = .ok (.iload_n 1, 1) := by decide +kernel
theorem dX5_firstColumn_8 : decode cX5_firstColumn 8 = .ok (.iaload, 1) := by decide +kernel
theorem dX5_firstColumn_9 : decode cX5_firstColumn 9 = .ok (.if_icmp .ge 18, 3) := by decide +kernel
theorem dX5_firstColumn_12 : decode cX5_firstColumn 12 = .ok (.aload_n 0, 1) := by decide +kernel
theorem dX5_firstColumn_13 : decode cX5_firstColumn 13 = .ok (.iload_n 1, 1) := by decide +kernel
theorem dX5_firstColumn_14 : decode cX5_firstColumn 14 = .ok (.iload_n 2, 1) := by decide +kernel
theorem dX5_firstColumn_15 : decode cX5_firstColumn 15 = .ok (.invokevirtual 140, 3) := by decide +kernel
theorem dX5_firstColumn_18 : decode cX5_firstColumn 18 = .ok (.ifCond .ne 9, 3) := by decide +kernel
theorem dX5_firstColumn_21 : decode cX5_firstColumn 21 = .ok (.iinc 2 1, 3) := by decide +kernel
theorem dX5_firstColumn_24 : decode cX5_firstColumn 24 = .ok (.goto (-22), 3) := by decide +kernel
theorem dX5_firstColumn_27 : decode cX5_firstColumn 27 = .ok (.iload_n 2, 1) := by decide +kernel
theorem dX5_firstColumn_28 : decode cX5_firstColumn 28 = .ok (.ireturn, 1) := by decide +kernel
set_option maxRecDepth 20000 in
theorem ggX5_firstRow_X5_rowInk : GoodIn wsX5_firstRow wsX5_rowInk := goodIn_r _ [6, 7, 8, 9, 10, 5, 11, 12, 13, 14, 15, 16, 17, 18, 19, 20, 21, 22, 23, 24, 25, 26, 27, 28, 29, 30, 31, 32, 33, 34, 35, 36] (by decide +kernel) (by decide +kernel)
set_option maxRecDepth 20000 in
theorem gX5_firstRow_X5_rowInk : GoodIn wsX5_firstRow (wsV RX5 116 RX5 yX5_rowInk wsX5_rowInk) := goodIn_app (goodIn_of _ (by decide +kernel)) ggX5_firstRow_X5_rowInk
theorem dX5_firstRow_0 : decode cX5_firstRow 0 = .ok (.iconst 0, 1) := by decide +kernel
theorem dX5_firstRow_1 : decode cX5_firstRow 1 = .ok (.istore_n 2, 1) := by decide +kernel
theorem dX5_firstRow_2 : decode cX5_firstRow 2 = .ok (.iload_n 2, 1) := by decide +kernel
theorem dX5_firstRow_3 : decode cX5_firstRow 3 = .ok (.aload_n 0, 1) := by decide +kernel
theorem dX5_firstRow_4 : decode cX5_firstRow 4 = .ok (.getfield 13, 3) := by decide +kernel
theorem dX5_firstRow_7 : decode cX5_firstRow 7 = .ok (.iload_n 1, 1) := by decide +kernel
theorem dX5_firstRow_8 : decode cX5_firstRow 8 = .ok (.iaload, 1) := by decide +kernel
theorem dX5_firstRow_9 : decode cX5_firstRow 9 = .ok (.if_icmp .ge 18, 3) := by decide +kernel
theorem dX5_firstRow_12 : decode cX5_firstRow 12 = .ok (.aload_n 0, 1) := by decide +kernel
theorem dX5_firstRow_13 : decode cX5_firstRow 13 = .ok (.iload_n 1, 1) := by decide +kernel
theorem dX5_firstRow_14 : decode cX5_firstRow 14 = .ok (.iload_n 2, 1) := by decide +kernel
theorem dX5_firstRow_15 : decode cX5_firstRow 15 = .ok (.invokevirtual 116, 3) := by decide +kernel
theorem dX5_firstRow_18 : decode cX5_firstRow 18 = .ok (.ifCond .ne 9, 3) := by decide +kernel
theorem dX5_firstRow_21 : decode cX5_firstRow 21 = .ok (.iinc 2 1, 3) := by decide +kernel
theorem dX5_firstRow_24 : decode cX5_firstRow 24 = .ok (.goto (-22), 3) := by decide +kernel
theorem dX5_firstRow_27 : decode cX5_firstRow 27 = .ok (.iload_n 2, 1) := by decide +kernel
theorem dX5_firstRow_28 : decode cX5_firstRow 28 = .ok (.ireturn, 1) := by decide +kernel
set_option maxRecDepth 20000 in
theorem ggX5_lastColumn_X5_columnInk : GoodIn wsX5_lastColumn wsX5_columnInk := goodIn_r _ [6, 7, 8, 9, 10, 5, 11, 12, 13, 14, 15, 16, 17, 18, 19, 20, 21, 22, 23, 24, 25, 26, 27, 28, 29, 30, 31, 32, 33, 34, 35, 36] (by decide +kernel) (by decide +kernel)
set_option maxRecDepth 20000 in
theorem gX5_lastColumn_X5_columnInk : GoodIn wsX5_lastColumn (wsV RX5 140 RX5 yX5_columnInk wsX5_columnInk) := goodIn_app (goodIn_of _ (by decide +kernel)) ggX5_lastColumn_X5_columnInk
theorem dX5_lastColumn_0 : decode cX5_lastColumn 0 = .ok (.aload_n 0, 1) := by decide +kernel
theorem dX5_lastColumn_1 : decode cX5_lastColumn 1 = .ok (.getfield 9, 3) := by decide +kernel
theorem dX5_lastColumn_4 : decode cX5_lastColumn 4 = .ok (.iload_n 1, 1) := by decide +kernel
theorem dX5_lastColumn_5 : decode cX5_lastColumn 5 = .ok (.iaload, 1) := by decide +kernel
theorem dX5_lastColumn_6 : decode cX5_lastColumn 6 = .ok (.iconst 1, 1) := by decide +kernel
theorem dX5_lastColumn_7 : decode cX5_lastColumn 7 = .ok (.isub, 1) := by decide +kernel
theorem dX5_lastColumn_8 : decode cX5_lastColumn 8 = .ok (.istore_n 2, 1) := by decide +kernel
theorem dX5_lastColumn_9 : decode cX5_lastColumn 9 = .ok (.aload_n 0, 1) := by decide +kernel
theorem dX5_lastColumn_10 : decode cX5_lastColumn 10 = .ok (.iload_n 1, 1) := by decide +kernel
theorem dX5_lastColumn_11 : decode cX5_lastColumn 11 = .ok (.iload_n 2, 1) := by decide +kernel
theorem dX5_lastColumn_12 : decode cX5_lastColumn 12 = .ok (.invokevirtual 140, 3) := by decide +kernel
theorem dX5_lastColumn_15 : decode cX5_lastColumn 15 = .ok (.ifCond .ne 9, 3) := by decide +kernel
theorem dX5_lastColumn_18 : decode cX5_lastColumn 18 = .ok (.iinc 2 (-1), 3) := by decide +kernel
theorem dX5_lastColumn_21 : decode cX5_lastColumn 21 = .ok (.goto (-12), 3) := by decide +kernel
theorem dX5_lastColumn_24 : decode cX5_lastColumn 24 = .ok (.iload_n 2, 1) := by decide +kernel
theorem dX5_lastColumn_25 : decode cX5_lastColumn 25 = .ok (.ireturn, 1) := by decide +kernel
set_option maxRecDepth 20000 in
theorem ggX5_lastRow_X5_rowInk : GoodIn wsX5_lastRow wsX5_rowInk := goodIn_r _ [6, 7, 8, 9, 10, 5, 11, 12, 13, 14, 15, 16, 17, 18, 19, 20, 21, 22, 23, 24, 25, 26, 27, 28, 29, 30, 31, 32, 33, 34, 35, 36] (by decide +kernel) (by decide +kernel)
set_option maxRecDepth 20000 in
theorem gX5_lastRow_X5_rowInk : GoodIn wsX5_lastRow (wsV RX5 116 RX5 yX5_rowInk wsX5_rowInk) := goodIn_app (goodIn_of _ (by decide +kernel)) ggX5_lastRow_X5_rowInk
theorem dX5_lastRow_0 : decode cX5_lastRow 0 = .ok (.aload_n 0, 1) := by decide +kernel
theorem dX5_lastRow_1 : decode cX5_lastRow 1 = .ok (.getfield 13, 3) := by decide +kernel
theorem dX5_lastRow_4 : decode cX5_lastRow 4 = .ok (.iload_n 1, 1) := by decide +kernel
theorem dX5_lastRow_5 : decode cX5_lastRow 5 = .ok (.iaload, 1) := by decide +kernel
theorem dX5_lastRow_6 : decode cX5_lastRow 6 = .ok (.iconst 1, 1) := by decide +kernel
theorem dX5_lastRow_7 : decode cX5_lastRow 7 = .ok (.isub, 1) := by decide +kernel
theorem dX5_lastRow_8 : decode cX5_lastRow 8 = .ok (.istore_n 2, 1) := by decide +kernel
theorem dX5_lastRow_9 : decode cX5_lastRow 9 = .ok (.aload_n 0, 1) := by decide +kernel
theorem dX5_lastRow_10 : decode cX5_lastRow 10 = .ok (.iload_n 1, 1) := by decide +kernel
theorem dX5_lastRow_11 : decode cX5_lastRow 11 = .ok (.iload_n 2, 1) := by decide +kernel
theorem dX5_lastRow_12 : decode cX5_lastRow 12 = .ok (.invokevirtual 116, 3) := by decide +kernel
theorem dX5_lastRow_15 : decode cX5_lastRow 15 = .ok (.ifCond .ne 9, 3) := by decide +kernel
theorem dX5_lastRow_18 : decode cX5_lastRow 18 = .ok (.iinc 2 (-1), 3) := by decide +kernel
theorem dX5_lastRow_21 : decode cX5_lastRow 21 = .ok (.goto (-12), 3) := by decide +kernel
theorem dX5_lastRow_24 : decode cX5_lastRow 24 = .ok (.iload_n 2, 1) := by decide +kernel
theorem dX5_lastRow_25 : decode cX5_lastRow 25 = .ok (.ireturn, 1) := by decide +kernel
set_option maxRecDepth 20000 in
theorem ggX5_hasInk_X5_firstRow : GoodIn wsX5_hasInk wsX5_firstRow := goodIn_r _ [6, 1, 7, 8, 9, 5, 10, 11, 12, 13, 14, 15, 16, 17, 18, 19, 20, 21, 22, 23, 24, 25, 26, 27, 28, 29, 30, 31, 32, 33, 34, 35, 36, 37, 38, 39, 40] (by decide +kernel) (by decide +kernel)
set_option maxRecDepth 20000 in
theorem gX5_hasInk_X5_firstRow : GoodIn wsX5_hasInk (wsV RX5 218 RX5 yX5_firstRow wsX5_firstRow) := goodIn_app (goodIn_of _ (by decide +kernel)) ggX5_hasInk_X5_firstRow
theorem dX5_hasInk_0 : decode cX5_hasInk 0 = .ok (.aload_n 0, 1) := by decide +kernel
theorem dX5_hasInk_1 : decode cX5_hasInk 1 = .ok (.iload_n 1, 1) := by decide +kernel
theorem dX5_hasInk_2 : decode cX5_hasInk 2 = .ok (.invokevirtual 218, 3) := by decide +kernel
theorem dX5_hasInk_5 : decode cX5_hasInk 5 = .ok (.aload_n 0, 1) := by decide +kernel
theorem dX5_hasInk_6 : decode cX5_hasInk 6 = .ok (.getfield 13, 3) := by decide +kernel
theorem dX5_hasInk_9 : decode cX5_hasInk 9 = .ok (.iload_n 1, 1) := by decide +kernel
theorem dX5_hasInk_10 : decode cX5_hasInk 10 = .ok (.iaload, 1) := by decide +kernel
theorem dX5_hasInk_11 : decode cX5_hasInk 11 = .ok (.if_icmp .ge 7, 3) := by decide +kernel
theorem dX5_hasInk_14 : decode cX5_hasInk 14 = .ok (.iconst 1, 1) := by decide +kernel
theorem dX5_hasInk_15 : decode cX5_hasInk 15 = .ok (.goto 4, 3) := by decide +kernel
theorem dX5_hasInk_18 : decode cX5_hasInk 18 = .ok (.iconst 0, 1) := by decide +kernel
theorem dX5_hasInk_19 : decode cX5_hasInk 19 = .ok (.ireturn, 1) := by decide +kernel
set_option maxRecDepth 20000 in
theorem ggX5_box_X5_isPage : GoodIn wsX5_box wsX5_isPage := goodIn_r _ [7, 8, 9, 10, 6, 11, 47, 48, 49, 50, 51, 52, 53, 54, 55, 56, 57, 58, 59, 60, 61, 62, 63, 64, 65, 66, 67, 68, 69, 70] (by decide +kernel) (by decide +kernel)
set_option maxRecDepth 20000 in
theorem gX5_box_X5_isPage : GoodIn wsX5_box (wsV RX5 81 RX5 yX5_isPage wsX5_isPage) := goodIn_app (goodIn_of _ (by decide +kernel)) ggX5_box_X5_isPage
set_option maxRecDepth 20000 in
theorem ggX5_box_X5_hasInk : GoodIn wsX5_box wsX5_hasInk := goodIn_r _ [15, 16, 17, 18, 19, 6, 20, 21, 22, 23, 24, 25, 26, 27, 28, 29, 30, 47, 48, 49, 50, 51, 52, 53, 54, 55, 56, 57, 58, 59, 60, 61, 62, 63, 64, 65, 66, 67, 68, 69, 70] (by decide +kernel) (by decide +kernel)
set_option maxRecDepth 20000 in
theorem gX5_box_X5_hasInk : GoodIn wsX5_box (wsV RX5 221 RX5 yX5_hasInk wsX5_hasInk) := goodIn_app (goodIn_of _ (by decide +kernel)) ggX5_box_X5_hasInk
set_option maxRecDepth 20000 in
theorem ggX5_box_X5_in : GoodIn wsX5_box wsX5_in := goodIn_r _ [11] (by decide +kernel) (by decide +kernel)
set_option maxRecDepth 20000 in
theorem gX5_box_X5_in : GoodIn wsX5_box (va_wsS RX5 71 yX5_in wsX5_in) := goodIn_app (goodIn_of _ (by decide +kernel)) ggX5_box_X5_in
set_option maxRecDepth 20000 in
theorem ggX5_box_X5_firstColumn : GoodIn wsX5_box wsX5_firstColumn := goodIn_r _ [34, 25, 35, 36, 37, 6, 38, 16, 26, 27, 28, 29, 30, 47, 48, 49, 50, 51, 52, 53, 54, 55, 56, 57, 58, 59, 60, 61, 62, 63, 64, 65, 66, 67, 68, 69, 70] (by decide +kernel) (by decide +kernel)
set_option maxRecDepth 20000 in
theorem gX5_box_X5_firstColumn : GoodIn wsX5_box (wsV RX5 226 RX5 yX5_firstColumn wsX5_firstColumn) := goodIn_app (goodIn_of _ (by decide +kernel)) ggX5_box_X5_firstColumn
set_option maxRecDepth 20000 in
theorem ggX5_box_X5_firstRow : GoodIn wsX5_box wsX5_firstRow := goodIn_r _ [20, 16, 21, 22, 23, 6, 24, 25, 26, 27, 28, 29, 30, 47, 48, 49, 50, 51, 52, 53, 54, 55, 56, 57, 58, 59, 60, 61, 62, 63, 64, 65, 66, 67, 68, 69, 70] (by decide +kernel) (by decide +kernel)
set_option maxRecDepth 20000 in
theorem gX5_box_X5_firstRow : GoodIn wsX5_box (wsV RX5 218 RX5 yX5_firstRow wsX5_firstRow) := goodIn_app (goodIn_of _ (by decide +kernel)) ggX5_box_X5_firstRow
set_option maxRecDepth 20000 in
theorem ggX5_box_X5_lastColumn : GoodIn wsX5_box wsX5_lastColumn := goodIn_r _ [42, 25, 35, 36, 37, 6, 38, 16, 26, 27, 28, 29, 30, 47, 48, 49, 50, 51, 52, 53, 54, 55, 56, 57, 58, 59, 60, 61, 62, 63, 64, 65, 66, 67, 68, 69, 70] (by decide +kernel) (by decide +kernel)
set_option maxRecDepth 20000 in
theorem gX5_box_X5_lastColumn : GoodIn wsX5_box (wsV RX5 229 RX5 yX5_lastColumn wsX5_lastColumn) := goodIn_app (goodIn_of _ (by decide +kernel)) ggX5_box_X5_lastColumn
set_option maxRecDepth 20000 in
theorem ggX5_box_X5_lastRow : GoodIn wsX5_box wsX5_lastRow := goodIn_r _ [46, 16, 21, 22, 23, 6, 24, 25, 26, 27, 28, 29, 30, 47, 48, 49, 50, 51, 52, 53, 54, 55, 56, 57, 58, 59, 60, 61, 62, 63, 64, 65, 66, 67, 68, 69, 70] (by decide +kernel) (by decide +kernel)
set_option maxRecDepth 20000 in
theorem gX5_box_X5_lastRow : GoodIn wsX5_box (wsV RX5 232 RX5 yX5_lastRow wsX5_lastRow) := goodIn_app (goodIn_of _ (by decide +kernel)) ggX5_box_X5_lastRow
theorem dX5_box_0 : decode cX5_box 0 = .ok (.aload_n 0, 1) := by decide +kernel
theorem dX5_box_1 : decode cX5_box 1 = .ok (.iconst 0, 1) := by decide +kernel
theorem dX5_box_2 : decode cX5_box 2 = .ok (.putfield 64, 3) := by decide +kernel
theorem dX5_box_5 : decode cX5_box 5 = .ok (.aload_n 0, 1) := by decide +kernel
theorem dX5_box_6 : decode cX5_box 6 = .ok (.iload_n 1, 1) := by decide +kernel
theorem dX5_box_7 : decode cX5_box 7 = .ok (.invokevirtual 81, 3) := by decide +kernel
theorem dX5_box_10 : decode cX5_box 10 = .ok (.ifCond .eq 23, 3) := by decide +kernel
theorem dX5_box_13 : decode cX5_box 13 = .ok (.aload_n 0, 1) := by decide +kernel
theorem dX5_box_14 : decode cX5_box 14 = .ok (.iload_n 1, 1) := by decide +kernel
theorem dX5_box_15 : decode cX5_box 15 = .ok (.invokevirtual 221, 3) := by decide +kernel
theorem dX5_box_18 : decode cX5_box 18 = .ok (.ifCond .eq 15, 3) := by decide +kernel
theorem dX5_box_21 : decode cX5_box 21 = .ok (.iload_n 2, 1) := by decide +kernel
theorem dX5_box_22 : decode cX5_box 22 = .ok (.i2l, 1) := by decide +kernel
theorem dX5_box_23 : decode cX5_box 23 = .ok (.lconst 0, 1) := by decide +kernel
theorem dX5_box_24 : decode cX5_box 24 = .ok (.ldc2_w 224, 3) := by decide +kernel
theorem dX5_box_27 : decode cX5_box 27 = .ok (.invokestatic 71, 3) := by decide +kernel
theorem dX5_box_30 : decode cX5_box 30 = .ok (.ifCond .ne 5, 3) := by decide +kernel
theorem dX5_box_33 : decode cX5_box 33 = .ok (.iconst (-1), 1) := by decide +kernel
theorem dX5_box_34 : decode cX5_box 34 = .ok (.ireturn, 1) := by decide +kernel
theorem dX5_box_35 : decode cX5_box 35 = .ok (.iload_n 2, 1) := by decide +kernel
theorem dX5_box_36 : decode cX5_box 36 = .ok (.ifCond .ne 11, 3) := by decide +kernel
theorem dX5_box_39 : decode cX5_box 39 = .ok (.aload_n 0, 1) := by decide +kernel
theorem dX5_box_40 : decode cX5_box 40 = .ok (.iload_n 1, 1) := by decide +kernel
theorem dX5_box_41 : decode cX5_box 41 = .ok (.invokevirtual 226, 3) := by decide +kernel
theorem dX5_box_44 : decode cX5_box 44 = .ok (.goto 34, 3) := by decide +kernel
theorem dX5_box_47 : decode cX5_box 47 = .ok (.iload_n 2, 1) := by decide +kernel
theorem dX5_box_48 : decode cX5_box 48 = .ok (.iconst 1, 1) := by decide +kernel
theorem dX5_box_49 : decode cX5_box 49 = .ok (.if_icmp .ne 11, 3) := by decide +kernel
theorem dX5_box_52 : decode cX5_box 52 = .ok (.aload_n 0, 1) := by decide +kernel
theorem dX5_box_53 : decode cX5_box 53 = .ok (.iload_n 1, 1) := by decide +kernel
theorem dX5_box_54 : decode cX5_box 54 = .ok (.invokevirtual 218, 3) := by decide +kernel
theorem dX5_box_57 : decode cX5_box 57 = .ok (.goto 21, 3) := by decide +kernel
theorem dX5_box_60 : decode cX5_box 60 = .ok (.iload_n 2, 1) := by decide +kernel
theorem dX5_box_61 : decode cX5_box 61 = .ok (.iconst 2, 1) := by decide +kernel
theorem dX5_box_62 : decode cX5_box 62 = .ok (.if_icmp .ne 11, 3) := by decide +kernel
theorem dX5_box_65 : decode cX5_box 65 = .ok (.aload_n 0, 1) := by decide +kernel
theorem dX5_box_66 : decode cX5_box 66 = .ok (.iload_n 1, 1) := by decide +kernel
theorem dX5_box_67 : decode cX5_box 67 = .ok (.invokevirtual 229, 3) := by decide +kernel
theorem dX5_box_70 : decode cX5_box 70 = .ok (.goto 8, 3) := by decide +kernel
theorem dX5_box_73 : decode cX5_box 73 = .ok (.aload_n 0, 1) := by decide +kernel
theorem dX5_box_74 : decode cX5_box 74 = .ok (.iload_n 1, 1) := by decide +kernel
theorem dX5_box_75 : decode cX5_box 75 = .ok (.invokevirtual 232, 3) := by decide +kernel
theorem dX5_box_78 : decode cX5_box 78 = .ok (.ireturn, 1) := by decide +kernel
set_option maxRecDepth 20000 in
theorem ggX5_cut_X5_isPage : GoodIn wsX5_cut wsX5_isPage := goodIn_r _ [8, 9, 10, 11, 7, 12, 71, 72, 73, 74, 75, 76, 77, 78, 79, 80, 81, 82, 83, 84, 85, 86, 87, 88, 89, 90, 91, 92, 93, 94] (by decide +kernel) (by decide +kernel)
set_option maxRecDepth 20000 in
theorem gX5_cut_X5_isPage : GoodIn wsX5_cut (wsV RX5 81 RX5 yX5_isPage wsX5_isPage) := goodIn_app (goodIn_of _ (by decide +kernel)) ggX5_cut_X5_isPage
set_option maxRecDepth 20000 in
theorem ggX5_cut_X5_hasInk : GoodIn wsX5_cut wsX5_hasInk := goodIn_r _ [16, 17, 18, 19, 20, 7, 21, 22, 23, 24, 25, 26, 27, 28, 29, 30, 31, 71, 72, 73, 74, 75, 76, 77, 78, 79, 80, 81, 82, 83, 84, 85, 86, 87, 88, 89, 90, 91, 92, 93, 94] (by decide +kernel) (by decide +kernel)
set_option maxRecDepth 20000 in
theorem gX5_cut_X5_hasInk : GoodIn wsX5_cut (wsV RX5 221 RX5 yX5_hasInk wsX5_hasInk) := goodIn_app (goodIn_of _ (by decide +kernel)) ggX5_cut_X5_hasInk
set_option maxRecDepth 20000 in
theorem ggX5_cut_X5_in : GoodIn wsX5_cut wsX5_in := goodIn_r _ [12] (by decide +kernel) (by decide +kernel)
set_option maxRecDepth 20000 in
theorem gX5_cut_X5_in : GoodIn wsX5_cut (va_wsS RX5 71 yX5_in wsX5_in) := goodIn_app (goodIn_of _ (by decide +kernel)) ggX5_cut_X5_in
set_option maxRecDepth 20000 in
theorem ggX5_cut_X5_firstColumn : GoodIn wsX5_cut wsX5_firstColumn := goodIn_r _ [35, 26, 36, 37, 38, 7, 39, 17, 27, 28, 29, 30, 31, 71, 72, 73, 74, 75, 76, 77, 78, 79, 80, 81, 82, 83, 84, 85, 86, 87, 88, 89, 90, 91, 92, 93, 94] (by decide +kernel) (by decide +kernel)
set_option maxRecDepth 20000 in
theorem gX5_cut_X5_firstColumn : GoodIn wsX5_cut (wsV RX5 226 RX5 yX5_firstColumn wsX5_firstColumn) := goodIn_app (goodIn_of _ (by decide +kernel)) ggX5_cut_X5_firstColumn
set_option maxRecDepth 20000 in
theorem ggX5_cut_X5_firstRow : GoodIn wsX5_cut wsX5_firstRow := goodIn_r _ [21, 17, 22, 23, 24, 7, 25, 26, 27, 28, 29, 30, 31, 71, 72, 73, 74, 75, 76, 77, 78, 79, 80, 81, 82, 83, 84, 85, 86, 87, 88, 89, 90, 91, 92, 93, 94] (by decide +kernel) (by decide +kernel)
set_option maxRecDepth 20000 in
theorem gX5_cut_X5_firstRow : GoodIn wsX5_cut (wsV RX5 218 RX5 yX5_firstRow wsX5_firstRow) := goodIn_app (goodIn_of _ (by decide +kernel)) ggX5_cut_X5_firstRow
set_option maxRecDepth 20000 in
theorem ggX5_cut_X5_lastColumn : GoodIn wsX5_cut wsX5_lastColumn := goodIn_r _ [43, 26, 36, 37, 38, 7, 39, 17, 27, 28, 29, 30, 31, 71, 72, 73, 74, 75, 76, 77, 78, 79, 80, 81, 82, 83, 84, 85, 86, 87, 88, 89, 90, 91, 92, 93, 94] (by decide +kernel) (by decide +kernel)
set_option maxRecDepth 20000 in
theorem gX5_cut_X5_lastColumn : GoodIn wsX5_cut (wsV RX5 229 RX5 yX5_lastColumn wsX5_lastColumn) := goodIn_app (goodIn_of _ (by decide +kernel)) ggX5_cut_X5_lastColumn
set_option maxRecDepth 20000 in
theorem ggX5_cut_X5_lastRow : GoodIn wsX5_cut wsX5_lastRow := goodIn_r _ [47, 17, 22, 23, 24, 7, 25, 26, 27, 28, 29, 30, 31, 71, 72, 73, 74, 75, 76, 77, 78, 79, 80, 81, 82, 83, 84, 85, 86, 87, 88, 89, 90, 91, 92, 93, 94] (by decide +kernel) (by decide +kernel)
set_option maxRecDepth 20000 in
theorem gX5_cut_X5_lastRow : GoodIn wsX5_cut (wsV RX5 232 RX5 yX5_lastRow wsX5_lastRow) := goodIn_app (goodIn_of _ (by decide +kernel)) ggX5_cut_X5_lastRow
set_option maxRecDepth 20000 in
theorem ggX5_cut_X5_changing : GoodIn wsX5_cut wsX5_changing := goodIn_r _ [51, 52, 53, 54, 55, 56, 57, 58, 59, 26, 60, 17, 61, 62, 31, 71, 72, 73, 74, 75, 76, 77, 78, 79, 80, 81, 82, 83, 84, 85, 86, 87, 88, 89, 90, 91, 92, 93, 94] (by decide +kernel) (by decide +kernel)
set_option maxRecDepth 20000 in
theorem gX5_cut_X5_changing : GoodIn wsX5_cut (wsV RX5 101 RX5 yX5_changing wsX5_changing) := goodIn_app (goodIn_of _ (by decide +kernel)) ggX5_cut_X5_changing
set_option maxRecDepth 20000 in
theorem ggX5_cut_X5_blank : GoodIn wsX5_cut wsX5_blank := goodIn_r _ [66, 3, 71, 72, 73, 74, 75, 76, 77, 78, 79, 80, 81, 82, 83, 84, 85, 86, 87, 88, 89, 90, 91, 92, 93, 94] (by decide +kernel) (by decide +kernel)
set_option maxRecDepth 20000 in
theorem gX5_cut_X5_blank : GoodIn wsX5_cut (wsV RX5 168 RX5 yX5_blank wsX5_blank) := goodIn_app (goodIn_of _ (by decide +kernel)) ggX5_cut_X5_blank
set_option maxRecDepth 20000 in
theorem ggX5_cut_X5_has : GoodIn wsX5_cut wsX5_has := goodIn_r _ [30, 31, 71, 72, 73, 74, 75, 76, 77, 78, 79, 80, 81, 82, 83, 84, 85, 86, 87, 88, 89, 90, 91, 92, 93, 94] (by decide +kernel) (by decide +kernel)
set_option maxRecDepth 20000 in
theorem gX5_cut_X5_has : GoodIn wsX5_cut (wsV RX5 109 RX5 yX5_has wsX5_has) := goodIn_app (goodIn_of _ (by decide +kernel)) ggX5_cut_X5_has
set_option maxRecDepth 20000 in
theorem ggX5_cut_X5_becomes : GoodIn wsX5_cut wsX5_becomes := goodIn_r _ [70, 26, 17, 31, 3, 71, 72, 73, 74, 75, 76, 77, 78, 79, 80, 81, 82, 83, 84, 85, 86, 87, 88, 89, 90, 91, 92, 93, 94] (by decide +kernel) (by decide +kernel)
set_option maxRecDepth 20000 in
theorem gX5_cut_X5_becomes : GoodIn wsX5_cut (wsV RX5 171 RX5 yX5_becomes wsX5_becomes) := goodIn_app (goodIn_of _ (by decide +kernel)) ggX5_cut_X5_becomes
theorem dX5_cut_0 : decode cX5_cut 0 = .ok (.aload_n 0, 1) := by decide +kernel
theorem dX5_cut_1 : decode cX5_cut 1 = .ok (.iconst 0, 1) := by decide +kernel
theorem dX5_cut_2 : decode cX5_cut 2 = .ok (.putfield 64, 3) := by decide +kernel
theorem dX5_cut_5 : decode cX5_cut 5 = .ok (.aload_n 0, 1) := by decide +kernel
theorem dX5_cut_6 : decode cX5_cut 6 = .ok (.iload_n 1, 1) := by decide +kernel
theorem dX5_cut_7 : decode cX5_cut 7 = .ok (.invokevirtual 81, 3) := by decide +kernel
theorem dX5_cut_10 : decode cX5_cut 10 = .ok (.ifCond .eq 23, 3) := by decide +kernel
theorem dX5_cut_13 : decode cX5_cut 13 = .ok (.aload_n 0, 1) := by decide +kernel
theorem dX5_cut_14 : decode cX5_cut 14 = .ok (.iload_n 1, 1) := by decide +kernel
theorem dX5_cut_15 : decode cX5_cut 15 = .ok (.invokevirtual 221, 3) := by decide +kernel
theorem dX5_cut_18 : decode cX5_cut 18 = .ok (.ifCond .eq 15, 3) := by decide +kernel
theorem dX5_cut_21 : decode cX5_cut 21 = .ok (.iload_n 2, 1) := by decide +kernel
theorem dX5_cut_22 : decode cX5_cut 22 = .ok (.i2l, 1) := by decide +kernel
theorem dX5_cut_23 : decode cX5_cut 23 = .ok (.lconst 0, 1) := by decide +kernel
theorem dX5_cut_24 : decode cX5_cut 24 = .ok (.ldc2_w 200, 3) := by decide +kernel
theorem dX5_cut_27 : decode cX5_cut 27 = .ok (.invokestatic 71, 3) := by decide +kernel
theorem dX5_cut_30 : decode cX5_cut 30 = .ok (.ifCond .ne 5, 3) := by decide +kernel
theorem dX5_cut_33 : decode cX5_cut 33 = .ok (.iconst 0, 1) := by decide +kernel
theorem dX5_cut_34 : decode cX5_cut 34 = .ok (.ireturn, 1) := by decide +kernel
theorem dX5_cut_35 : decode cX5_cut 35 = .ok (.aload_n 0, 1) := by decide +kernel
theorem dX5_cut_36 : decode cX5_cut 36 = .ok (.iload_n 1, 1) := by decide +kernel
theorem dX5_cut_37 : decode cX5_cut 37 = .ok (.invokevirtual 226, 3) := by decide +kernel
theorem dX5_cut_40 : decode cX5_cut 40 = .ok (.istore_n 3, 1) := by decide +kernel
theorem dX5_cut_41 : decode cX5_cut 41 = .ok (.aload_n 0, 1) := by decide +kernel
theorem dX5_cut_42 : decode cX5_cut 42 = .ok (.iload_n 1, 1) := by decide +kernel
theorem dX5_cut_43 : decode cX5_cut 43 = .ok (.invokevirtual 218, 3) := by decide +kernel
theorem dX5_cut_46 : decode cX5_cut 46 = .ok (.istore 4, 2) := by decide +kernel
theorem dX5_cut_48 : decode cX5_cut 48 = .ok (.aload_n 0, 1) := by decide +kernel
theorem dX5_cut_49 : decode cX5_cut 49 = .ok (.iload_n 1, 1) := by decide +kernel
theorem dX5_cut_50 : decode cX5_cut 50 = .ok (.invokevirtual 229, 3) := by decide +kernel
theorem dX5_cut_53 : decode cX5_cut 53 = .ok (.iload_n 3, 1) := by decide +kernel
theorem dX5_cut_54 : decode cX5_cut 54 = .ok (.isub, 1) := by decide +kernel
theorem dX5_cut_55 : decode cX5_cut 55 = .ok (.iconst 1, 1) := by decide +kernel
theorem dX5_cut_56 : decode cX5_cut 56 = .ok (.iadd, 1) := by decide +kernel
theorem dX5_cut_57 : decode cX5_cut 57 = .ok (.iconst 2, 1) := by decide +kernel
theorem dX5_cut_58 : decode cX5_cut 58 = .ok (.iload_n 2, 1) := by decide +kernel
theorem dX5_cut_59 : decode cX5_cut 59 = .ok (.imul, 1) := by decide +kernel
theorem dX5_cut_60 : decode cX5_cut 60 = .ok (.iadd, 1) := by decide +kernel
theorem dX5_cut_61 : decode cX5_cut 61 = .ok (.istore 5, 2) := by decide +kernel
theorem dX5_cut_63 : decode cX5_cut 63 = .ok (.aload_n 0, 1) := by decide +kernel
theorem dX5_cut_64 : decode cX5_cut 64 = .ok (.iload_n 1, 1) := by decide +kernel
theorem dX5_cut_65 : decode cX5_cut 65 = .ok (.invokevirtual 232, 3) := by decide +kernel
theorem dX5_cut_68 : decode cX5_cut 68 = .ok (.iload 4, 2) := by decide +kernel
theorem dX5_cut_70 : decode cX5_cut 70 = .ok (.isub, 1) := by decide +kernel
theorem dX5_cut_71 : decode cX5_cut 71 = .ok (.iconst 1, 1) := by decide +kernel
theorem dX5_cut_72 : decode cX5_cut 72 = .ok (.iadd, 1) := by decide +kernel
theorem dX5_cut_73 : decode cX5_cut 73 = .ok (.iconst 2, 1) := by decide +kernel
theorem dX5_cut_74 : decode cX5_cut 74 = .ok (.iload_n 2, 1) := by decide +kernel
theorem dX5_cut_75 : decode cX5_cut 75 = .ok (.imul, 1) := by decide +kernel
theorem dX5_cut_76 : decode cX5_cut 76 = .ok (.iadd, 1) := by decide +kernel
theorem dX5_cut_77 : decode cX5_cut 77 = .ok (.istore 6, 2) := by decide +kernel
theorem dX5_cut_79 : decode cX5_cut 79 = .ok (.iload 5, 2) := by decide +kernel
theorem dX5_cut_81 : decode cX5_cut 81 = .ok (.bipush 64, 2) := by decide +kernel
theorem dX5_cut_83 : decode cX5_cut 83 = .ok (.if_icmp .gt 10, 3) := by decide +kernel
theorem dX5_cut_86 : decode cX5_cut 86 = .ok (.iload 6, 2) := by decide +kernel
theorem dX5_cut_88 : decode cX5_cut 88 = .ok (.bipush 64, 2) := by decide +kernel
theorem dX5_cut_90 : decode cX5_cut 90 = .ok (.if_icmp .le 5, 3) := by decide +kernel
theorem dX5_cut_93 : decode cX5_cut 93 = .ok (.iconst 0, 1) := by decide +kernel
theorem dX5_cut_94 : decode cX5_cut 94 = .ok (.ireturn, 1) := by decide +kernel
theorem dX5_cut_95 : decode cX5_cut 95 = .ok (.aload_n 0, 1) := by decide +kernel
theorem dX5_cut_96 : decode cX5_cut 96 = .ok (.iload_n 1, 1) := by decide +kernel
theorem dX5_cut_97 : decode cX5_cut 97 = .ok (.invokevirtual 101, 3) := by decide +kernel
theorem dX5_cut_100 : decode cX5_cut 100 = .ok (.aload_n 0, 1) := by decide +kernel
theorem dX5_cut_101 : decode cX5_cut 101 = .ok (.invokevirtual 168, 3) := by decide +kernel
theorem dX5_cut_104 : decode cX5_cut 104 = .ok (.iconst 0, 1) := by decide +kernel
theorem dX5_cut_105 : decode cX5_cut 105 = .ok (.istore 7, 2) := by decide +kernel
theorem dX5_cut_107 : decode cX5_cut 107 = .ok (.iload 7, 2) := by decide +kernel
theorem dX5_cut_109 : decode cX5_cut 109 = .ok (.iload 6, 2) := by decide +kernel
theorem dX5_cut_111 : decode cX5_cut 111 = .ok (.iconst 2, 1) := by decide +kernel
theorem dX5_cut_112 : decode cX5_cut 112 = .ok (.iload_n 2, 1) := by decide +kernel
theorem dX5_cut_113 : decode cX5_cut 113 = .ok (.imul, 1) := by decide +kernel
theorem dX5_cut_114 : decode cX5_cut 114 = .ok (.isub, 1) := by decide +kernel
theorem dX5_cut_115 : decode cX5_cut 115 = .ok (.if_icmp .ge 60, 3) := by decide +kernel
theorem dX5_cut_118 : decode cX5_cut 118 = .ok (.iconst 0, 1) := by decide +kernel
theorem dX5_cut_119 : decode cX5_cut 119 = .ok (.istore 8, 2) := by decide +kernel
theorem dX5_cut_121 : decode cX5_cut 121 = .ok (.iload 8, 2) := by decide +kernel
theorem dX5_cut_123 : decode cX5_cut 123 = .ok (.iload 5, 2) := by decide +kernel
theorem dX5_cut_125 : decode cX5_cut 125 = .ok (.iconst 2, 1) := by decide +kernel
theorem dX5_cut_126 : decode cX5_cut 126 = .ok (.iload_n 2, 1) := by decide +kernel
theorem dX5_cut_127 : decode cX5_cut 127 = .ok (.imul, 1) := by decide +kernel
theorem dX5_cut_128 : decode cX5_cut 128 = .ok (.isub, 1) := by decide +kernel
theorem dX5_cut_129 : decode cX5_cut 129 = .ok (.if_icmp .ge 40, 3) := by decide +kernel
theorem dX5_cut_132 : decode cX5_cut 132 = .ok (.aload_n 0, 1) := by decide +kernel
theorem dX5_cut_133 : decode cX5_cut 133 = .ok (.getfield 21, 3) := by decide +kernel
theorem dX5_cut_136 : decode cX5_cut 136 = .ok (.iload 7, 2) := by decide +kernel
theorem dX5_cut_138 : decode cX5_cut 138 = .ok (.iload_n 2, 1) := by decide +kernel
theorem dX5_cut_139 : decode cX5_cut 139 = .ok (.iadd, 1) := by decide +kernel
theorem dX5_cut_140 : decode cX5_cut 140 = .ok (.bipush 64, 2) := by decide +kernel
theorem dX5_cut_142 : decode cX5_cut 142 = .ok (.imul, 1) := by decide +kernel
theorem dX5_cut_143 : decode cX5_cut 143 = .ok (.iload 8, 2) := by decide +kernel
theorem dX5_cut_145 : decode cX5_cut 145 = .ok (.iadd, 1) := by decide +kernel
theorem dX5_cut_146 : decode cX5_cut 146 = .ok (.iload_n 2, 1) := by decide +kernel
theorem dX5_cut_147 : decode cX5_cut 147 = .ok (.iadd, 1) := by decide +kernel
theorem dX5_cut_148 : decode cX5_cut 148 = .ok (.aload_n 0, 1) := by decide +kernel
theorem dX5_cut_149 : decode cX5_cut 149 = .ok (.iload_n 1, 1) := by decide +kernel
theorem dX5_cut_150 : decode cX5_cut 150 = .ok (.iload_n 3, 1) := by decide +kernel
theorem dX5_cut_151 : decode cX5_cut 151 = .ok (.iload 8, 2) := by decide +kernel
theorem dX5_cut_153 : decode cX5_cut 153 = .ok (.iadd, 1) := by decide +kernel
theorem dX5_cut_154 : decode cX5_cut 154 = .ok (.iload 4, 2) := by decide +kernel
theorem dX5_cut_156 : decode cX5_cut 156 = .ok (.iload 7, 2) := by decide +kernel
theorem dX5_cut_158 : decode cX5_cut 158 = .ok (.iadd, 1) := by decide +kernel
theorem dX5_cut_159 : decode cX5_cut 159 = .ok (.invokevirtual 109, 3) := by decide +kernel
theorem dX5_cut_162 : decode cX5_cut 162 = .ok (.bastore, 1) := by decide +kernel
theorem dX5_cut_163 : decode cX5_cut 163 = .ok (.iinc 8 1, 3) := by decide +kernel
theorem dX5_cut_166 : decode cX5_cut 166 = .ok (.goto (-45), 3) := by decide +kernel
theorem dX5_cut_169 : decode cX5_cut 169 = .ok (.iinc 7 1, 3) := by decide +kernel
theorem dX5_cut_172 : decode cX5_cut 172 = .ok (.goto (-65), 3) := by decide +kernel
theorem dX5_cut_175 : decode cX5_cut 175 = .ok (.aload_n 0, 1) := by decide +kernel
theorem dX5_cut_176 : decode cX5_cut 176 = .ok (.iload_n 1, 1) := by decide +kernel
theorem dX5_cut_177 : decode cX5_cut 177 = .ok (.iload 5, 2) := by decide +kernel
theorem dX5_cut_179 : decode cX5_cut 179 = .ok (.iload 6, 2) := by decide +kernel
theorem dX5_cut_181 : decode cX5_cut 181 = .ok (.invokevirtual 171, 3) := by decide +kernel
theorem dX5_cut_184 : decode cX5_cut 184 = .ok (.iconst 1, 1) := by decide +kernel
theorem dX5_cut_185 : decode cX5_cut 185 = .ok (.ireturn, 1) := by decide +kernel
set_option maxRecDepth 20000 in
theorem ggX5_spans_X5_isPage : GoodIn wsX5_spans wsX5_isPage := goodIn_r _ [11, 12, 13, 14, 10, 15, 29, 30, 31, 32, 33, 34, 35, 36, 37, 38, 39, 40, 41, 42, 43, 44, 45, 46, 47, 48, 49, 50, 51, 52] (by decide +kernel) (by decide +kernel)
set_option maxRecDepth 20000 in
theorem gX5_spans_X5_isPage : GoodIn wsX5_spans (wsV RX5 81 RX5 yX5_isPage wsX5_isPage) := goodIn_app (goodIn_of _ (by decide +kernel)) ggX5_spans_X5_isPage
set_option maxRecDepth 20000 in
theorem ggX5_spans_X5_in : GoodIn wsX5_spans wsX5_in := goodIn_r _ [15] (by decide +kernel) (by decide +kernel)
set_option maxRecDepth 20000 in
theorem gX5_spans_X5_in : GoodIn wsX5_spans (va_wsS RX5 71 yX5_in wsX5_in) := goodIn_app (goodIn_of _ (by decide +kernel)) ggX5_spans_X5_in
set_option maxRecDepth 20000 in
theorem ggX5_spans_X5_columnInk : GoodIn wsX5_spans wsX5_columnInk := goodIn_r _ [19, 5, 20, 21, 22, 10, 23, 24, 29, 30, 31, 32, 33, 34, 35, 36, 37, 38, 39, 40, 41, 42, 43, 44, 45, 46, 47, 48, 49, 50, 51, 52] (by decide +kernel) (by decide +kernel)
set_option maxRecDepth 20000 in
theorem gX5_spans_X5_columnInk : GoodIn wsX5_spans (wsV RX5 140 RX5 yX5_columnInk wsX5_columnInk) := goodIn_app (goodIn_of _ (by decide +kernel)) ggX5_spans_X5_columnInk
set_option maxRecDepth 20000 in
theorem ggX5_spans_X5_rowInk : GoodIn wsX5_spans wsX5_rowInk := goodIn_r _ [28, 4, 20, 21, 22, 10, 23, 24, 29, 30, 31, 32, 33, 34, 35, 36, 37, 38, 39, 40, 41, 42, 43, 44, 45, 46, 47, 48, 49, 50, 51, 52] (by decide +kernel) (by decide +kernel)
set_option maxRecDepth 20000 in
theorem gX5_spans_X5_rowInk : GoodIn wsX5_spans (wsV RX5 116 RX5 yX5_rowInk wsX5_rowInk) := goodIn_app (goodIn_of _ (by decide +kernel)) ggX5_spans_X5_rowInk
theorem dX5_spans_0 : decode cX5_spans 0 = .ok (.aload_n 0, 1) := by decide +kernel
theorem dX5_spans_1 : decode cX5_spans 1 = .ok (.iconst 0, 1) := by decide +kernel
theorem dX5_spans_2 : decode cX5_spans 2 = .ok (.putfield 64, 3) := by decide +kernel
theorem dX5_spans_5 : decode cX5_spans 5 = .ok (.aload_n 0, 1) := by decide +kernel
theorem dX5_spans_6 : decode cX5_spans 6 = .ok (.iload_n 1, 1) := by decide +kernel
theorem dX5_spans_7 : decode cX5_spans 7 = .ok (.invokevirtual 81, 3) := by decide +kernel
theorem dX5_spans_10 : decode cX5_spans 10 = .ok (.ifCond .eq 25, 3) := by decide +kernel
theorem dX5_spans_13 : decode cX5_spans 13 = .ok (.iload_n 2, 1) := by decide +kernel
theorem dX5_spans_14 : decode cX5_spans 14 = .ok (.i2l, 1) := by decide +kernel
theorem dX5_spans_15 : decode cX5_spans 15 = .ok (.lconst 0, 1) := by decide +kernel
theorem dX5_spans_16 : decode cX5_spans 16 = .ok (.lconst 1, 1) := by decide +kernel
theorem dX5_spans_17 : decode cX5_spans 17 = .ok (.invokestatic 71, 3) := by decide +kernel
theorem dX5_spans_20 : decode cX5_spans 20 = .ok (.ifCond .eq 15, 3) := by decide +kernel
theorem dX5_spans_23 : decode cX5_spans 23 = .ok (.iload_n 3, 1) := by decide +kernel
theorem dX5_spans_24 : decode cX5_spans 24 = .ok (.i2l, 1) := by decide +kernel
theorem dX5_spans_25 : decode cX5_spans 25 = .ok (.lconst 1, 1) := by decide +kernel
theorem dX5_spans_26 : decode cX5_spans 26 = .ok (.ldc2_w 75, 3) := by decide +kernel
theorem dX5_spans_29 : decode cX5_spans 29 = .ok (.invokestatic 71, 3) := by decide +kernel
theorem dX5_spans_32 : decode cX5_spans 32 = .ok (.ifCond .ne 5, 3) := by decide +kernel
theorem dX5_spans_35 : decode cX5_spans 35 = .ok (.iconst (-1), 1) := by decide +kernel
theorem dX5_spans_36 : decode cX5_spans 36 = .ok (.ireturn, 1) := by decide +kernel
theorem dX5_spans_37 : decode cX5_spans 37 = .ok (.aload_n 0, 1) := by decide +kernel
theorem dX5_spans_38 : decode cX5_spans 38 = .ok (.iconst 0, 1) := by decide +kernel
theorem dX5_spans_39 : decode cX5_spans 39 = .ok (.putfield 152, 3) := by decide +kernel
theorem dX5_spans_42 : decode cX5_spans 42 = .ok (.iload_n 2, 1) := by decide +kernel
theorem dX5_spans_43 : decode cX5_spans 43 = .ok (.ifCond .ne 12, 3) := by decide +kernel
theorem dX5_spans_46 : decode cX5_spans 46 = .ok (.aload_n 0, 1) := by decide +kernel
theorem dX5_spans_47 : decode cX5_spans 47 = .ok (.getfield 9, 3) := by decide +kernel
theorem dX5_spans_50 : decode cX5_spans 50 = .ok (.iload_n 1, 1) := by decide +kernel
theorem dX5_spans_51 : decode cX5_spans 51 = .ok (.iaload, 1) := by decide +kernel
theorem dX5_spans_52 : decode cX5_spans 52 = .ok (.goto 9, 3) := by decide +kernel
theorem dX5_spans_55 : decode cX5_spans 55 = .ok (.aload_n 0, 1) := by decide +kernel
theorem dX5_spans_56 : decode cX5_spans 56 = .ok (.getfield 13, 3) := by decide +kernel
theorem dX5_spans_59 : decode cX5_spans 59 = .ok (.iload_n 1, 1) := by decide +kernel
theorem dX5_spans_60 : decode cX5_spans 60 = .ok (.iaload, 1) := by decide +kernel
theorem dX5_spans_61 : decode cX5_spans 61 = .ok (.istore 4, 2) := by decide +kernel
theorem dX5_spans_63 : decode cX5_spans 63 = .ok (.iconst 0, 1) := by decide +kernel
theorem dX5_spans_64 : decode cX5_spans 64 = .ok (.istore 5, 2) := by decide +kernel
theorem dX5_spans_66 : decode cX5_spans 66 = .ok (.iload 5, 2) := by decide +kernel
theorem dX5_spans_68 : decode cX5_spans 68 = .ok (.iload 4, 2) := by decide +kernel
theorem dX5_spans_70 : decode cX5_spans 70 = .ok (.if_icmp .ge 101, 3) := by decide +kernel
theorem dX5_spans_73 : decode cX5_spans 73 = .ok (.iload_n 2, 1) := by decide +kernel
theorem dX5_spans_74 : decode cX5_spans 74 = .ok (.ifCond .ne 13, 3) := by decide +kernel
theorem dX5_spans_77 : decode cX5_spans 77 = .ok (.aload_n 0, 1) := by decide +kernel
theorem dX5_spans_78 : decode cX5_spans 78 = .ok (.iload_n 1, 1) := by decide +kernel
theorem dX5_spans_79 : decode cX5_spans 79 = .ok (.iload 5, 2) := by decide +kernel
theorem dX5_spans_81 : decode cX5_spans 81 = .ok (.invokevirtual 140, 3) := by decide +kernel
theorem dX5_spans_84 : decode cX5_spans 84 = .ok (.goto 10, 3) := by decide +kernel
theorem dX5_spans_87 : decode cX5_spans 87 = .ok (.aload_n 0, 1) := by decide +kernel
theorem dX5_spans_88 : decode cX5_spans 88 = .ok (.iload_n 1, 1) := by decide +kernel
theorem dX5_spans_89 : decode cX5_spans 89 = .ok (.iload 5, 2) := by decide +kernel
theorem dX5_spans_91 : decode cX5_spans 91 = .ok (.invokevirtual 116, 3) := by decide +kernel
theorem dX5_spans_94 : decode cX5_spans 94 = .ok (.istore 6, 2) := by decide +kernel
theorem dX5_spans_96 : decode cX5_spans 96 = .ok (.iload 6, 2) := by decide +kernel
theorem dX5_spans_98 : decode cX5_spans 98 = .ok (.ifCond .ne 6, 3) := by decide +kernel
theorem dX5_spans_101 : decode cX5_spans 101 = .ok (.goto 64, 3) := by decide +kernel
theorem dX5_spans_104 : decode cX5_spans 104 = .ok (.aload_n 0, 1) := by decide +kernel
theorem dX5_spans_105 : decode cX5_spans 105 = .ok (.getfield 152, 3) := by decide +kernel
theorem dX5_spans_108 : decode cX5_spans 108 = .ok (.ifCond .eq 23, 3) := by decide +kernel
theorem dX5_spans_111 : decode cX5_spans 111 = .ok (.iload 5, 2) := by decide +kernel
theorem dX5_spans_113 : decode cX5_spans 113 = .ok (.aload_n 0, 1) := by decide +kernel
theorem dX5_spans_114 : decode cX5_spans 114 = .ok (.getfield 61, 3) := by decide +kernel
theorem dX5_spans_117 : decode cX5_spans 117 = .ok (.aload_n 0, 1) := by decide +kernel
theorem dX5_spans_118 : decode cX5_spans 118 = .ok (.getfield 152, 3) := by decide +kernel
theorem dX5_spans_121 : decode cX5_spans 121 = .ok (.iconst 1, 1) := by decide +kernel
theorem dX5_spans_122 : decode cX5_spans 122 = .ok (.isub, 1) := by decide +kernel
theorem dX5_spans_123 : decode cX5_spans 123 = .ok (.iaload, 1) := by decide +kernel
theorem dX5_spans_124 : decode cX5_spans 124 = .ok (.isub, 1) := by decide +kernel
theorem dX5_spans_125 : decode cX5_spans 125 = .ok (.iconst 1, 1) := by decide +kernel
theorem dX5_spans_126 : decode cX5_spans 126 = .ok (.isub, 1) := by decide +kernel
theorem dX5_spans_127 : decode cX5_spans 127 = .ok (.iload_n 3, 1) := by decide +kernel
theorem dX5_spans_128 : decode cX5_spans 128 = .ok (.if_icmp .lt 24, 3) := by decide +kernel
theorem dX5_spans_131 : decode cX5_spans 131 = .ok (.aload_n 0, 1) := by decide +kernel
theorem dX5_spans_132 : decode cX5_spans 132 = .ok (.getfield 61, 3) := by decide +kernel
theorem dX5_spans_135 : decode cX5_spans 135 = .ok (.aload_n 0, 1) := by decide +kernel
theorem dX5_spans_136 : decode cX5_spans 136 = .ok (.getfield 152, 3) := by decide +kernel
theorem dX5_spans_139 : decode cX5_spans 139 = .ok (.iload 5, 2) := by decide +kernel
theorem dX5_spans_141 : decode cX5_spans 141 = .ok (.iastore, 1) := by decide +kernel
theorem dX5_spans_142 : decode cX5_spans 142 = .ok (.aload_n 0, 1) := by decide +kernel
theorem dX5_spans_143 : decode cX5_spans 143 = .ok (.dup, 1) := by decide +kernel
theorem dX5_spans_144 : decode cX5_spans 144 = .ok (.getfield 152, 3) := by decide +kernel
theorem dX5_spans_147 : decode cX5_spans 147 = .ok (.iconst 2, 1) := by decide +kernel
theorem dX5_spans_148 : decode cX5_spans 148 = .ok (.iadd, 1) := by decide +kernel
theorem dX5_spans_149 : decode cX5_spans 149 = .ok (.putfield 152, 3) := by decide +kernel
theorem dX5_spans_152 : decode cX5_spans 152 = .ok (.aload_n 0, 1) := by decide +kernel
theorem dX5_spans_153 : decode cX5_spans 153 = .ok (.getfield 61, 3) := by decide +kernel
theorem dX5_spans_156 : decode cX5_spans 156 = .ok (.aload_n 0, 1) := by decide +kernel
theorem dX5_spans_157 : decode cX5_spans 157 = .ok (.getfield 152, 3) := by decide +kernel
theorem dX5_spans_160 : decode cX5_spans 160 = .ok (.iconst 1, 1) := by decide +kernel
theorem dX5_spans_161 : decode cX5_spans 161 = .ok (.isub, 1) := by decide +kernel
theorem dX5_spans_162 : decode cX5_spans 162 = .ok (.iload 5, 2) := by decide +kernel
theorem dX5_spans_164 : decode cX5_spans 164 = .ok (.iastore, 1) := by decide +kernel
theorem dX5_spans_165 : decode cX5_spans 165 = .ok (.iinc 5 1, 3) := by decide +kernel
theorem dX5_spans_168 : decode cX5_spans 168 = .ok (.goto (-102), 3) := by decide +kernel
theorem dX5_spans_171 : decode cX5_spans 171 = .ok (.aload_n 0, 1) := by decide +kernel
theorem dX5_spans_172 : decode cX5_spans 172 = .ok (.getfield 152, 3) := by decide +kernel
theorem dX5_spans_175 : decode cX5_spans 175 = .ok (.iconst 2, 1) := by decide +kernel
theorem dX5_spans_176 : decode cX5_spans 176 = .ok (.idiv, 1) := by decide +kernel
theorem dX5_spans_177 : decode cX5_spans 177 = .ok (.ireturn, 1) := by decide +kernel
set_option maxRecDepth 20000 in
theorem ggX5_told_X5_in : GoodIn wsX5_told wsX5_in := goodIn_r _ [7] (by decide +kernel) (by decide +kernel)
set_option maxRecDepth 20000 in
theorem gX5_told_X5_in : GoodIn wsX5_told (va_wsS RX5 71 yX5_in wsX5_in) := goodIn_app (goodIn_of _ (by decide +kernel)) ggX5_told_X5_in
set_option maxRecDepth 20000 in
theorem ggX5_told_X5_refuse : GoodIn wsX5_told wsX5_refuse := goodIn_r _ [11, 1, 12, 13, 14, 15, 16, 17, 18, 19, 20, 21, 22, 23, 24, 25, 26, 27, 28, 29, 30, 31, 32, 33, 34, 35] (by decide +kernel) (by decide +kernel)
set_option maxRecDepth 20000 in
theorem gX5_told_X5_refuse : GoodIn wsX5_told (wsV RX5 127 RX5 yX5_refuse wsX5_refuse) := goodIn_app (goodIn_of _ (by decide +kernel)) ggX5_told_X5_refuse
theorem dX5_told_0 : decode cX5_told 0 = .ok (.aload_n 0, 1) := by decide +kernel
theorem dX5_told_1 : decode cX5_told 1 = .ok (.iconst 0, 1) := by decide +kernel
theorem dX5_told_2 : decode cX5_told 2 = .ok (.putfield 64, 3) := by decide +kernel
theorem dX5_told_5 : decode cX5_told 5 = .ok (.iload_n 1, 1) := by decide +kernel
theorem dX5_told_6 : decode cX5_told 6 = .ok (.i2l, 1) := by decide +kernel
theorem dX5_told_7 : decode cX5_told 7 = .ok (.lconst 0, 1) := by decide +kernel
theorem dX5_told_8 : decode cX5_told 8 = .ok (.aload_n 0, 1) := by decide +kernel
theorem dX5_told_9 : decode cX5_told 9 = .ok (.getfield 152, 3) := by decide +kernel
theorem dX5_told_12 : decode cX5_told 12 = .ok (.iconst 1, 1) := by decide +kernel
theorem dX5_told_13 : decode cX5_told 13 = .ok (.isub, 1) := by decide +kernel
theorem dX5_told_14 : decode cX5_told 14 = .ok (.i2l, 1) := by decide +kernel
theorem dX5_told_15 : decode cX5_told 15 = .ok (.invokestatic 71, 3) := by decide +kernel
theorem dX5_told_18 : decode cX5_told 18 = .ok (.ifCond .eq 12, 3) := by decide +kernel
theorem dX5_told_21 : decode cX5_told 21 = .ok (.aload_n 0, 1) := by decide +kernel
theorem dX5_told_22 : decode cX5_told 22 = .ok (.getfield 61, 3) := by decide +kernel
theorem dX5_told_25 : decode cX5_told 25 = .ok (.iload_n 1, 1) := by decide +kernel
theorem dX5_told_26 : decode cX5_told 26 = .ok (.iaload, 1) := by decide +kernel
theorem dX5_told_27 : decode cX5_told 27 = .ok (.goto 7, 3) := by decide +kernel
theorem dX5_told_30 : decode cX5_told 30 = .ok (.aload_n 0, 1) := by decide +kernel
theorem dX5_told_31 : decode cX5_told 31 = .ok (.invokevirtual 127, 3) := by decide +kernel
theorem dX5_told_34 : decode cX5_told 34 = .ok (.ireturn, 1) := by decide +kernel
set_option maxRecDepth 20000 in
theorem ggX5_part_X5_isPage : GoodIn wsX5_part wsX5_isPage := goodIn_r _ [15, 3, 16, 17, 14, 18, 48, 49, 50, 51, 52, 53, 54, 55, 56, 57, 58, 59, 60, 61, 62, 63, 64, 65, 66, 67, 68, 69, 70, 71] (by decide +kernel) (by decide +kernel)
set_option maxRecDepth 20000 in
theorem gX5_part_X5_isPage : GoodIn wsX5_part (wsV RX5 81 RX5 yX5_isPage wsX5_isPage) := goodIn_app (goodIn_of _ (by decide +kernel)) ggX5_part_X5_isPage
set_option maxRecDepth 20000 in
theorem ggX5_part_X5_in : GoodIn wsX5_part wsX5_in := goodIn_r _ [18] (by decide +kernel) (by decide +kernel)
set_option maxRecDepth 20000 in
theorem gX5_part_X5_in : GoodIn wsX5_part (va_wsS RX5 71 yX5_in wsX5_in) := goodIn_app (goodIn_of _ (by decide +kernel)) ggX5_part_X5_in
set_option maxRecDepth 20000 in
theorem ggX5_part_X5_columnInk : GoodIn wsX5_part wsX5_columnInk := goodIn_r _ [22, 10, 23, 24, 25, 14, 26, 27, 48, 49, 50, 51, 52, 53, 54, 55, 56, 57, 58, 59, 60, 61, 62, 63, 64, 65, 66, 67, 68, 69, 70, 71] (by decide +kernel) (by decide +kernel)
set_option maxRecDepth 20000 in
theorem gX5_part_X5_columnInk : GoodIn wsX5_part (wsV RX5 140 RX5 yX5_columnInk wsX5_columnInk) := goodIn_app (goodIn_of _ (by decide +kernel)) ggX5_part_X5_columnInk
set_option maxRecDepth 20000 in
theorem ggX5_part_X5_changing : GoodIn wsX5_part wsX5_changing := goodIn_r _ [31, 9, 32, 33, 34, 6, 35, 36, 37, 2, 38, 10, 8, 39, 27, 48, 49, 50, 51, 52, 53, 54, 55, 56, 57, 58, 59, 60, 61, 62, 63, 64, 65, 66, 67, 68, 69, 70, 71] (by decide +kernel) (by decide +kernel)
set_option maxRecDepth 20000 in
theorem gX5_part_X5_changing : GoodIn wsX5_part (wsV RX5 101 RX5 yX5_changing wsX5_changing) := goodIn_app (goodIn_of _ (by decide +kernel)) ggX5_part_X5_changing
set_option maxRecDepth 20000 in
theorem ggX5_part_X5_clears : GoodIn wsX5_part wsX5_clears := goodIn_r _ [43, 2, 10, 27, 48, 49, 50, 51, 52, 53, 54, 55, 56, 57, 58, 59, 60, 61, 62, 63, 64, 65, 66, 67, 68, 69, 70, 71] (by decide +kernel) (by decide +kernel)
set_option maxRecDepth 20000 in
theorem gX5_part_X5_clears : GoodIn wsX5_part (wsV RX5 77 RX5 yX5_clears wsX5_clears) := goodIn_app (goodIn_of _ (by decide +kernel)) ggX5_part_X5_clears
set_option maxRecDepth 20000 in
theorem ggX5_part_X5_has : GoodIn wsX5_part wsX5_has := goodIn_r _ [26, 27, 48, 49, 50, 51, 52, 53, 54, 55, 56, 57, 58, 59, 60, 61, 62, 63, 64, 65, 66, 67, 68, 69, 70, 71] (by decide +kernel) (by decide +kernel)
set_option maxRecDepth 20000 in
theorem gX5_part_X5_has : GoodIn wsX5_part (wsV RX5 109 RX5 yX5_has wsX5_has) := goodIn_app (goodIn_of _ (by decide +kernel)) ggX5_part_X5_has
set_option maxRecDepth 20000 in
theorem ggX5_part_X5_inks : GoodIn wsX5_part wsX5_inks := goodIn_r _ [47, 27, 48, 49, 50, 51, 52, 53, 54, 55, 56, 57, 58, 59, 60, 61, 62, 63, 64, 65, 66, 67, 68, 69, 70, 71] (by decide +kernel) (by decide +kernel)
set_option maxRecDepth 20000 in
theorem gX5_part_X5_inks : GoodIn wsX5_part (wsV RX5 105 RX5 yX5_inks wsX5_inks) := goodIn_app (goodIn_of _ (by decide +kernel)) ggX5_part_X5_inks
theorem dX5_part_0 : decode cX5_part 0 = .ok (.aload_n 0, 1) := by decide +kernel
theorem dX5_part_1 : decode cX5_part 1 = .ok (.iconst 0, 1) := by decide +kernel
theorem dX5_part_2 : decode cX5_part 2 = .ok (.putfield 64, 3) := by decide +kernel
theorem dX5_part_5 : decode cX5_part 5 = .ok (.aload_n 0, 1) := by decide +kernel
theorem dX5_part_6 : decode cX5_part 6 = .ok (.iload_n 1, 1) := by decide +kernel
theorem dX5_part_7 : decode cX5_part 7 = .ok (.invokevirtual 81, 3) := by decide +kernel
theorem dX5_part_10 : decode cX5_part 10 = .ok (.ifCond .eq 38, 3) := by decide +kernel
theorem dX5_part_13 : decode cX5_part 13 = .ok (.iload_n 2, 1) := by decide +kernel
theorem dX5_part_14 : decode cX5_part 14 = .ok (.i2l, 1) := by decide +kernel
theorem dX5_part_15 : decode cX5_part 15 = .ok (.lconst 1, 1) := by decide +kernel
theorem dX5_part_16 : decode cX5_part 16 = .ok (.iload_n 3, 1) := by decide +kernel
theorem dX5_part_17 : decode cX5_part 17 = .ok (.i2l, 1) := by decide +kernel
theorem dX5_part_18 : decode cX5_part 18 = .ok (.invokestatic 71, 3) := by decide +kernel
theorem dX5_part_21 : decode cX5_part 21 = .ok (.ifCond .eq 27, 3) := by decide +kernel
theorem dX5_part_24 : decode cX5_part 24 = .ok (.iload_n 3, 1) := by decide +kernel
theorem dX5_part_25 : decode cX5_part 25 = .ok (.aload_n 0, 1) := by decide +kernel
theorem dX5_part_26 : decode cX5_part 26 = .ok (.getfield 9, 3) := by decide +kernel
theorem dX5_part_29 : decode cX5_part 29 = .ok (.iload_n 1, 1) := by decide +kernel
theorem dX5_part_30 : decode cX5_part 30 = .ok (.iaload, 1) := by decide +kernel
theorem dX5_part_31 : decode cX5_part 31 = .ok (.if_icmp .ge 17, 3) := by decide +kernel
theorem dX5_part_34 : decode cX5_part 34 = .ok (.iload 4, 2) := by decide +kernel
theorem dX5_part_36 : decode cX5_part 36 = .ok (.ifCond .lt 12, 3) := by decide +kernel
theorem dX5_part_39 : decode cX5_part 39 = .ok (.aload_n 0, 1) := by decide +kernel
theorem dX5_part_40 : decode cX5_part 40 = .ok (.getfield 68, 3) := by decide +kernel
theorem dX5_part_43 : decode cX5_part 43 = .ok (.bipush 8, 2) := by decide +kernel
theorem dX5_part_45 : decode cX5_part 45 = .ok (.if_icmp .ne 5, 3) := by decide +kernel
theorem dX5_part_48 : decode cX5_part 48 = .ok (.iconst (-1), 1) := by decide +kernel
theorem dX5_part_49 : decode cX5_part 49 = .ok (.ireturn, 1) := by decide +kernel
theorem dX5_part_50 : decode cX5_part 50 = .ok (.iload_n 2, 1) := by decide +kernel
theorem dX5_part_51 : decode cX5_part 51 = .ok (.istore 5, 2) := by decide +kernel
theorem dX5_part_53 : decode cX5_part 53 = .ok (.iload_n 2, 1) := by decide +kernel
theorem dX5_part_54 : decode cX5_part 54 = .ok (.iconst 1, 1) := by decide +kernel
theorem dX5_part_55 : decode cX5_part 55 = .ok (.iadd, 1) := by decide +kernel
theorem dX5_part_56 : decode cX5_part 56 = .ok (.istore 6, 2) := by decide +kernel
theorem dX5_part_58 : decode cX5_part 58 = .ok (.iload 6, 2) := by decide +kernel
theorem dX5_part_60 : decode cX5_part 60 = .ok (.iload_n 3, 1) := by decide +kernel
theorem dX5_part_61 : decode cX5_part 61 = .ok (.if_icmp .gt 65, 3) := by decide +kernel
theorem dX5_part_64 : decode cX5_part 64 = .ok (.aload_n 0, 1) := by decide +kernel
theorem dX5_part_65 : decode cX5_part 65 = .ok (.iload_n 1, 1) := by decide +kernel
theorem dX5_part_66 : decode cX5_part 66 = .ok (.iload 6, 2) := by decide +kernel
theorem dX5_part_68 : decode cX5_part 68 = .ok (.invokevirtual 140, 3) := by decide +kernel
theorem dX5_part_71 : decode cX5_part 71 = .ok (.aload_n 0, 1) := by decide +kernel
theorem dX5_part_72 : decode cX5_part 72 = .ok (.iload_n 1, 1) := by decide +kernel
theorem dX5_part_73 : decode cX5_part 73 = .ok (.iload 5, 2) := by decide +kernel
theorem dX5_part_75 : decode cX5_part 75 = .ok (.invokevirtual 140, 3) := by decide +kernel
theorem dX5_part_78 : decode cX5_part 78 = .ok (.isub, 1) := by decide +kernel
theorem dX5_part_79 : decode cX5_part 79 = .ok (.istore 7, 2) := by decide +kernel
theorem dX5_part_81 : decode cX5_part 81 = .ok (.iload 7, 2) := by decide +kernel
theorem dX5_part_83 : decode cX5_part 83 = .ok (.ifCond .lt 33, 3) := by decide +kernel
theorem dX5_part_86 : decode cX5_part 86 = .ok (.iload 7, 2) := by decide +kernel
theorem dX5_part_88 : decode cX5_part 88 = .ok (.ifCond .ne 32, 3) := by decide +kernel
theorem dX5_part_91 : decode cX5_part 91 = .ok (.iconst 2, 1) := by decide +kernel
theorem dX5_part_92 : decode cX5_part 92 = .ok (.iload 6, 2) := by decide +kernel
theorem dX5_part_94 : decode cX5_part 94 = .ok (.imul, 1) := by decide +kernel
theorem dX5_part_95 : decode cX5_part 95 = .ok (.iload_n 2, 1) := by decide +kernel
theorem dX5_part_96 : decode cX5_part 96 = .ok (.isub, 1) := by decide +kernel
theorem dX5_part_97 : decode cX5_part 97 = .ok (.iload_n 3, 1) := by decide +kernel
theorem dX5_part_98 : decode cX5_part 98 = .ok (.isub, 1) := by decide +kernel
theorem dX5_part_99 : decode cX5_part 99 = .ok (.invokestatic 235, 3) := by decide +kernel
theorem dX5_part_102 : decode cX5_part 102 = .ok (.iconst 2, 1) := by decide +kernel
theorem dX5_part_103 : decode cX5_part 103 = .ok (.iload 5, 2) := by decide +kernel
theorem dX5_part_105 : decode cX5_part 105 = .ok (.imul, 1) := by decide +kernel
theorem dX5_part_106 : decode cX5_part 106 = .ok (.iload_n 2, 1) := by decide +kernel
theorem dX5_part_107 : decode cX5_part 107 = .ok (.isub, 1) := by decide +kernel
theorem dX5_part_108 : decode cX5_part 108 = .ok (.iload_n 3, 1) := by decide +kernel
theorem dX5_part_109 : decode cX5_part 109 = .ok (.isub, 1) := by decide +kernel
theorem dX5_part_110 : decode cX5_part 110 = .ok (.invokestatic 235, 3) := by decide +kernel
theorem dX5_part_113 : decode cX5_part 113 = .ok (.if_icmp .ge 7, 3) := by decide +kernel
theorem dX5_part_116 : decode cX5_part 116 = .ok (.iload 6, 2) := by decide +kernel
theorem dX5_part_118 : decode cX5_part 118 = .ok (.istore 5, 2) := by decide +kernel
theorem dX5_part_120 : decode cX5_part 120 = .ok (.iinc 6 1, 3) := by decide +kernel
theorem dX5_part_123 : decode cX5_part 123 = .ok (.goto (-65), 3) := by decide +kernel
theorem dX5_part_126 : decode cX5_part 126 = .ok (.aload_n 0, 1) := by decide +kernel
theorem dX5_part_127 : decode cX5_part 127 = .ok (.iload_n 1, 1) := by decide +kernel
theorem dX5_part_128 : decode cX5_part 128 = .ok (.iload 5, 2) := by decide +kernel
theorem dX5_part_130 : decode cX5_part 130 = .ok (.invokevirtual 140, 3) := by decide +kernel
theorem dX5_part_133 : decode cX5_part 133 = .ok (.iload 4, 2) := by decide +kernel
theorem dX5_part_135 : decode cX5_part 135 = .ok (.if_icmp .le 5, 3) := by decide +kernel
theorem dX5_part_138 : decode cX5_part 138 = .ok (.iconst (-1), 1) := by decide +kernel
theorem dX5_part_139 : decode cX5_part 139 = .ok (.ireturn, 1) := by decide +kernel
theorem dX5_part_140 : decode cX5_part 140 = .ok (.aload_n 0, 1) := by decide +kernel
theorem dX5_part_141 : decode cX5_part 141 = .ok (.iload_n 1, 1) := by decide +kernel
theorem dX5_part_142 : decode cX5_part 142 = .ok (.invokevirtual 101, 3) := by decide +kernel
theorem dX5_part_145 : decode cX5_part 145 = .ok (.aload_n 0, 1) := by decide +kernel
theorem dX5_part_146 : decode cX5_part 146 = .ok (.getfield 33, 3) := by decide +kernel
theorem dX5_part_149 : decode cX5_part 149 = .ok (.aload_n 0, 1) := by decide +kernel
theorem dX5_part_150 : decode cX5_part 150 = .ok (.getfield 85, 3) := by decide +kernel
theorem dX5_part_153 : decode cX5_part 153 = .ok (.aload_n 0, 1) := by decide +kernel
theorem dX5_part_154 : decode cX5_part 154 = .ok (.getfield 68, 3) := by decide +kernel
theorem dX5_part_157 : decode cX5_part 157 = .ok (.iastore, 1) := by decide +kernel
theorem dX5_part_158 : decode cX5_part 158 = .ok (.aload_n 0, 1) := by decide +kernel
theorem dX5_part_159 : decode cX5_part 159 = .ok (.getfield 9, 3) := by decide +kernel
theorem dX5_part_162 : decode cX5_part 162 = .ok (.iload_n 1, 1) := by decide +kernel
theorem dX5_part_163 : decode cX5_part 163 = .ok (.iaload, 1) := by decide +kernel
theorem dX5_part_164 : decode cX5_part 164 = .ok (.istore 6, 2) := by decide +kernel
theorem dX5_part_166 : decode cX5_part 166 = .ok (.aload_n 0, 1) := by decide +kernel
theorem dX5_part_167 : decode cX5_part 167 = .ok (.aload_n 0, 1) := by decide +kernel
theorem dX5_part_168 : decode cX5_part 168 = .ok (.getfield 68, 3) := by decide +kernel
theorem dX5_part_171 : decode cX5_part 171 = .ok (.iload 6, 2) := by decide +kernel
theorem dX5_part_173 : decode cX5_part 173 = .ok (.iload 5, 2) := by decide +kernel
theorem dX5_part_175 : decode cX5_part 175 = .ok (.isub, 1) := by decide +kernel
theorem dX5_part_176 : decode cX5_part 176 = .ok (.aload_n 0, 1) := by decide +kernel
theorem dX5_part_177 : decode cX5_part 177 = .ok (.getfield 13, 3) := by decide +kernel
theorem dX5_part_180 : decode cX5_part 180 = .ok (.iload_n 1, 1) := by decide +kernel
theorem dX5_part_181 : decode cX5_part 181 = .ok (.iaload, 1) := by decide +kernel
theorem dX5_part_182 : decode cX5_part 182 = .ok (.invokevirtual 77, 3) := by decide +kernel
theorem dX5_part_185 : decode cX5_part 185 = .ok (.iconst 0, 1) := by decide +kernel
theorem dX5_part_186 : decode cX5_part 186 = .ok (.istore 7, 2) := by decide +kernel
theorem dX5_part_188 : decode cX5_part 188 = .ok (.iload 7, 2) := by decide +kernel
theorem dX5_part_190 : decode cX5_part 190 = .ok (.aload_n 0, 1) := by decide +kernel
theorem dX5_part_191 : decode cX5_part 191 = .ok (.getfield 13, 3) := by decide +kernel
theorem dX5_part_194 : decode cX5_part 194 = .ok (.iload_n 1, 1) := by decide +kernel
theorem dX5_part_195 : decode cX5_part 195 = .ok (.iaload, 1) := by decide +kernel
theorem dX5_part_196 : decode cX5_part 196 = .ok (.if_icmp .ge 60, 3) := by decide +kernel
theorem dX5_part_199 : decode cX5_part 199 = .ok (.iload 5, 2) := by decide +kernel
theorem dX5_part_201 : decode cX5_part 201 = .ok (.istore 8, 2) := by decide +kernel
theorem dX5_part_203 : decode cX5_part 203 = .ok (.iload 8, 2) := by decide +kernel
theorem dX5_part_205 : decode cX5_part 205 = .ok (.iload 6, 2) := by decide +kernel
theorem dX5_part_207 : decode cX5_part 207 = .ok (.if_icmp .ge 43, 3) := by decide +kernel
theorem dX5_part_210 : decode cX5_part 210 = .ok (.aload_n 0, 1) := by decide +kernel
theorem dX5_part_211 : decode cX5_part 211 = .ok (.aload_n 0, 1) := by decide +kernel
theorem dX5_part_212 : decode cX5_part 212 = .ok (.getfield 68, 3) := by decide +kernel
theorem dX5_part_215 : decode cX5_part 215 = .ok (.iload 8, 2) := by decide +kernel
theorem dX5_part_217 : decode cX5_part 217 = .ok (.iload 5, 2) := by decide +kernel
theorem dX5_part_219 : decode cX5_part 219 = .ok (.isub, 1) := by decide +kernel
theorem dX5_part_220 : decode cX5_part 220 = .ok (.iload 7, 2) := by decide +kernel
theorem dX5_part_222 : decode cX5_part 222 = .ok (.aload_n 0, 1) := by decide +kernel
theorem dX5_part_223 : decode cX5_part 223 = .ok (.iload_n 1, 1) := by decide +kernel
theorem dX5_part_224 : decode cX5_part 224 = .ok (.iload 8, 2) := by decide +kernel
theorem dX5_part_226 : decode cX5_part 226 = .ok (.iload 7, 2) := by decide +kernel
theorem dX5_part_228 : decode cX5_part 228 = .ok (.invokevirtual 109, 3) := by decide +kernel
theorem dX5_part_231 : decode cX5_part 231 = .ok (.invokevirtual 105, 3) := by decide +kernel
theorem dX5_part_234 : decode cX5_part 234 = .ok (.aload_n 0, 1) := by decide +kernel
theorem dX5_part_235 : decode cX5_part 235 = .ok (.iload_n 1, 1) := by decide +kernel
theorem dX5_part_236 : decode cX5_part 236 = .ok (.iload 8, 2) := by decide +kernel
theorem dX5_part_238 : decode cX5_part 238 = .ok (.iload 7, 2) := by decide +kernel
theorem dX5_part_240 : decode cX5_part 240 = .ok (.iconst 0, 1) := by decide +kernel
theorem dX5_part_241 : decode cX5_part 241 = .ok (.invokevirtual 105, 3) := by decide +kernel
theorem dX5_part_244 : decode cX5_part 244 = .ok (.iinc 8 1, 3) := by decide +kernel
theorem dX5_part_247 : decode cX5_part 247 = .ok (.goto (-44), 3) := by decide +kernel
theorem dX5_part_250 : decode cX5_part 250 = .ok (.iinc 7 1, 3) := by decide +kernel
theorem dX5_part_253 : decode cX5_part 253 = .ok (.goto (-65), 3) := by decide +kernel
theorem dX5_part_256 : decode cX5_part 256 = .ok (.aload_n 0, 1) := by decide +kernel
theorem dX5_part_257 : decode cX5_part 257 = .ok (.getfield 9, 3) := by decide +kernel
theorem dX5_part_260 : decode cX5_part 260 = .ok (.iload_n 1, 1) := by decide +kernel
theorem dX5_part_261 : decode cX5_part 261 = .ok (.iload 5, 2) := by decide +kernel
theorem dX5_part_263 : decode cX5_part 263 = .ok (.iastore, 1) := by decide +kernel
theorem dX5_part_264 : decode cX5_part 264 = .ok (.aload_n 0, 1) := by decide +kernel
theorem dX5_part_265 : decode cX5_part 265 = .ok (.dup, 1) := by decide +kernel
theorem dX5_part_266 : decode cX5_part 266 = .ok (.getfield 68, 3) := by decide +kernel
theorem dX5_part_269 : decode cX5_part 269 = .ok (.iconst 1, 1) := by decide +kernel
theorem dX5_part_270 : decode cX5_part 270 = .ok (.iadd, 1) := by decide +kernel
theorem dX5_part_271 : decode cX5_part 271 = .ok (.putfield 68, 3) := by decide +kernel
theorem dX5_part_274 : decode cX5_part 274 = .ok (.aload_n 0, 1) := by decide +kernel
theorem dX5_part_275 : decode cX5_part 275 = .ok (.getfield 68, 3) := by decide +kernel
theorem dX5_part_278 : decode cX5_part 278 = .ok (.iconst 1, 1) := by decide +kernel
theorem dX5_part_279 : decode cX5_part 279 = .ok (.isub, 1) := by decide +kernel
theorem dX5_part_280 : decode cX5_part 280 = .ok (.ireturn, 1) := by decide +kernel
theorem dJ13_bitCount_95d88_0 : decode cJ13_bitCount_95d88 0 = .ok (.lload_n 0, 1) := by decide +kernel
theorem dJ13_bitCount_95d88_1 : decode cJ13_bitCount_95d88 1 = .ok (.lload_n 0, 1) := by decide +kernel
theorem dJ13_bitCount_95d88_2 : decode cJ13_bitCount_95d88 2 = .ok (.iconst 1, 1) := by decide +kernel
theorem dJ13_bitCount_95d88_3 : decode cJ13_bitCount_95d88 3 = .ok (.lushr, 1) := by decide +kernel
theorem dJ13_bitCount_95d88_4 : decode cJ13_bitCount_95d88 4 = .ok (.ldc2_w 314, 3) := by decide +kernel
theorem dJ13_bitCount_95d88_7 : decode cJ13_bitCount_95d88 7 = .ok (.land, 1) := by decide +kernel
theorem dJ13_bitCount_95d88_8 : decode cJ13_bitCount_95d88 8 = .ok (.lsub, 1) := by decide +kernel
theorem dJ13_bitCount_95d88_9 : decode cJ13_bitCount_95d88 9 = .ok (.lstore_n 0, 1) := by decide +kernel
theorem dJ13_bitCount_95d88_10 : decode cJ13_bitCount_95d88 10 = .ok (.lload_n 0, 1) := by decide +kernel
theorem dJ13_bitCount_95d88_11 : decode cJ13_bitCount_95d88 11 = .ok (.ldc2_w 316, 3) := by decide +kernel
theorem dJ13_bitCount_95d88_14 : decode cJ13_bitCount_95d88 14 = .ok (.land, 1) := by decide +kernel
theorem dJ13_bitCount_95d88_15 : decode cJ13_bitCount_95d88 15 = .ok (.lload_n 0, 1) := by decide +kernel
theorem dJ13_bitCount_95d88_16 : decode cJ13_bitCount_95d88 16 = .ok (.iconst 2, 1) := by decide +kernel
theorem dJ13_bitCount_95d88_17 : decode cJ13_bitCount_95d88 17 = .ok (.lushr, 1) := by decide +kernel
theorem dJ13_bitCount_95d88_18 : decode cJ13_bitCount_95d88 18 = .ok (.ldc2_w 316, 3) := by decide +kernel
theorem dJ13_bitCount_95d88_21 : decode cJ13_bitCount_95d88 21 = .ok (.land, 1) := by decide +kernel
theorem dJ13_bitCount_95d88_22 : decode cJ13_bitCount_95d88 22 = .ok (.ladd, 1) := by decide +kernel
theorem dJ13_bitCount_95d88_23 : decode cJ13_bitCount_95d88 23 = .ok (.lstore_n 0, 1) := by decide +kernel
theorem dJ13_bitCount_95d88_24 : decode cJ13_bitCount_95d88 24 = .ok (.lload_n 0, 1) := by decide +kernel
theorem dJ13_bitCount_95d88_25 : decode cJ13_bitCount_95d88 25 = .ok (.lload_n 0, 1) := by decide +kernel
theorem dJ13_bitCount_95d88_26 : decode cJ13_bitCount_95d88 26 = .ok (.iconst 4, 1) := by decide +kernel
theorem dJ13_bitCount_95d88_27 : decode cJ13_bitCount_95d88 27 = .ok (.lushr, 1) := by decide +kernel
theorem dJ13_bitCount_95d88_28 : decode cJ13_bitCount_95d88 28 = .ok (.ladd, 1) := by decide +kernel
theorem dJ13_bitCount_95d88_29 : decode cJ13_bitCount_95d88 29 = .ok (.ldc2_w 318, 3) := by decide +kernel
theorem dJ13_bitCount_95d88_32 : decode cJ13_bitCount_95d88 32 = .ok (.land, 1) := by decide +kernel
theorem dJ13_bitCount_95d88_33 : decode cJ13_bitCount_95d88 33 = .ok (.lstore_n 0, 1) := by decide +kernel
theorem dJ13_bitCount_95d88_34 : decode cJ13_bitCount_95d88 34 = .ok (.lload_n 0, 1) := by decide +kernel
theorem dJ13_bitCount_95d88_35 : decode cJ13_bitCount_95d88 35 = .ok (.lload_n 0, 1) := by decide +kernel
theorem dJ13_bitCount_95d88_36 : decode cJ13_bitCount_95d88 36 = .ok (.bipush 8, 2) := by decide +kernel
theorem dJ13_bitCount_95d88_38 : decode cJ13_bitCount_95d88 38 = .ok (.lushr, 1) := by decide +kernel
theorem dJ13_bitCount_95d88_39 : decode cJ13_bitCount_95d88 39 = .ok (.ladd, 1) := by decide +kernel
theorem dJ13_bitCount_95d88_40 : decode cJ13_bitCount_95d88 40 = .ok (.lstore_n 0, 1) := by decide +kernel
theorem dJ13_bitCount_95d88_41 : decode cJ13_bitCount_95d88 41 = .ok (.lload_n 0, 1) := by decide +kernel
theorem dJ13_bitCount_95d88_42 : decode cJ13_bitCount_95d88 42 = .ok (.lload_n 0, 1) := by decide +kernel
theorem dJ13_bitCount_95d88_43 : decode cJ13_bitCount_95d88 43 = .ok (.bipush 16, 2) := by decide +kernel
theorem dJ13_bitCount_95d88_45 : decode cJ13_bitCount_95d88 45 = .ok (.lushr, 1) := by decide +kernel
theorem dJ13_bitCount_95d88_46 : decode cJ13_bitCount_95d88 46 = .ok (.ladd, 1) := by decide +kernel
theorem dJ13_bitCount_95d88_47 : decode cJ13_bitCount_95d88 47 = .ok (.lstore_n 0, 1) := by decide +kernel
theorem dJ13_bitCount_95d88_48 : decode cJ13_bitCount_95d88 48 = .ok (.lload_n 0, 1) := by decide +kernel
theorem dJ13_bitCount_95d88_49 : decode cJ13_bitCount_95d88 49 = .ok (.lload_n 0, 1) := by decide +kernel
theorem dJ13_bitCount_95d88_50 : decode cJ13_bitCount_95d88 50 = .ok (.bipush 32, 2) := by decide +kernel
theorem dJ13_bitCount_95d88_52 : decode cJ13_bitCount_95d88 52 = .ok (.lushr, 1) := by decide +kernel
theorem dJ13_bitCount_95d88_53 : decode cJ13_bitCount_95d88 53 = .ok (.ladd, 1) := by decide +kernel
theorem dJ13_bitCount_95d88_54 : decode cJ13_bitCount_95d88 54 = .ok (.lstore_n 0, 1) := by decide +kernel
theorem dJ13_bitCount_95d88_55 : decode cJ13_bitCount_95d88 55 = .ok (.lload_n 0, 1) := by decide +kernel
theorem dJ13_bitCount_95d88_56 : decode cJ13_bitCount_95d88 56 = .ok (.l2i, 1) := by decide +kernel
theorem dJ13_bitCount_95d88_57 : decode cJ13_bitCount_95d88 57 = .ok (.bipush 127, 2) := by decide +kernel
theorem dJ13_bitCount_95d88_59 : decode cJ13_bitCount_95d88 59 = .ok (.iand, 1) := by decide +kernel
theorem dJ13_bitCount_95d88_60 : decode cJ13_bitCount_95d88 60 = .ok (.ireturn, 1) := by decide +kernel
theorem dJ9_floorDiv_7cf53_0 : decode cJ9_floorDiv_7cf53 0 = .ok (.iload_n 0, 1) := by decide +kernel
theorem dJ9_floorDiv_7cf53_1 : decode cJ9_floorDiv_7cf53 1 = .ok (.iload_n 1, 1) := by decide +kernel
theorem dJ9_floorDiv_7cf53_2 : decode cJ9_floorDiv_7cf53 2 = .ok (.idiv, 1) := by decide +kernel
theorem dJ9_floorDiv_7cf53_3 : decode cJ9_floorDiv_7cf53 3 = .ok (.istore_n 2, 1) := by decide +kernel
theorem dJ9_floorDiv_7cf53_4 : decode cJ9_floorDiv_7cf53 4 = .ok (.iload_n 0, 1) := by decide +kernel
theorem dJ9_floorDiv_7cf53_5 : decode cJ9_floorDiv_7cf53 5 = .ok (.iload_n 1, 1) := by decide +kernel
theorem dJ9_floorDiv_7cf53_6 : decode cJ9_floorDiv_7cf53 6 = .ok (.ixor, 1) := by decide +kernel
theorem dJ9_floorDiv_7cf53_7 : decode cJ9_floorDiv_7cf53 7 = .ok (.ifCond .ge 14, 3) := by decide +kernel
theorem dJ9_floorDiv_7cf53_10 : decode cJ9_floorDiv_7cf53 10 = .ok (.iload_n 2, 1) := by decide +kernel
theorem dJ9_floorDiv_7cf53_11 : decode cJ9_floorDiv_7cf53 11 = .ok (.iload_n 1, 1) := by decide +kernel
theorem dJ9_floorDiv_7cf53_12 : decode cJ9_floorDiv_7cf53 12 = .ok (.imul, 1) := by decide +kernel
theorem dJ9_floorDiv_7cf53_13 : decode cJ9_floorDiv_7cf53 13 = .ok (.iload_n 0, 1) := by decide +kernel
theorem dJ9_floorDiv_7cf53_14 : decode cJ9_floorDiv_7cf53 14 = .ok (.if_icmp .eq 7, 3) := by decide +kernel
theorem dJ9_floorDiv_7cf53_17 : decode cJ9_floorDiv_7cf53 17 = .ok (.iload_n 2, 1) := by decide +kernel
theorem dJ9_floorDiv_7cf53_18 : decode cJ9_floorDiv_7cf53 18 = .ok (.iconst 1, 1) := by decide +kernel
theorem dJ9_floorDiv_7cf53_19 : decode cJ9_floorDiv_7cf53 19 = .ok (.isub, 1) := by decide +kernel
theorem dJ9_floorDiv_7cf53_20 : decode cJ9_floorDiv_7cf53 20 = .ok (.ireturn, 1) := by decide +kernel
theorem dJ9_floorDiv_7cf53_21 : decode cJ9_floorDiv_7cf53 21 = .ok (.iload_n 2, 1) := by decide +kernel
theorem dJ9_floorDiv_7cf53_22 : decode cJ9_floorDiv_7cf53 22 = .ok (.ireturn, 1) := by decide +kernel
theorem dJ9_abs_0f7a4_0 : decode cJ9_abs_0f7a4 0 = .ok (.iload_n 0, 1) := by decide +kernel
theorem dJ9_abs_0f7a4_1 : decode cJ9_abs_0f7a4 1 = .ok (.ifCond .ge 8, 3) := by decide +kernel
theorem dJ9_abs_0f7a4_4 : decode cJ9_abs_0f7a4 4 = .ok (.iload_n 0, 1) := by decide +kernel
theorem dJ9_abs_0f7a4_5 : decode cJ9_abs_0f7a4 5 = .ok (.ineg, 1) := by decide +kernel
theorem dJ9_abs_0f7a4_6 : decode cJ9_abs_0f7a4 6 = .ok (.goto 4, 3) := by decide +kernel
theorem dJ9_abs_0f7a4_9 : decode cJ9_abs_0f7a4 9 = .ok (.iload_n 0, 1) := by decide +kernel
theorem dJ9_abs_0f7a4_10 : decode cJ9_abs_0f7a4 10 = .ok (.ireturn, 1) := by decide +kernel
theorem dJ9_max_7cf53_0 : decode cJ9_max_7cf53 0 = .ok (.iload_n 0, 1) := by decide +kernel
theorem dJ9_max_7cf53_1 : decode cJ9_max_7cf53 1 = .ok (.iload_n 1, 1) := by decide +kernel
theorem dJ9_max_7cf53_2 : decode cJ9_max_7cf53 2 = .ok (.if_icmp .lt 7, 3) := by decide +kernel
theorem dJ9_max_7cf53_5 : decode cJ9_max_7cf53 5 = .ok (.iload_n 0, 1) := by decide +kernel
theorem dJ9_max_7cf53_6 : decode cJ9_max_7cf53 6 = .ok (.goto 4, 3) := by decide +kernel
theorem dJ9_max_7cf53_9 : decode cJ9_max_7cf53 9 = .ok (.iload_n 1, 1) := by decide +kernel
theorem dJ9_max_7cf53_10 : decode cJ9_max_7cf53 10 = .ok (.ireturn, 1) := by decide +kernel
theorem dJ9_min_7cf53_0 : decode cJ9_min_7cf53 0 = .ok (.iload_n 0, 1) := by decide +kernel
theorem dJ9_min_7cf53_1 : decode cJ9_min_7cf53 1 = .ok (.iload_n 1, 1) := by decide +kernel
theorem dJ9_min_7cf53_2 : decode cJ9_min_7cf53 2 = .ok (.if_icmp .gt 7, 3) := by decide +kernel
theorem dJ9_min_7cf53_5 : decode cJ9_min_7cf53 5 = .ok (.iload_n 0, 1) := by decide +kernel
theorem dJ9_min_7cf53_6 : decode cJ9_min_7cf53 6 = .ok (.goto 4, 3) := by decide +kernel
theorem dJ9_min_7cf53_9 : decode cJ9_min_7cf53 9 = .ok (.iload_n 1, 1) := by decide +kernel
theorem dJ9_min_7cf53_10 : decode cJ9_min_7cf53 10 = .ok (.ireturn, 1) := by decide +kernel
theorem dJ7_fill_d0a16_0 : decode cJ7_fill_d0a16 0 = .ok (.iconst 0, 1) := by decide +kernel
theorem dJ7_fill_d0a16_1 : decode cJ7_fill_d0a16 1 = .ok (.istore_n 3, 1) := by decide +kernel
theorem dJ7_fill_d0a16_2 : decode cJ7_fill_d0a16 2 = .ok (.aload_n 0, 1) := by decide +kernel
theorem dJ7_fill_d0a16_3 : decode cJ7_fill_d0a16 3 = .ok (.arraylength, 1) := by decide +kernel
theorem dJ7_fill_d0a16_4 : decode cJ7_fill_d0a16 4 = .ok (.istore 4, 2) := by decide +kernel
theorem dJ7_fill_d0a16_6 : decode cJ7_fill_d0a16 6 = .ok (.iload_n 3, 1) := by decide +kernel
theorem dJ7_fill_d0a16_7 : decode cJ7_fill_d0a16 7 = .ok (.iload 4, 2) := by decide +kernel
theorem dJ7_fill_d0a16_9 : decode cJ7_fill_d0a16 9 = .ok (.if_icmp .ge 13, 3) := by decide +kernel
theorem dJ7_fill_d0a16_12 : decode cJ7_fill_d0a16 12 = .ok (.aload_n 0, 1) := by decide +kernel
theorem dJ7_fill_d0a16_13 : decode cJ7_fill_d0a16 13 = .ok (.iload_n 3, 1) := by decide +kernel
theorem dJ7_fill_d0a16_14 : decode cJ7_fill_d0a16 14 = .ok (.lload_n 1, 1) := by decide +kernel
theorem dJ7_fill_d0a16_15 : decode cJ7_fill_d0a16 15 = .ok (.lastore, 1) := by decide +kernel
theorem dJ7_fill_d0a16_16 : decode cJ7_fill_d0a16 16 = .ok (.iinc 3 1, 3) := by decide +kernel
theorem dJ7_fill_d0a16_19 : decode cJ7_fill_d0a16 19 = .ok (.goto (-13), 3) := by decide +kernel
theorem dJ7_fill_d0a16_22 : decode cJ7_fill_d0a16 22 = .ok (.return_, 1) := by decide +kernel
abbrev vwCl : List vw_C := [(RX0, TX0, 3), (RX1, TX1, 3), (RX2, TX2, 3), (RX3, TX3, 10), (RX4, TX4, 8), (RX5, TX5, 24)]
