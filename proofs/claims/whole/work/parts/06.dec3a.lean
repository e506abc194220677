theorem dX7_init_0 : decode cX7_init 0 = .ok (.aload_n 0, 1) := by decide +kernel
theorem dX7_init_1 : decode cX7_init 1 = .ok (.invokespecial 1, 3) := by decide +kernel
theorem dX7_init_4 : decode cX7_init 4 = .ok (.aload_n 0, 1) := by decide +kernel
theorem dX7_init_5 : decode cX7_init 5 = .ok (.bipush 100, 2) := by decide +kernel
theorem dX7_init_7 : decode cX7_init 7 = .ok (.newarray .int, 2) := by decide +kernel
theorem dX7_init_9 : decode cX7_init 9 = .ok (.putfield 7, 3) := by decide +kernel
theorem dX7_init_12 : decode cX7_init 12 = .ok (.aload_n 0, 1) := by decide +kernel
theorem dX7_init_13 : decode cX7_init 13 = .ok (.bipush 100, 2) := by decide +kernel
theorem dX7_init_15 : decode cX7_init 15 = .ok (.newarray .int, 2) := by decide +kernel
theorem dX7_init_17 : decode cX7_init 17 = .ok (.putfield 13, 3) := by decide +kernel
theorem dX7_init_20 : decode cX7_init 20 = .ok (.aload_n 0, 1) := by decide +kernel
theorem dX7_init_21 : decode cX7_init 21 = .ok (.bipush 100, 2) := by decide +kernel
theorem dX7_init_23 : decode cX7_init 23 = .ok (.newarray .int, 2) := by decide +kernel
theorem dX7_init_25 : decode cX7_init 25 = .ok (.putfield 16, 3) := by decide +kernel
theorem dX7_init_28 : decode cX7_init 28 = .ok (.aload_n 0, 1) := by decide +kernel
theorem dX7_init_29 : decode cX7_init 29 = .ok (.bipush 10, 2) := by decide +kernel
theorem dX7_init_31 : decode cX7_init 31 = .ok (.putfield 19, 3) := by decide +kernel
theorem dX7_init_34 : decode cX7_init 34 = .ok (.aload_n 0, 1) := by decide +kernel
theorem dX7_init_35 : decode cX7_init 35 = .ok (.bipush 24, 2) := by decide +kernel
theorem dX7_init_37 : decode cX7_init 37 = .ok (.newarray .int, 2) := by decide +kernel
theorem dX7_init_39 : decode cX7_init 39 = .ok (.putfield 23, 3) := by decide +kernel
theorem dX7_init_42 : decode cX7_init 42 = .ok (.aload_n 0, 1) := by decide +kernel
theorem dX7_init_43 : decode cX7_init 43 = .ok (.iconst 1, 1) := by decide +kernel
theorem dX7_init_44 : decode cX7_init 44 = .ok (.putfield 26, 3) := by decide +kernel
theorem dX7_init_47 : decode cX7_init 47 = .ok (.aload_n 0, 1) := by decide +kernel
theorem dX7_init_48 : decode cX7_init 48 = .ok (.sipush 200, 3) := by decide +kernel
theorem dX7_init_51 : decode cX7_init 51 = .ok (.newarray .int, 2) := by decide +kernel
theorem dX7_init_53 : decode cX7_init 53 = .ok (.putfield 29, 3) := by decide +kernel
theorem dX7_init_56 : decode cX7_init 56 = .ok (.aload_n 0, 1) := by decide +kernel
theorem dX7_init_57 : decode cX7_init 57 = .ok (.bipush 24, 2) := by decide +kernel
theorem dX7_init_59 : decode cX7_init 59 = .ok (.newarray .int, 2) := by decide +kernel
theorem dX7_init_61 : decode cX7_init 61 = .ok (.putfield 32, 3) := by decide +kernel
theorem dX7_init_64 : decode cX7_init 64 = .ok (.aload_n 0, 1) := by decide +kernel
theorem dX7_init_65 : decode cX7_init 65 = .ok (.bipush 24, 2) := by decide +kernel
theorem dX7_init_67 : decode cX7_init 67 = .ok (.newarray .int, 2) := by decide +kernel
theorem dX7_init_69 : decode cX7_init 69 = .ok (.putfield 35, 3) := by decide +kernel
theorem dX7_init_72 : decode cX7_init 72 = .ok (.aload_n 0, 1) := by decide +kernel
theorem dX7_init_73 : decode cX7_init 73 = .ok (.bipush 24, 2) := by decide +kernel
theorem dX7_init_75 : decode cX7_init 75 = .ok (.newarray .int, 2) := by decide +kernel
theorem dX7_init_77 : decode cX7_init 77 = .ok (.putfield 38, 3) := by decide +kernel
theorem dX7_init_80 : decode cX7_init 80 = .ok (.aload_n 0, 1) := by decide +kernel
theorem dX7_init_81 : decode cX7_init 81 = .ok (.bipush 10, 2) := by decide +kernel
theorem dX7_init_83 : decode cX7_init 83 = .ok (.newarray .int, 2) := by decide +kernel
theorem dX7_init_85 : decode cX7_init 85 = .ok (.putfield 41, 3) := by decide +kernel
theorem dX7_init_88 : decode cX7_init 88 = .ok (.aload_n 0, 1) := by decide +kernel
theorem dX7_init_89 : decode cX7_init 89 = .ok (.sipush 600, 3) := by decide +kernel
theorem dX7_init_92 : decode cX7_init 92 = .ok (.newarray .int, 2) := by decide +kernel
theorem dX7_init_94 : decode cX7_init 94 = .ok (.putfield 44, 3) := by decide +kernel
theorem dX7_init_97 : decode cX7_init 97 = .ok (.aload_n 0, 1) := by decide +kernel
theorem dX7_init_98 : decode cX7_init 98 = .ok (.bipush 72, 2) := by decide +kernel
theorem dX7_init_100 : decode cX7_init 100 = .ok (.newarray .int, 2) := by decide +kernel
theorem dX7_init_102 : decode cX7_init 102 = .ok (.putfield 47, 3) := by decide +kernel
theorem dX7_init_105 : decode cX7_init 105 = .ok (.aload_n 0, 1) := by decide +kernel
theorem dX7_init_106 : decode cX7_init 106 = .ok (.bipush 72, 2) := by decide +kernel
theorem dX7_init_108 : decode cX7_init 108 = .ok (.newarray .int, 2) := by decide +kernel
theorem dX7_init_110 : decode cX7_init 110 = .ok (.putfield 50, 3) := by decide +kernel
theorem dX7_init_113 : decode cX7_init 113 = .ok (.aload_n 0, 1) := by decide +kernel
theorem dX7_init_114 : decode cX7_init 114 = .ok (.iconst 4, 1) := by decide +kernel
theorem dX7_init_115 : decode cX7_init 115 = .ok (.newarray .int, 2) := by decide +kernel
theorem dX7_init_117 : decode cX7_init 117 = .ok (.dup, 1) := by decide +kernel
theorem dX7_init_118 : decode cX7_init 118 = .ok (.iconst 0, 1) := by decide +kernel
theorem dX7_init_119 : decode cX7_init 119 = .ok (.iconst (-1), 1) := by decide +kernel
theorem dX7_init_120 : decode cX7_init 120 = .ok (.iastore, 1) := by decide +kernel
theorem dX7_init_121 : decode cX7_init 121 = .ok (.dup, 1) := by decide +kernel
theorem dX7_init_122 : decode cX7_init 122 = .ok (.iconst 1, 1) := by decide +kernel
theorem dX7_init_123 : decode cX7_init 123 = .ok (.iconst (-1), 1) := by decide +kernel
theorem dX7_init_124 : decode cX7_init 124 = .ok (.iastore, 1) := by decide +kernel
theorem dX7_init_125 : decode cX7_init 125 = .ok (.dup, 1) := by decide +kernel
theorem dX7_init_126 : decode cX7_init 126 = .ok (.iconst 2, 1) := by decide +kernel
theorem dX7_init_127 : decode cX7_init 127 = .ok (.iconst (-1), 1) := by decide +kernel
theorem dX7_init_128 : decode cX7_init 128 = .ok (.iastore, 1) := by decide +kernel
theorem dX7_init_129 : decode cX7_init 129 = .ok (.dup, 1) := by decide +kernel
theorem dX7_init_130 : decode cX7_init 130 = .ok (.iconst 3, 1) := by decide +kernel
theorem dX7_init_131 : decode cX7_init 131 = .ok (.iconst (-1), 1) := by decide +kernel
theorem dX7_init_132 : decode cX7_init 132 = .ok (.iastore, 1) := by decide +kernel
theorem dX7_init_133 : decode cX7_init 133 = .ok (.putfield 53, 3) := by decide +kernel
theorem dX7_init_136 : decode cX7_init 136 = .ok (.aload_n 0, 1) := by decide +kernel
theorem dX7_init_137 : decode cX7_init 137 = .ok (.iconst 4, 1) := by decide +kernel
theorem dX7_init_138 : decode cX7_init 138 = .ok (.newarray .int, 2) := by decide +kernel
theorem dX7_init_140 : decode cX7_init 140 = .ok (.putfield 56, 3) := by decide +kernel
theorem dX7_init_143 : decode cX7_init 143 = .ok (.aload_n 0, 1) := by decide +kernel
theorem dX7_init_144 : decode cX7_init 144 = .ok (.sipush 160, 3) := by decide +kernel
theorem dX7_init_147 : decode cX7_init 147 = .ok (.newarray .long, 2) := by decide +kernel
theorem dX7_init_149 : decode cX7_init 149 = .ok (.putfield 59, 3) := by decide +kernel
theorem dX7_init_152 : decode cX7_init 152 = .ok (.aload_n 0, 1) := by decide +kernel
theorem dX7_init_153 : decode cX7_init 153 = .ok (.iconst 4, 1) := by decide +kernel
theorem dX7_init_154 : decode cX7_init 154 = .ok (.newarray .int, 2) := by decide +kernel
theorem dX7_init_156 : decode cX7_init 156 = .ok (.dup, 1) := by decide +kernel
theorem dX7_init_157 : decode cX7_init 157 = .ok (.iconst 0, 1) := by decide +kernel
theorem dX7_init_158 : decode cX7_init 158 = .ok (.iconst (-1), 1) := by decide +kernel
theorem dX7_init_159 : decode cX7_init 159 = .ok (.iastore, 1) := by decide +kernel
theorem dX7_init_160 : decode cX7_init 160 = .ok (.dup, 1) := by decide +kernel
theorem dX7_init_161 : decode cX7_init 161 = .ok (.iconst 1, 1) := by decide +kernel
theorem dX7_init_162 : decode cX7_init 162 = .ok (.iconst (-1), 1) := by decide +kernel
theorem dX7_init_163 : decode cX7_init 163 = .ok (.iastore, 1) := by decide +kernel
theorem dX7_init_164 : decode cX7_init 164 = .ok (.dup, 1) := by decide +kernel
theorem dX7_init_165 : decode cX7_init 165 = .ok (.iconst 2, 1) := by decide +kernel
theorem dX7_init_166 : decode cX7_init 166 = .ok (.iconst (-1), 1) := by decide +kernel
theorem dX7_init_167 : decode cX7_init 167 = .ok (.iastore, 1) := by decide +kernel
theorem dX7_init_168 : decode cX7_init 168 = .ok (.dup, 1) := by decide +kernel
theorem dX7_init_169 : decode cX7_init 169 = .ok (.iconst 3, 1) := by decide +kernel
theorem dX7_init_170 : decode cX7_init 170 = .ok (.iconst (-1), 1) := by decide +kernel
theorem dX7_init_171 : decode cX7_init 171 = .ok (.iastore, 1) := by decide +kernel
theorem dX7_init_172 : decode cX7_init 172 = .ok (.putfield 63, 3) := by decide +kernel
theorem dX7_init_175 : decode cX7_init 175 = .ok (.aload_n 0, 1) := by decide +kernel
theorem dX7_init_176 : decode cX7_init 176 = .ok (.iconst 4, 1) := by decide +kernel
theorem dX7_init_177 : decode cX7_init 177 = .ok (.newarray .int, 2) := by decide +kernel
theorem dX7_init_179 : decode cX7_init 179 = .ok (.putfield 66, 3) := by decide +kernel
theorem dX7_init_182 : decode cX7_init 182 = .ok (.aload_n 0, 1) := by decide +kernel
theorem dX7_init_183 : decode cX7_init 183 = .ok (.iconst 4, 1) := by decide +kernel
theorem dX7_init_184 : decode cX7_init 184 = .ok (.newarray .int, 2) := by decide +kernel
theorem dX7_init_186 : decode cX7_init 186 = .ok (.putfield 69, 3) := by decide +kernel
theorem dX7_init_189 : decode cX7_init 189 = .ok (.aload_n 0, 1) := by decide +kernel
theorem dX7_init_190 : decode cX7_init 190 = .ok (.bipush 30, 2) := by decide +kernel
theorem dX7_init_192 : decode cX7_init 192 = .ok (.newarray .int, 2) := by decide +kernel
theorem dX7_init_194 : decode cX7_init 194 = .ok (.putfield 72, 3) := by decide +kernel
theorem dX7_init_197 : decode cX7_init 197 = .ok (.aload_n 0, 1) := by decide +kernel
theorem dX7_init_198 : decode cX7_init 198 = .ok (.bipush 80, 2) := by decide +kernel
theorem dX7_init_200 : decode cX7_init 200 = .ok (.newarray .int, 2) := by decide +kernel
theorem dX7_init_202 : decode cX7_init 202 = .ok (.putfield 75, 3) := by decide +kernel
theorem dX7_init_205 : decode cX7_init 205 = .ok (.aload_n 0, 1) := by decide +kernel
theorem dX7_init_206 : decode cX7_init 206 = .ok (.iconst 3, 1) := by decide +kernel
theorem dX7_init_207 : decode cX7_init 207 = .ok (.newarray .int, 2) := by decide +kernel
theorem dX7_init_209 : decode cX7_init 209 = .ok (.putfield 78, 3) := by decide +kernel
theorem dX7_init_212 : decode cX7_init 212 = .ok (.iconst 0, 1) := by decide +kernel
theorem dX7_init_213 : decode cX7_init 213 = .ok (.istore_n 1, 1) := by decide +kernel
theorem dX7_init_214 : decode cX7_init 214 = .ok (.iload_n 1, 1) := by decide +kernel
theorem dX7_init_215 : decode cX7_init 215 = .ok (.bipush 100, 2) := by decide +kernel
theorem dX7_init_217 : decode cX7_init 217 = .ok (.if_icmp .ge 16, 3) := by decide +kernel
theorem dX7_init_220 : decode cX7_init 220 = .ok (.aload_n 0, 1) := by decide +kernel
theorem dX7_init_221 : decode cX7_init 221 = .ok (.getfield 7, 3) := by decide +kernel
theorem dX7_init_224 : decode cX7_init 224 = .ok (.iload_n 1, 1) := by decide +kernel
theorem dX7_init_225 : decode cX7_init 225 = .ok (.iconst (-1), 1) := by decide +kernel
theorem dX7_init_226 : decode cX7_init 226 = .ok (.iastore, 1) := by decide +kernel
theorem dX7_init_227 : decode cX7_init 227 = .ok (.iinc 1 1, 3) := by decide +kernel
theorem dX7_init_230 : decode cX7_init 230 = .ok (.goto (-16), 3) := by decide +kernel
theorem dX7_init_233 : decode cX7_init 233 = .ok (.return_, 1) := by decide +kernel
theorem dX7_in_0 : decode cX7_in 0 = .ok (.iload_n 0, 1) := by decide +kernel
theorem dX7_in_1 : decode cX7_in 1 = .ok (.iload_n 1, 1) := by decide +kernel
theorem dX7_in_2 : decode cX7_in 2 = .ok (.if_icmp .lt 12, 3) := by decide +kernel
theorem dX7_in_5 : decode cX7_in 5 = .ok (.iload_n 0, 1) := by decide +kernel
theorem dX7_in_6 : decode cX7_in 6 = .ok (.iload_n 2, 1) := by decide +kernel
theorem dX7_in_7 : decode cX7_in 7 = .ok (.if_icmp .gt 7, 3) := by decide +kernel
theorem dX7_in_10 : decode cX7_in 10 = .ok (.iconst 1, 1) := by decide +kernel
theorem dX7_in_11 : decode cX7_in 11 = .ok (.goto 4, 3) := by decide +kernel
theorem dX7_in_14 : decode cX7_in 14 = .ok (.iconst 0, 1) := by decide +kernel
theorem dX7_in_15 : decode cX7_in 15 = .ok (.ireturn, 1) := by decide +kernel
theorem dX7_isYear_0 : decode cX7_isYear 0 = .ok (.iload_n 0, 1) := by decide +kernel
theorem dX7_isYear_1 : decode cX7_isYear 1 = .ok (.iconst 0, 1) := by decide +kernel
theorem dX7_isYear_2 : decode cX7_isYear 2 = .ok (.bipush 23, 2) := by decide +kernel
theorem dX7_isYear_4 : decode cX7_isYear 4 = .ok (.invokestatic 81, 3) := by decide +kernel
theorem dX7_isYear_7 : decode cX7_isYear 7 = .ok (.ireturn, 1) := by decide +kernel
theorem dX7_isSide_0 : decode cX7_isSide 0 = .ok (.iload_n 0, 1) := by decide +kernel
theorem dX7_isSide_1 : decode cX7_isSide 1 = .ok (.iconst 0, 1) := by decide +kernel
theorem dX7_isSide_2 : decode cX7_isSide 2 = .ok (.iconst 1, 1) := by decide +kernel
theorem dX7_isSide_3 : decode cX7_isSide 3 = .ok (.invokestatic 81, 3) := by decide +kernel
theorem dX7_isSide_6 : decode cX7_isSide 6 = .ok (.ireturn, 1) := by decide +kernel
theorem dX7_isHeldRule_0 : decode cX7_isHeldRule 0 = .ok (.iload_n 1, 1) := by decide +kernel
theorem dX7_isHeldRule_1 : decode cX7_isHeldRule 1 = .ok (.iconst 0, 1) := by decide +kernel
theorem dX7_isHeldRule_2 : decode cX7_isHeldRule 2 = .ok (.aload_n 0, 1) := by decide +kernel
theorem dX7_isHeldRule_3 : decode cX7_isHeldRule 3 = .ok (.getfield 85, 3) := by decide +kernel
theorem dX7_isHeldRule_6 : decode cX7_isHeldRule 6 = .ok (.iconst 1, 1) := by decide +kernel
theorem dX7_isHeldRule_7 : decode cX7_isHeldRule 7 = .ok (.isub, 1) := by decide +kernel
theorem dX7_isHeldRule_8 : decode cX7_isHeldRule 8 = .ok (.invokestatic 81, 3) := by decide +kernel
theorem dX7_isHeldRule_11 : decode cX7_isHeldRule 11 = .ok (.ireturn, 1) := by decide +kernel
theorem dX7_toldMany_0 : decode cX7_toldMany 0 = .ok (.iconst 0, 1) := by decide +kernel
theorem dX7_toldMany_1 : decode cX7_toldMany 1 = .ok (.istore_n 1, 1) := by decide +kernel
theorem dX7_toldMany_2 : decode cX7_toldMany 2 = .ok (.iconst 0, 1) := by decide +kernel
theorem dX7_toldMany_3 : decode cX7_toldMany 3 = .ok (.istore_n 2, 1) := by decide +kernel
theorem dX7_toldMany_4 : decode cX7_toldMany 4 = .ok (.iload_n 2, 1) := by decide +kernel
theorem dX7_toldMany_5 : decode cX7_toldMany 5 = .ok (.bipush 24, 2) := by decide +kernel
theorem dX7_toldMany_7 : decode cX7_toldMany 7 = .ok (.if_icmp .ge 26, 3) := by decide +kernel
theorem dX7_toldMany_10 : decode cX7_toldMany 10 = .ok (.iload_n 1, 1) := by decide +kernel
theorem dX7_toldMany_11 : decode cX7_toldMany 11 = .ok (.aload_n 0, 1) := by decide +kernel
theorem dX7_toldMany_12 : decode cX7_toldMany 12 = .ok (.getfield 7, 3) := by decide +kernel
theorem dX7_toldMany_15 : decode cX7_toldMany 15 = .ok (.iload_n 2, 1) := by decide +kernel
theorem dX7_toldMany_16 : decode cX7_toldMany 16 = .ok (.iaload, 1) := by decide +kernel
theorem dX7_toldMany_17 : decode cX7_toldMany 17 = .ok (.ifCond .lt 7, 3) := by decide +kernel
theorem dX7_toldMany_20 : decode cX7_toldMany 20 = .ok (.iconst 1, 1) := by decide +kernel
theorem dX7_toldMany_21 : decode cX7_toldMany 21 = .ok (.goto 4, 3) := by decide +kernel
theorem dX7_toldMany_24 : decode cX7_toldMany 24 = .ok (.iconst 0, 1) := by decide +kernel
theorem dX7_toldMany_25 : decode cX7_toldMany 25 = .ok (.iadd, 1) := by decide +kernel
theorem dX7_toldMany_26 : decode cX7_toldMany 26 = .ok (.istore_n 1, 1) := by decide +kernel
theorem dX7_toldMany_27 : decode cX7_toldMany 27 = .ok (.iinc 2 1, 3) := by decide +kernel
theorem dX7_toldMany_30 : decode cX7_toldMany 30 = .ok (.goto (-26), 3) := by decide +kernel
theorem dX7_toldMany_33 : decode cX7_toldMany 33 = .ok (.iload_n 1, 1) := by decide +kernel
theorem dX7_toldMany_34 : decode cX7_toldMany 34 = .ok (.ireturn, 1) := by decide +kernel
theorem dX7_last_0 : decode cX7_last 0 = .ok (.iconst 0, 1) := by decide +kernel
theorem dX7_last_1 : decode cX7_last 1 = .ok (.istore_n 1, 1) := by decide +kernel
theorem dX7_last_2 : decode cX7_last 2 = .ok (.iconst 0, 1) := by decide +kernel
theorem dX7_last_3 : decode cX7_last 3 = .ok (.istore_n 2, 1) := by decide +kernel
theorem dX7_last_4 : decode cX7_last 4 = .ok (.iload_n 2, 1) := by decide +kernel
theorem dX7_last_5 : decode cX7_last 5 = .ok (.bipush 24, 2) := by decide +kernel
theorem dX7_last_7 : decode cX7_last 7 = .ok (.if_icmp .ge 26, 3) := by decide +kernel
theorem dX7_last_10 : decode cX7_last 10 = .ok (.aload_n 0, 1) := by decide +kernel
theorem dX7_last_11 : decode cX7_last 11 = .ok (.getfield 7, 3) := by decide +kernel
theorem dX7_last_14 : decode cX7_last 14 = .ok (.iload_n 2, 1) := by decide +kernel
theorem dX7_last_15 : decode cX7_last 15 = .ok (.iaload, 1) := by decide +kernel
theorem dX7_last_16 : decode cX7_last 16 = .ok (.ifCond .lt 9, 3) := by decide +kernel
theorem dX7_last_19 : decode cX7_last 19 = .ok (.iload_n 2, 1) := by decide +kernel
theorem dX7_last_20 : decode cX7_last 20 = .ok (.iconst 1, 1) := by decide +kernel
theorem dX7_last_21 : decode cX7_last 21 = .ok (.iadd, 1) := by decide +kernel
theorem dX7_last_22 : decode cX7_last 22 = .ok (.goto 4, 3) := by decide +kernel
theorem dX7_last_25 : decode cX7_last 25 = .ok (.iload_n 1, 1) := by decide +kernel
theorem dX7_last_26 : decode cX7_last 26 = .ok (.istore_n 1, 1) := by decide +kernel
theorem dX7_last_27 : decode cX7_last 27 = .ok (.iinc 2 1, 3) := by decide +kernel
theorem dX7_last_30 : decode cX7_last 30 = .ok (.goto (-26), 3) := by decide +kernel
theorem dX7_last_33 : decode cX7_last 33 = .ok (.iload_n 1, 1) := by decide +kernel
theorem dX7_last_34 : decode cX7_last 34 = .ok (.ireturn, 1) := by decide +kernel
theorem dX7_feed_0 : decode cX7_feed 0 = .ok (.iload_n 3, 1) := by decide +kernel
theorem dX7_feed_1 : decode cX7_feed 1 = .ok (.iconst 1, 1) := by decide +kernel
theorem dX7_feed_2 : decode cX7_feed 2 = .ok (.bipush 8, 2) := by decide +kernel
theorem dX7_feed_4 : decode cX7_feed 4 = .ok (.invokestatic 81, 3) := by decide +kernel
theorem dX7_feed_7 : decode cX7_feed 7 = .ok (.ifCond .ne 5, 3) := by decide +kernel
theorem dX7_feed_10 : decode cX7_feed 10 = .ok (.iconst (-1), 1) := by decide +kernel
theorem dX7_feed_11 : decode cX7_feed 11 = .ok (.ireturn, 1) := by decide +kernel
theorem dX7_feed_12 : decode cX7_feed 12 = .ok (.aload_n 0, 1) := by decide +kernel
theorem dX7_feed_13 : decode cX7_feed 13 = .ok (.getfield 88, 3) := by decide +kernel
theorem dX7_feed_16 : decode cX7_feed 16 = .ok (.iload_n 3, 1) := by decide +kernel
theorem dX7_feed_17 : decode cX7_feed 17 = .ok (.iadd, 1) := by decide +kernel
theorem dX7_feed_18 : decode cX7_feed 18 = .ok (.sipush 200, 3) := by decide +kernel
theorem dX7_feed_21 : decode cX7_feed 21 = .ok (.if_icmp .le 6, 3) := by decide +kernel
theorem dX7_feed_24 : decode cX7_feed 24 = .ok (.bipush (-2), 2) := by decide +kernel
theorem dX7_feed_26 : decode cX7_feed 26 = .ok (.ireturn, 1) := by decide +kernel
theorem dX7_feed_27 : decode cX7_feed 27 = .ok (.iconst 0, 1) := by decide +kernel
theorem dX7_feed_28 : decode cX7_feed 28 = .ok (.istore 4, 2) := by decide +kernel
theorem dX7_feed_30 : decode cX7_feed 30 = .ok (.iload 4, 2) := by decide +kernel
theorem dX7_feed_32 : decode cX7_feed 32 = .ok (.iload_n 3, 1) := by decide +kernel
theorem dX7_feed_33 : decode cX7_feed 33 = .ok (.if_icmp .ge 40, 3) := by decide +kernel
theorem dX7_feed_36 : decode cX7_feed 36 = .ok (.aload_n 0, 1) := by decide +kernel
theorem dX7_feed_37 : decode cX7_feed 37 = .ok (.getfield 29, 3) := by decide +kernel
theorem dX7_feed_40 : decode cX7_feed 40 = .ok (.aload_n 0, 1) := by decide +kernel
theorem dX7_feed_41 : decode cX7_feed 41 = .ok (.getfield 88, 3) := by decide +kernel
theorem dX7_feed_44 : decode cX7_feed 44 = .ok (.lload_n 1, 1) := by decide +kernel
theorem dX7_feed_45 : decode cX7_feed 45 = .ok (.bipush 8, 2) := by decide +kernel
theorem dX7_feed_47 : decode cX7_feed 47 = .ok (.iload 4, 2) := by decide +kernel
theorem dX7_feed_49 : decode cX7_feed 49 = .ok (.imul, 1) := by decide +kernel
theorem dX7_feed_50 : decode cX7_feed 50 = .ok (.lshr, 1) := by decide +kernel
theorem dX7_feed_51 : decode cX7_feed 51 = .ok (.ldc2_w 91, 3) := by decide +kernel
theorem dX7_feed_54 : decode cX7_feed 54 = .ok (.land, 1) := by decide +kernel
theorem dX7_feed_55 : decode cX7_feed 55 = .ok (.l2i, 1) := by decide +kernel
theorem dX7_feed_56 : decode cX7_feed 56 = .ok (.iastore, 1) := by decide +kernel
theorem dX7_feed_57 : decode cX7_feed 57 = .ok (.aload_n 0, 1) := by decide +kernel
theorem dX7_feed_58 : decode cX7_feed 58 = .ok (.dup, 1) := by decide +kernel
theorem dX7_feed_59 : decode cX7_feed 59 = .ok (.getfield 88, 3) := by decide +kernel
theorem dX7_feed_62 : decode cX7_feed 62 = .ok (.iconst 1, 1) := by decide +kernel
theorem dX7_feed_63 : decode cX7_feed 63 = .ok (.iadd, 1) := by decide +kernel
theorem dX7_feed_64 : decode cX7_feed 64 = .ok (.putfield 88, 3) := by decide +kernel
theorem dX7_feed_67 : decode cX7_feed 67 = .ok (.iinc 4 1, 3) := by decide +kernel
theorem dX7_feed_70 : decode cX7_feed 70 = .ok (.goto (-40), 3) := by decide +kernel
theorem dX7_feed_73 : decode cX7_feed 73 = .ok (.aload_n 0, 1) := by decide +kernel
theorem dX7_feed_74 : decode cX7_feed 74 = .ok (.getfield 88, 3) := by decide +kernel
theorem dX7_feed_77 : decode cX7_feed 77 = .ok (.ireturn, 1) := by decide +kernel
theorem dX7_byteAt_0 : decode cX7_byteAt 0 = .ok (.iload_n 1, 1) := by decide +kernel
theorem dX7_byteAt_1 : decode cX7_byteAt 1 = .ok (.aload_n 0, 1) := by decide +kernel
theorem dX7_byteAt_2 : decode cX7_byteAt 2 = .ok (.getfield 88, 3) := by decide +kernel
theorem dX7_byteAt_5 : decode cX7_byteAt 5 = .ok (.if_icmp .ge 12, 3) := by decide +kernel
theorem dX7_byteAt_8 : decode cX7_byteAt 8 = .ok (.aload_n 0, 1) := by decide +kernel
theorem dX7_byteAt_9 : decode cX7_byteAt 9 = .ok (.getfield 29, 3) := by decide +kernel
theorem dX7_byteAt_12 : decode cX7_byteAt 12 = .ok (.iload_n 1, 1) := by decide +kernel
theorem dX7_byteAt_13 : decode cX7_byteAt 13 = .ok (.iaload, 1) := by decide +kernel
theorem dX7_byteAt_14 : decode cX7_byteAt 14 = .ok (.goto 4, 3) := by decide +kernel
theorem dX7_byteAt_17 : decode cX7_byteAt 17 = .ok (.iconst (-1), 1) := by decide +kernel
theorem dX7_byteAt_18 : decode cX7_byteAt 18 = .ok (.ireturn, 1) := by decide +kernel
theorem dX7_isLetter_0 : decode cX7_isLetter 0 = .ok (.iload_n 0, 1) := by decide +kernel
theorem dX7_isLetter_1 : decode cX7_isLetter 1 = .ok (.bipush 97, 2) := by decide +kernel
theorem dX7_isLetter_3 : decode cX7_isLetter 3 = .ok (.bipush 122, 2) := by decide +kernel
theorem dX7_isLetter_5 : decode cX7_isLetter 5 = .ok (.invokestatic 81, 3) := by decide +kernel
theorem dX7_isLetter_8 : decode cX7_isLetter 8 = .ok (.ireturn, 1) := by decide +kernel
theorem dX7_isDigit_0 : decode cX7_isDigit 0 = .ok (.iload_n 0, 1) := by decide +kernel
theorem dX7_isDigit_1 : decode cX7_isDigit 1 = .ok (.bipush 48, 2) := by decide +kernel
theorem dX7_isDigit_3 : decode cX7_isDigit 3 = .ok (.bipush 57, 2) := by decide +kernel
theorem dX7_isDigit_5 : decode cX7_isDigit 5 = .ok (.invokestatic 81, 3) := by decide +kernel
theorem dX7_isDigit_8 : decode cX7_isDigit 8 = .ok (.ireturn, 1) := by decide +kernel
theorem dX7_advance_0 : decode cX7_advance 0 = .ok (.aload_n 0, 1) := by decide +kernel
theorem dX7_advance_1 : decode cX7_advance 1 = .ok (.aload_n 0, 1) := by decide +kernel
theorem dX7_advance_2 : decode cX7_advance 2 = .ok (.getfield 93, 3) := by decide +kernel
theorem dX7_advance_5 : decode cX7_advance 5 = .ok (.putfield 96, 3) := by decide +kernel
theorem dX7_advance_8 : decode cX7_advance 8 = .ok (.aload_n 0, 1) := by decide +kernel
theorem dX7_advance_9 : decode cX7_advance 9 = .ok (.aload_n 0, 1) := by decide +kernel
theorem dX7_advance_10 : decode cX7_advance 10 = .ok (.getfield 96, 3) := by decide +kernel
theorem dX7_advance_13 : decode cX7_advance 13 = .ok (.invokevirtual 99, 3) := by decide +kernel
theorem dX7_advance_16 : decode cX7_advance 16 = .ok (.bipush 32, 2) := by decide +kernel
theorem dX7_advance_18 : decode cX7_advance 18 = .ok (.if_icmp .ne 16, 3) := by decide +kernel
theorem dX7_advance_21 : decode cX7_advance 21 = .ok (.aload_n 0, 1) := by decide +kernel
theorem dX7_advance_22 : decode cX7_advance 22 = .ok (.dup, 1) := by decide +kernel
theorem dX7_advance_23 : decode cX7_advance 23 = .ok (.getfield 96, 3) := by decide +kernel
theorem dX7_advance_26 : decode cX7_advance 26 = .ok (.iconst 1, 1) := by decide +kernel
theorem dX7_advance_27 : decode cX7_advance 27 = .ok (.iadd, 1) := by decide +kernel
theorem dX7_advance_28 : decode cX7_advance 28 = .ok (.putfield 96, 3) := by decide +kernel
theorem dX7_advance_31 : decode cX7_advance 31 = .ok (.goto (-23), 3) := by decide +kernel
theorem dX7_advance_34 : decode cX7_advance 34 = .ok (.aload_n 0, 1) := by decide +kernel
theorem dX7_advance_35 : decode cX7_advance 35 = .ok (.aload_n 0, 1) := by decide +kernel
theorem dX7_advance_36 : decode cX7_advance 36 = .ok (.getfield 96, 3) := by decide +kernel
theorem dX7_advance_39 : decode cX7_advance 39 = .ok (.putfield 93, 3) := by decide +kernel
theorem dX7_advance_42 : decode cX7_advance 42 = .ok (.aload_n 0, 1) := by decide +kernel
theorem dX7_advance_43 : decode cX7_advance 43 = .ok (.aload_n 0, 1) := by decide +kernel
theorem dX7_advance_44 : decode cX7_advance 44 = .ok (.getfield 96, 3) := by decide +kernel
theorem dX7_advance_47 : decode cX7_advance 47 = .ok (.invokevirtual 99, 3) := by decide +kernel
theorem dX7_advance_50 : decode cX7_advance 50 = .ok (.istore_n 1, 1) := by decide +kernel
theorem dX7_advance_51 : decode cX7_advance 51 = .ok (.aload_n 0, 1) := by decide +kernel
theorem dX7_advance_52 : decode cX7_advance 52 = .ok (.iload_n 1, 1) := by decide +kernel
theorem dX7_advance_53 : decode cX7_advance 53 = .ok (.ifCond .ge 7, 3) := by decide +kernel
theorem dX7_advance_56 : decode cX7_advance 56 = .ok (.iconst 0, 1) := by decide +kernel
theorem dX7_advance_57 : decode cX7_advance 57 = .ok (.goto 26, 3) := by decide +kernel
theorem dX7_advance_60 : decode cX7_advance 60 = .ok (.iload_n 1, 1) := by decide +kernel
theorem dX7_advance_61 : decode cX7_advance 61 = .ok (.invokestatic 103, 3) := by decide +kernel
theorem dX7_advance_64 : decode cX7_advance 64 = .ok (.ifCond .eq 7, 3) := by decide +kernel
theorem dX7_advance_67 : decode cX7_advance 67 = .ok (.iconst 1, 1) := by decide +kernel
theorem dX7_advance_68 : decode cX7_advance 68 = .ok (.goto 15, 3) := by decide +kernel
theorem dX7_advance_71 : decode cX7_advance 71 = .ok (.iload_n 1, 1) := by decide +kernel
theorem dX7_advance_72 : decode cX7_advance 72 = .ok (.invokestatic 107, 3) := by decide +kernel
theorem dX7_advance_75 : decode cX7_advance 75 = .ok (.ifCond .eq 7, 3) := by decide +kernel
theorem dX7_advance_78 : decode cX7_advance 78 = .ok (.iconst 2, 1) := by decide +kernel
theorem dX7_advance_79 : decode cX7_advance 79 = .ok (.goto 4, 3) := by decide +kernel
theorem dX7_advance_82 : decode cX7_advance 82 = .ok (.iconst 3, 1) := by decide +kernel
theorem dX7_advance_83 : decode cX7_advance 83 = .ok (.putfield 110, 3) := by decide +kernel
theorem dX7_advance_86 : decode cX7_advance 86 = .ok (.aload_n 0, 1) := by decide +kernel
theorem dX7_advance_87 : decode cX7_advance 87 = .ok (.lconst 0, 1) := by decide +kernel
theorem dX7_advance_88 : decode cX7_advance 88 = .ok (.putfield 113, 3) := by decide +kernel
theorem dX7_advance_91 : decode cX7_advance 91 = .ok (.aload_n 0, 1) := by decide +kernel
theorem dX7_advance_92 : decode cX7_advance 92 = .ok (.aload_n 0, 1) := by decide +kernel
theorem dX7_advance_93 : decode cX7_advance 93 = .ok (.getfield 110, 3) := by decide +kernel
theorem dX7_advance_96 : decode cX7_advance 96 = .ok (.iconst 2, 1) := by decide +kernel
theorem dX7_advance_97 : decode cX7_advance 97 = .ok (.if_icmp .ne 7, 3) := by decide +kernel
theorem dX7_advance_100 : decode cX7_advance 100 = .ok (.iconst 0, 1) := by decide +kernel
theorem dX7_advance_101 : decode cX7_advance 101 = .ok (.goto 4, 3) := by decide +kernel
theorem dX7_advance_104 : decode cX7_advance 104 = .ok (.iload_n 1, 1) := by decide +kernel
theorem dX7_advance_105 : decode cX7_advance 105 = .ok (.putfield 117, 3) := by decide +kernel
theorem dX7_advance_108 : decode cX7_advance 108 = .ok (.aload_n 0, 1) := by decide +kernel
theorem dX7_advance_109 : decode cX7_advance 109 = .ok (.getfield 110, 3) := by decide +kernel
theorem dX7_advance_112 : decode cX7_advance 112 = .ok (.iconst 3, 1) := by decide +kernel
theorem dX7_advance_113 : decode cX7_advance 113 = .ok (.if_icmp .ne 13, 3) := by decide +kernel
theorem dX7_advance_116 : decode cX7_advance 116 = .ok (.aload_n 0, 1) := by decide +kernel
theorem dX7_advance_117 : decode cX7_advance 117 = .ok (.dup, 1) := by decide +kernel
theorem dX7_advance_118 : decode cX7_advance 118 = .ok (.getfield 93, 3) := by decide +kernel
theorem dX7_advance_121 : decode cX7_advance 121 = .ok (.iconst 1, 1) := by decide +kernel
theorem dX7_advance_122 : decode cX7_advance 122 = .ok (.iadd, 1) := by decide +kernel
theorem dX7_advance_123 : decode cX7_advance 123 = .ok (.putfield 93, 3) := by decide +kernel
theorem dX7_advance_126 : decode cX7_advance 126 = .ok (.aload_n 0, 1) := by decide +kernel
theorem dX7_advance_127 : decode cX7_advance 127 = .ok (.getfield 110, 3) := by decide +kernel
theorem dX7_advance_130 : decode cX7_advance 130 = .ok (.iconst 1, 1) := by decide +kernel
theorem dX7_advance_131 : decode cX7_advance 131 = .ok (.if_icmp .ne 76, 3) := by decide +kernel
theorem dX7_advance_134 : decode cX7_advance 134 = .ok (.aload_n 0, 1) := by decide +kernel
theorem dX7_advance_135 : decode cX7_advance 135 = .ok (.aload_n 0, 1) := by decide +kernel
theorem dX7_advance_136 : decode cX7_advance 136 = .ok (.getfield 93, 3) := by decide +kernel
theorem dX7_advance_139 : decode cX7_advance 139 = .ok (.invokevirtual 99, 3) := by decide +kernel
theorem dX7_advance_142 : decode cX7_advance 142 = .ok (.invokestatic 103, 3) := by decide +kernel
theorem dX7_advance_145 : decode cX7_advance 145 = .ok (.ifCond .eq 62, 3) := by decide +kernel
theorem dX7_advance_148 : decode cX7_advance 148 = .ok (.aload_n 0, 1) := by decide +kernel
theorem dX7_advance_149 : decode cX7_advance 149 = .ok (.aload_n 0, 1) := by decide +kernel
theorem dX7_advance_150 : decode cX7_advance 150 = .ok (.getfield 93, 3) := by decide +kernel
theorem dX7_advance_153 : decode cX7_advance 153 = .ok (.aload_n 0, 1) := by decide +kernel
theorem dX7_advance_154 : decode cX7_advance 154 = .ok (.getfield 96, 3) := by decide +kernel
theorem dX7_advance_157 : decode cX7_advance 157 = .ok (.isub, 1) := by decide +kernel
theorem dX7_advance_158 : decode cX7_advance 158 = .ok (.bipush 8, 2) := by decide +kernel
theorem dX7_advance_160 : decode cX7_advance 160 = .ok (.if_icmp .ge 28, 3) := by decide +kernel
theorem dX7_advance_163 : decode cX7_advance 163 = .ok (.ldc2_w 120, 3) := by decide +kernel
theorem dX7_advance_166 : decode cX7_advance 166 = .ok (.aload_n 0, 1) := by decide +kernel
theorem dX7_advance_167 : decode cX7_advance 167 = .ok (.getfield 113, 3) := by decide +kernel
theorem dX7_advance_170 : decode cX7_advance 170 = .ok (.lmul, 1) := by decide +kernel
theorem dX7_advance_171 : decode cX7_advance 171 = .ok (.aload_n 0, 1) := by decide +kernel
theorem dX7_advance_172 : decode cX7_advance 172 = .ok (.aload_n 0, 1) := by decide +kernel
theorem dX7_advance_173 : decode cX7_advance 173 = .ok (.getfield 93, 3) := by decide +kernel
theorem dX7_advance_176 : decode cX7_advance 176 = .ok (.invokevirtual 99, 3) := by decide +kernel
theorem dX7_advance_179 : decode cX7_advance 179 = .ok (.i2l, 1) := by decide +kernel
theorem dX7_advance_180 : decode cX7_advance 180 = .ok (.ladd, 1) := by decide +kernel
theorem dX7_advance_181 : decode cX7_advance 181 = .ok (.ldc2_w 122, 3) := by decide +kernel
theorem dX7_advance_184 : decode cX7_advance 184 = .ok (.lsub, 1) := by decide +kernel
theorem dX7_advance_185 : decode cX7_advance 185 = .ok (.goto 6, 3) := by decide +kernel
theorem dX7_advance_188 : decode cX7_advance 188 = .ok (.ldc2_w 124, 3) := by decide +kernel
theorem dX7_advance_191 : decode cX7_advance 191 = .ok (.putfield 113, 3) := by decide +kernel
theorem dX7_advance_194 : decode cX7_advance 194 = .ok (.aload_n 0, 1) := by decide +kernel
theorem dX7_advance_195 : decode cX7_advance 195 = .ok (.dup, 1) := by decide +kernel
theorem dX7_advance_196 : decode cX7_advance 196 = .ok (.getfield 93, 3) := by decide +kernel
theorem dX7_advance_199 : decode cX7_advance 199 = .ok (.iconst 1, 1) := by decide +kernel
theorem dX7_advance_200 : decode cX7_advance 200 = .ok (.iadd, 1) := by decide +kernel
theorem dX7_advance_201 : decode cX7_advance 201 = .ok (.putfield 93, 3) := by decide +kernel
theorem dX7_advance_204 : decode cX7_advance 204 = .ok (.goto (-78), 3) := by decide +kernel
theorem dX7_advance_207 : decode cX7_advance 207 = .ok (.aload_n 0, 1) := by decide +kernel
theorem dX7_advance_208 : decode cX7_advance 208 = .ok (.getfield 110, 3) := by decide +kernel
theorem dX7_advance_211 : decode cX7_advance 211 = .ok (.iconst 2, 1) := by decide +kernel
theorem dX7_advance_212 : decode cX7_advance 212 = .ok (.if_icmp .ne 70, 3) := by decide +kernel
theorem dX7_advance_215 : decode cX7_advance 215 = .ok (.aload_n 0, 1) := by decide +kernel
theorem dX7_advance_216 : decode cX7_advance 216 = .ok (.aload_n 0, 1) := by decide +kernel
theorem dX7_advance_217 : decode cX7_advance 217 = .ok (.getfield 93, 3) := by decide +kernel
theorem dX7_advance_220 : decode cX7_advance 220 = .ok (.invokevirtual 99, 3) := by decide +kernel
theorem dX7_advance_223 : decode cX7_advance 223 = .ok (.invokestatic 107, 3) := by decide +kernel
theorem dX7_advance_226 : decode cX7_advance 226 = .ok (.ifCond .eq 56, 3) := by decide +kernel
theorem dX7_advance_229 : decode cX7_advance 229 = .ok (.aload_n 0, 1) := by decide +kernel
theorem dX7_advance_230 : decode cX7_advance 230 = .ok (.aload_n 0, 1) := by decide +kernel
theorem dX7_advance_231 : decode cX7_advance 231 = .ok (.getfield 93, 3) := by decide +kernel
theorem dX7_advance_234 : decode cX7_advance 234 = .ok (.aload_n 0, 1) := by decide +kernel
theorem dX7_advance_235 : decode cX7_advance 235 = .ok (.getfield 96, 3) := by decide +kernel
theorem dX7_advance_238 : decode cX7_advance 238 = .ok (.isub, 1) := by decide +kernel
theorem dX7_advance_239 : decode cX7_advance 239 = .ok (.iconst 2, 1) := by decide +kernel
theorem dX7_advance_240 : decode cX7_advance 240 = .ok (.if_icmp .ge 25, 3) := by decide +kernel
theorem dX7_advance_243 : decode cX7_advance 243 = .ok (.bipush 10, 2) := by decide +kernel
theorem dX7_advance_245 : decode cX7_advance 245 = .ok (.aload_n 0, 1) := by decide +kernel
theorem dX7_advance_246 : decode cX7_advance 246 = .ok (.getfield 117, 3) := by decide +kernel
theorem dX7_advance_249 : decode cX7_advance 249 = .ok (.imul, 1) := by decide +kernel
theorem dX7_advance_250 : decode cX7_advance 250 = .ok (.aload_n 0, 1) := by decide +kernel
theorem dX7_advance_251 : decode cX7_advance 251 = .ok (.aload_n 0, 1) := by decide +kernel
theorem dX7_advance_252 : decode cX7_advance 252 = .ok (.getfield 93, 3) := by decide +kernel
theorem dX7_advance_255 : decode cX7_advance 255 = .ok (.invokevirtual 99, 3) := by decide +kernel
theorem dX7_advance_258 : decode cX7_advance 258 = .ok (.iadd, 1) := by decide +kernel
theorem dX7_advance_259 : decode cX7_advance 259 = .ok (.bipush 48, 2) := by decide +kernel
theorem dX7_advance_261 : decode cX7_advance 261 = .ok (.isub, 1) := by decide +kernel
theorem dX7_advance_262 : decode cX7_advance 262 = .ok (.goto 4, 3) := by decide +kernel
theorem dX7_advance_265 : decode cX7_advance 265 = .ok (.iconst (-1), 1) := by decide +kernel
theorem dX7_advance_266 : decode cX7_advance 266 = .ok (.putfield 117, 3) := by decide +kernel
theorem dX7_advance_269 : decode cX7_advance 269 = .ok (.aload_n 0, 1) := by decide +kernel
theorem dX7_advance_270 : decode cX7_advance 270 = .ok (.dup, 1) := by decide +kernel
theorem dX7_advance_271 : decode cX7_advance 271 = .ok (.getfield 93, 3) := by decide +kernel
theorem dX7_advance_274 : decode cX7_advance 274 = .ok (.iconst 1, 1) := by decide +kernel
theorem dX7_advance_275 : decode cX7_advance 275 = .ok (.iadd, 1) := by decide +kernel
theorem dX7_advance_276 : decode cX7_advance 276 = .ok (.putfield 93, 3) := by decide +kernel
theorem dX7_advance_279 : decode cX7_advance 279 = .ok (.goto (-72), 3) := by decide +kernel
theorem dX7_advance_282 : decode cX7_advance 282 = .ok (.return_, 1) := by decide +kernel
theorem dX7_isWord_0 : decode cX7_isWord 0 = .ok (.aload_n 0, 1) := by decide +kernel
theorem dX7_isWord_1 : decode cX7_isWord 1 = .ok (.getfield 110, 3) := by decide +kernel
theorem dX7_isWord_4 : decode cX7_isWord 4 = .ok (.iconst 1, 1) := by decide +kernel
theorem dX7_isWord_5 : decode cX7_isWord 5 = .ok (.if_icmp .ne 16, 3) := by decide +kernel
theorem dX7_isWord_8 : decode cX7_isWord 8 = .ok (.aload_n 0, 1) := by decide +kernel
theorem dX7_isWord_9 : decode cX7_isWord 9 = .ok (.getfield 113, 3) := by decide +kernel
theorem dX7_isWord_12 : decode cX7_isWord 12 = .ok (.lload_n 1, 1) := by decide +kernel
theorem dX7_isWord_13 : decode cX7_isWord 13 = .ok (.lcmp, 1) := by decide +kernel
theorem dX7_isWord_14 : decode cX7_isWord 14 = .ok (.ifCond .ne 7, 3) := by decide +kernel
theorem dX7_isWord_17 : decode cX7_isWord 17 = .ok (.iconst 1, 1) := by decide +kernel
theorem dX7_isWord_18 : decode cX7_isWord 18 = .ok (.goto 4, 3) := by decide +kernel
theorem dX7_isWord_21 : decode cX7_isWord 21 = .ok (.iconst 0, 1) := by decide +kernel
theorem dX7_isWord_22 : decode cX7_isWord 22 = .ok (.ireturn, 1) := by decide +kernel
theorem dX7_isMark_0 : decode cX7_isMark 0 = .ok (.aload_n 0, 1) := by decide +kernel
theorem dX7_isMark_1 : decode cX7_isMark 1 = .ok (.getfield 110, 3) := by decide +kernel
theorem dX7_isMark_4 : decode cX7_isMark 4 = .ok (.iconst 3, 1) := by decide +kernel
theorem dX7_isMark_5 : decode cX7_isMark 5 = .ok (.if_icmp .ne 15, 3) := by decide +kernel
theorem dX7_isMark_8 : decode cX7_isMark 8 = .ok (.aload_n 0, 1) := by decide +kernel
theorem dX7_isMark_9 : decode cX7_isMark 9 = .ok (.getfield 117, 3) := by decide +kernel
theorem dX7_isMark_12 : decode cX7_isMark 12 = .ok (.iload_n 1, 1) := by decide +kernel
theorem dX7_isMark_13 : decode cX7_isMark 13 = .ok (.if_icmp .ne 7, 3) := by decide +kernel
theorem dX7_isMark_16 : decode cX7_isMark 16 = .ok (.iconst 1, 1) := by decide +kernel
theorem dX7_isMark_17 : decode cX7_isMark 17 = .ok (.goto 4, 3) := by decide +kernel
theorem dX7_isMark_20 : decode cX7_isMark 20 = .ok (.iconst 0, 1) := by decide +kernel
theorem dX7_isMark_21 : decode cX7_isMark 21 = .ok (.ireturn, 1) := by decide +kernel
theorem dX7_kindHere_0 : decode cX7_kindHere 0 = .ok (.aload_n 0, 1) := by decide +kernel
theorem dX7_kindHere_1 : decode cX7_kindHere 1 = .ok (.ldc2_w 126, 3) := by decide +kernel
theorem dX7_kindHere_4 : decode cX7_kindHere 4 = .ok (.invokevirtual 128, 3) := by decide +kernel
theorem dX7_kindHere_7 : decode cX7_kindHere 7 = .ok (.ifCond .eq 7, 3) := by decide +kernel
theorem dX7_kindHere_10 : decode cX7_kindHere 10 = .ok (.iconst 0, 1) := by decide +kernel
theorem dX7_kindHere_11 : decode cX7_kindHere 11 = .ok (.goto 74, 3) := by decide +kernel
theorem dX7_kindHere_14 : decode cX7_kindHere 14 = .ok (.aload_n 0, 1) := by decide +kernel
theorem dX7_kindHere_15 : decode cX7_kindHere 15 = .ok (.ldc2_w 132, 3) := by decide +kernel
theorem dX7_kindHere_18 : decode cX7_kindHere 18 = .ok (.invokevirtual 128, 3) := by decide +kernel
theorem dX7_kindHere_21 : decode cX7_kindHere 21 = .ok (.ifCond .eq 7, 3) := by decide +kernel
theorem dX7_kindHere_24 : decode cX7_kindHere 24 = .ok (.iconst 1, 1) := by decide +kernel
theorem dX7_kindHere_25 : decode cX7_kindHere 25 = .ok (.goto 60, 3) := by decide +kernel
theorem dX7_kindHere_28 : decode cX7_kindHere 28 = .ok (.aload_n 0, 1) := by decide +kernel
theorem dX7_kindHere_29 : decode cX7_kindHere 29 = .ok (.ldc2_w 134, 3) := by decide +kernel
theorem dX7_kindHere_32 : decode cX7_kindHere 32 = .ok (.invokevirtual 128, 3) := by decide +kernel
theorem dX7_kindHere_35 : decode cX7_kindHere 35 = .ok (.ifCond .eq 7, 3) := by decide +kernel
theorem dX7_kindHere_38 : decode cX7_kindHere 38 = .ok (.iconst 2, 1) := by decide +kernel
theorem dX7_kindHere_39 : decode cX7_kindHere 39 = .ok (.goto 46, 3) := by decide +kernel
theorem dX7_kindHere_42 : decode cX7_kindHere 42 = .ok (.aload_n 0, 1) := by decide +kernel
theorem dX7_kindHere_43 : decode cX7_kindHere 43 = .ok (.ldc2_w 136, 3) := by decide +kernel
theorem dX7_kindHere_46 : decode cX7_kindHere 46 = .ok (.invokevirtual 128, 3) := by decide +kernel
theorem dX7_kindHere_49 : decode cX7_kindHere 49 = .ok (.ifCond .eq 7, 3) := by decide +kernel
theorem dX7_kindHere_52 : decode cX7_kindHere 52 = .ok (.iconst 3, 1) := by decide +kernel
theorem dX7_kindHere_53 : decode cX7_kindHere 53 = .ok (.goto 32, 3) := by decide +kernel
theorem dX7_kindHere_56 : decode cX7_kindHere 56 = .ok (.aload_n 0, 1) := by decide +kernel
theorem dX7_kindHere_57 : decode cX7_kindHere 57 = .ok (.ldc2_w 138, 3) := by decide +kernel
theorem dX7_kindHere_60 : decode cX7_kindHere 60 = .ok (.invokevirtual 128, 3) := by decide +kernel
theorem dX7_kindHere_63 : decode cX7_kindHere 63 = .ok (.ifCond .eq 7, 3) := by decide +kernel
theorem dX7_kindHere_66 : decode cX7_kindHere 66 = .ok (.iconst 4, 1) := by decide +kernel
theorem dX7_kindHere_67 : decode cX7_kindHere 67 = .ok (.goto 18, 3) := by decide +kernel
theorem dX7_kindHere_70 : decode cX7_kindHere 70 = .ok (.aload_n 0, 1) := by decide +kernel
theorem dX7_kindHere_71 : decode cX7_kindHere 71 = .ok (.ldc2_w 140, 3) := by decide +kernel
theorem dX7_kindHere_74 : decode cX7_kindHere 74 = .ok (.invokevirtual 128, 3) := by decide +kernel
theorem dX7_kindHere_77 : decode cX7_kindHere 77 = .ok (.ifCond .eq 7, 3) := by decide +kernel
theorem dX7_kindHere_80 : decode cX7_kindHere 80 = .ok (.iconst 5, 1) := by decide +kernel
theorem dX7_kindHere_81 : decode cX7_kindHere 81 = .ok (.goto 4, 3) := by decide +kernel
theorem dX7_kindHere_84 : decode cX7_kindHere 84 = .ok (.iconst (-1), 1) := by decide +kernel
theorem dX7_kindHere_85 : decode cX7_kindHere 85 = .ok (.ireturn, 1) := by decide +kernel
theorem dX7_wantNumber_0 : decode cX7_wantNumber 0 = .ok (.aload_n 0, 1) := by decide +kernel
theorem dX7_wantNumber_1 : decode cX7_wantNumber 1 = .ok (.getfield 117, 3) := by decide +kernel
theorem dX7_wantNumber_4 : decode cX7_wantNumber 4 = .ok (.istore_n 3, 1) := by decide +kernel
theorem dX7_wantNumber_5 : decode cX7_wantNumber 5 = .ok (.aload_n 0, 1) := by decide +kernel
theorem dX7_wantNumber_6 : decode cX7_wantNumber 6 = .ok (.aload_n 0, 1) := by decide +kernel
theorem dX7_wantNumber_7 : decode cX7_wantNumber 7 = .ok (.getfield 142, 3) := by decide +kernel
theorem dX7_wantNumber_10 : decode cX7_wantNumber 10 = .ok (.ifCond .eq 24, 3) := by decide +kernel
theorem dX7_wantNumber_13 : decode cX7_wantNumber 13 = .ok (.aload_n 0, 1) := by decide +kernel
theorem dX7_wantNumber_14 : decode cX7_wantNumber 14 = .ok (.getfield 110, 3) := by decide +kernel
theorem dX7_wantNumber_17 : decode cX7_wantNumber 17 = .ok (.iconst 2, 1) := by decide +kernel
theorem dX7_wantNumber_18 : decode cX7_wantNumber 18 = .ok (.if_icmp .ne 16, 3) := by decide +kernel
theorem dX7_wantNumber_21 : decode cX7_wantNumber 21 = .ok (.iload_n 3, 1) := by decide +kernel
theorem dX7_wantNumber_22 : decode cX7_wantNumber 22 = .ok (.iload_n 1, 1) := by decide +kernel
theorem dX7_wantNumber_23 : decode cX7_wantNumber 23 = .ok (.iload_n 2, 1) := by decide +kernel
theorem dX7_wantNumber_24 : decode cX7_wantNumber 24 = .ok (.invokestatic 81, 3) := by decide +kernel
theorem dX7_wantNumber_27 : decode cX7_wantNumber 27 = .ok (.ifCond .eq 7, 3) := by decide +kernel
theorem dX7_wantNumber_30 : decode cX7_wantNumber 30 = .ok (.iconst 1, 1) := by decide +kernel
theorem dX7_wantNumber_31 : decode cX7_wantNumber 31 = .ok (.goto 4, 3) := by decide +kernel
theorem dX7_wantNumber_34 : decode cX7_wantNumber 34 = .ok (.iconst 0, 1) := by decide +kernel
theorem dX7_wantNumber_35 : decode cX7_wantNumber 35 = .ok (.putfield 142, 3) := by decide +kernel
theorem dX7_wantNumber_38 : decode cX7_wantNumber 38 = .ok (.aload_n 0, 1) := by decide +kernel
theorem dX7_wantNumber_39 : decode cX7_wantNumber 39 = .ok (.getfield 142, 3) := by decide +kernel
theorem dX7_wantNumber_42 : decode cX7_wantNumber 42 = .ok (.ifCond .eq 7, 3) := by decide +kernel
theorem dX7_wantNumber_45 : decode cX7_wantNumber 45 = .ok (.aload_n 0, 1) := by decide +kernel
theorem dX7_wantNumber_46 : decode cX7_wantNumber 46 = .ok (.invokevirtual 146, 3) := by decide +kernel
theorem dX7_wantNumber_49 : decode cX7_wantNumber 49 = .ok (.iload_n 3, 1) := by decide +kernel
theorem dX7_wantNumber_50 : decode cX7_wantNumber 50 = .ok (.ireturn, 1) := by decide +kernel
theorem dX7_wantEnd_0 : decode cX7_wantEnd 0 = .ok (.aload_n 0, 1) := by decide +kernel
theorem dX7_wantEnd_1 : decode cX7_wantEnd 1 = .ok (.aload_n 0, 1) := by decide +kernel
theorem dX7_wantEnd_2 : decode cX7_wantEnd 2 = .ok (.getfield 142, 3) := by decide +kernel
theorem dX7_wantEnd_5 : decode cX7_wantEnd 5 = .ok (.ifCond .eq 16, 3) := by decide +kernel
theorem dX7_wantEnd_8 : decode cX7_wantEnd 8 = .ok (.aload_n 0, 1) := by decide +kernel
theorem dX7_wantEnd_9 : decode cX7_wantEnd 9 = .ok (.bipush 59, 2) := by decide +kernel
theorem dX7_wantEnd_11 : decode cX7_wantEnd 11 = .ok (.invokevirtual 149, 3) := by decide +kernel
theorem dX7_wantEnd_14 : decode cX7_wantEnd 14 = .ok (.ifCond .eq 7, 3) := by decide +kernel
theorem dX7_wantEnd_17 : decode cX7_wantEnd 17 = .ok (.iconst 1, 1) := by decide +kernel
theorem dX7_wantEnd_18 : decode cX7_wantEnd 18 = .ok (.goto 4, 3) := by decide +kernel
theorem dX7_wantEnd_21 : decode cX7_wantEnd 21 = .ok (.iconst 0, 1) := by decide +kernel
theorem dX7_wantEnd_22 : decode cX7_wantEnd 22 = .ok (.putfield 142, 3) := by decide +kernel
theorem dX7_wantEnd_25 : decode cX7_wantEnd 25 = .ok (.aload_n 0, 1) := by decide +kernel
theorem dX7_wantEnd_26 : decode cX7_wantEnd 26 = .ok (.getfield 142, 3) := by decide +kernel
theorem dX7_wantEnd_29 : decode cX7_wantEnd 29 = .ok (.ifCond .eq 7, 3) := by decide +kernel
theorem dX7_wantEnd_32 : decode cX7_wantEnd 32 = .ok (.aload_n 0, 1) := by decide +kernel
theorem dX7_wantEnd_33 : decode cX7_wantEnd 33 = .ok (.invokevirtual 146, 3) := by decide +kernel
theorem dX7_wantEnd_36 : decode cX7_wantEnd 36 = .ok (.return_, 1) := by decide +kernel
theorem dX7_wantYear_0 : decode cX7_wantYear 0 = .ok (.aload_n 0, 1) := by decide +kernel
theorem dX7_wantYear_1 : decode cX7_wantYear 1 = .ok (.invokevirtual 146, 3) := by decide +kernel
theorem dX7_wantYear_4 : decode cX7_wantYear 4 = .ok (.aload_n 0, 1) := by decide +kernel
theorem dX7_wantYear_5 : decode cX7_wantYear 5 = .ok (.iconst 0, 1) := by decide +kernel
theorem dX7_wantYear_6 : decode cX7_wantYear 6 = .ok (.bipush 23, 2) := by decide +kernel
theorem dX7_wantYear_8 : decode cX7_wantYear 8 = .ok (.invokevirtual 152, 3) := by decide +kernel
theorem dX7_wantYear_11 : decode cX7_wantYear 11 = .ok (.istore_n 2, 1) := by decide +kernel
theorem dX7_wantYear_12 : decode cX7_wantYear 12 = .ok (.iconst (-1), 1) := by decide +kernel
theorem dX7_wantYear_13 : decode cX7_wantYear 13 = .ok (.istore_n 3, 1) := by decide +kernel
theorem dX7_wantYear_14 : decode cX7_wantYear 14 = .ok (.iload_n 1, 1) := by decide +kernel
theorem dX7_wantYear_15 : decode cX7_wantYear 15 = .ok (.ifCond .eq 48, 3) := by decide +kernel
theorem dX7_wantYear_18 : decode cX7_wantYear 18 = .ok (.aload_n 0, 1) := by decide +kernel
theorem dX7_wantYear_19 : decode cX7_wantYear 19 = .ok (.aload_n 0, 1) := by decide +kernel
theorem dX7_wantYear_20 : decode cX7_wantYear 20 = .ok (.getfield 142, 3) := by decide +kernel
theorem dX7_wantYear_23 : decode cX7_wantYear 23 = .ok (.ifCond .eq 17, 3) := by decide +kernel
theorem dX7_wantYear_26 : decode cX7_wantYear 26 = .ok (.aload_n 0, 1) := by decide +kernel
theorem dX7_wantYear_27 : decode cX7_wantYear 27 = .ok (.ldc2_w 156, 3) := by decide +kernel
theorem dX7_wantYear_30 : decode cX7_wantYear 30 = .ok (.invokevirtual 128, 3) := by decide +kernel
theorem dX7_wantYear_33 : decode cX7_wantYear 33 = .ok (.ifCond .eq 7, 3) := by decide +kernel
theorem dX7_wantYear_36 : decode cX7_wantYear 36 = .ok (.iconst 1, 1) := by decide +kernel
theorem dX7_wantYear_37 : decode cX7_wantYear 37 = .ok (.goto 4, 3) := by decide +kernel
theorem dX7_wantYear_40 : decode cX7_wantYear 40 = .ok (.iconst 0, 1) := by decide +kernel
theorem dX7_wantYear_41 : decode cX7_wantYear 41 = .ok (.putfield 142, 3) := by decide +kernel
theorem dX7_wantYear_44 : decode cX7_wantYear 44 = .ok (.aload_n 0, 1) := by decide +kernel
theorem dX7_wantYear_45 : decode cX7_wantYear 45 = .ok (.getfield 142, 3) := by decide +kernel
theorem dX7_wantYear_48 : decode cX7_wantYear 48 = .ok (.ifCond .eq 7, 3) := by decide +kernel
theorem dX7_wantYear_51 : decode cX7_wantYear 51 = .ok (.aload_n 0, 1) := by decide +kernel
theorem dX7_wantYear_52 : decode cX7_wantYear 52 = .ok (.invokevirtual 146, 3) := by decide +kernel
theorem dX7_wantYear_55 : decode cX7_wantYear 55 = .ok (.aload_n 0, 1) := by decide +kernel
theorem dX7_wantYear_56 : decode cX7_wantYear 56 = .ok (.iconst 0, 1) := by decide +kernel
theorem dX7_wantYear_57 : decode cX7_wantYear 57 = .ok (.bipush 9, 2) := by decide +kernel
theorem dX7_wantYear_59 : decode cX7_wantYear 59 = .ok (.invokevirtual 152, 3) := by decide +kernel
theorem dX7_wantYear_62 : decode cX7_wantYear 62 = .ok (.istore_n 3, 1) := by decide +kernel
theorem dX7_wantYear_63 : decode cX7_wantYear 63 = .ok (.iconst 0, 1) := by decide +kernel
theorem dX7_wantYear_64 : decode cX7_wantYear 64 = .ok (.istore 4, 2) := by decide +kernel
theorem dX7_wantYear_66 : decode cX7_wantYear 66 = .ok (.aload_n 0, 1) := by decide +kernel
theorem dX7_wantYear_67 : decode cX7_wantYear 67 = .ok (.getfield 142, 3) := by decide +kernel
theorem dX7_wantYear_70 : decode cX7_wantYear 70 = .ok (.ifCond .eq 26, 3) := by decide +kernel
theorem dX7_wantYear_73 : decode cX7_wantYear 73 = .ok (.aload_n 0, 1) := by decide +kernel
theorem dX7_wantYear_74 : decode cX7_wantYear 74 = .ok (.ldc2_w 158, 3) := by decide +kernel
theorem dX7_wantYear_77 : decode cX7_wantYear 77 = .ok (.invokevirtual 128, 3) := by decide +kernel
theorem dX7_wantYear_80 : decode cX7_wantYear 80 = .ok (.ifCond .eq 16, 3) := by decide +kernel
theorem dX7_wantYear_83 : decode cX7_wantYear 83 = .ok (.aload_n 0, 1) := by decide +kernel
theorem dX7_wantYear_84 : decode cX7_wantYear 84 = .ok (.invokevirtual 146, 3) := by decide +kernel
theorem dX7_wantYear_87 : decode cX7_wantYear 87 = .ok (.aload_n 0, 1) := by decide +kernel
theorem dX7_wantYear_88 : decode cX7_wantYear 88 = .ok (.iconst 0, 1) := by decide +kernel
theorem dX7_wantYear_89 : decode cX7_wantYear 89 = .ok (.bipush 9, 2) := by decide +kernel
theorem dX7_wantYear_91 : decode cX7_wantYear 91 = .ok (.invokevirtual 152, 3) := by decide +kernel
theorem dX7_wantYear_94 : decode cX7_wantYear 94 = .ok (.istore 4, 2) := by decide +kernel
theorem dX7_wantYear_96 : decode cX7_wantYear 96 = .ok (.aload_n 0, 1) := by decide +kernel
theorem dX7_wantYear_97 : decode cX7_wantYear 97 = .ok (.invokevirtual 160, 3) := by decide +kernel
theorem dX7_wantYear_100 : decode cX7_wantYear 100 = .ok (.aload_n 0, 1) := by decide +kernel
theorem dX7_wantYear_101 : decode cX7_wantYear 101 = .ok (.getfield 142, 3) := by decide +kernel
theorem dX7_wantYear_104 : decode cX7_wantYear 104 = .ok (.ifCond .eq 18, 3) := by decide +kernel
theorem dX7_wantYear_107 : decode cX7_wantYear 107 = .ok (.aload_n 0, 1) := by decide +kernel
theorem dX7_wantYear_108 : decode cX7_wantYear 108 = .ok (.getfield 32, 3) := by decide +kernel
theorem dX7_wantYear_111 : decode cX7_wantYear 111 = .ok (.iload_n 2, 1) := by decide +kernel
theorem dX7_wantYear_112 : decode cX7_wantYear 112 = .ok (.iload_n 3, 1) := by decide +kernel
theorem dX7_wantYear_113 : decode cX7_wantYear 113 = .ok (.iastore, 1) := by decide +kernel
theorem dX7_wantYear_114 : decode cX7_wantYear 114 = .ok (.aload_n 0, 1) := by decide +kernel
theorem dX7_wantYear_115 : decode cX7_wantYear 115 = .ok (.getfield 35, 3) := by decide +kernel
theorem dX7_wantYear_118 : decode cX7_wantYear 118 = .ok (.iload_n 2, 1) := by decide +kernel
theorem dX7_wantYear_119 : decode cX7_wantYear 119 = .ok (.iload 4, 2) := by decide +kernel
theorem dX7_wantYear_121 : decode cX7_wantYear 121 = .ok (.iastore, 1) := by decide +kernel
theorem dX7_wantYear_122 : decode cX7_wantYear 122 = .ok (.return_, 1) := by decide +kernel
theorem dX7_wantRule_0 : decode cX7_wantRule 0 = .ok (.aload_n 0, 1) := by decide +kernel
theorem dX7_wantRule_1 : decode cX7_wantRule 1 = .ok (.aload_n 0, 1) := by decide +kernel
theorem dX7_wantRule_2 : decode cX7_wantRule 2 = .ok (.getfield 163, 3) := by decide +kernel
theorem dX7_wantRule_5 : decode cX7_wantRule 5 = .ok (.bipush 6, 2) := by decide +kernel
theorem dX7_wantRule_7 : decode cX7_wantRule 7 = .ok (.if_icmp .ge 7, 3) := by decide +kernel
theorem dX7_wantRule_10 : decode cX7_wantRule 10 = .ok (.iconst 1, 1) := by decide +kernel
theorem dX7_wantRule_11 : decode cX7_wantRule 11 = .ok (.goto 4, 3) := by decide +kernel
theorem dX7_wantRule_14 : decode cX7_wantRule 14 = .ok (.iconst 0, 1) := by decide +kernel
theorem dX7_wantRule_15 : decode cX7_wantRule 15 = .ok (.putfield 142, 3) := by decide +kernel
theorem dX7_wantRule_18 : decode cX7_wantRule 18 = .ok (.aload_n 0, 1) := by decide +kernel
theorem dX7_wantRule_19 : decode cX7_wantRule 19 = .ok (.getfield 142, 3) := by decide +kernel
theorem dX7_wantRule_22 : decode cX7_wantRule 22 = .ok (.ifCond .eq 7, 3) := by decide +kernel
theorem dX7_wantRule_25 : decode cX7_wantRule 25 = .ok (.aload_n 0, 1) := by decide +kernel
theorem dX7_wantRule_26 : decode cX7_wantRule 26 = .ok (.invokevirtual 146, 3) := by decide +kernel
theorem dX7_wantRule_29 : decode cX7_wantRule 29 = .ok (.aload_n 0, 1) := by decide +kernel
theorem dX7_wantRule_30 : decode cX7_wantRule 30 = .ok (.iconst 0, 1) := by decide +kernel
theorem dX7_wantRule_31 : decode cX7_wantRule 31 = .ok (.iconst 4, 1) := by decide +kernel
theorem dX7_wantRule_32 : decode cX7_wantRule 32 = .ok (.invokevirtual 152, 3) := by decide +kernel
theorem dX7_wantRule_35 : decode cX7_wantRule 35 = .ok (.istore_n 2, 1) := by decide +kernel
theorem dX7_wantRule_36 : decode cX7_wantRule 36 = .ok (.aload_n 0, 1) := by decide +kernel
theorem dX7_wantRule_37 : decode cX7_wantRule 37 = .ok (.iconst 0, 1) := by decide +kernel
theorem dX7_wantRule_38 : decode cX7_wantRule 38 = .ok (.iconst 4, 1) := by decide +kernel
theorem dX7_wantRule_39 : decode cX7_wantRule 39 = .ok (.invokevirtual 152, 3) := by decide +kernel
theorem dX7_wantRule_42 : decode cX7_wantRule 42 = .ok (.istore_n 3, 1) := by decide +kernel
theorem dX7_wantRule_43 : decode cX7_wantRule 43 = .ok (.aload_n 0, 1) := by decide +kernel
theorem dX7_wantRule_44 : decode cX7_wantRule 44 = .ok (.iconst 1, 1) := by decide +kernel
theorem dX7_wantRule_45 : decode cX7_wantRule 45 = .ok (.iconst 4, 1) := by decide +kernel
theorem dX7_wantRule_46 : decode cX7_wantRule 46 = .ok (.invokevirtual 152, 3) := by decide +kernel
theorem dX7_wantRule_49 : decode cX7_wantRule 49 = .ok (.istore 4, 2) := by decide +kernel
theorem dX7_wantRule_51 : decode cX7_wantRule 51 = .ok (.aload_n 0, 1) := by decide +kernel
theorem dX7_wantRule_52 : decode cX7_wantRule 52 = .ok (.invokevirtual 160, 3) := by decide +kernel
theorem dX7_wantRule_55 : decode cX7_wantRule 55 = .ok (.aload_n 0, 1) := by decide +kernel
theorem dX7_wantRule_56 : decode cX7_wantRule 56 = .ok (.getfield 142, 3) := by decide +kernel
theorem dX7_wantRule_59 : decode cX7_wantRule 59 = .ok (.ifCond .eq 68, 3) := by decide +kernel
theorem dX7_wantRule_62 : decode cX7_wantRule 62 = .ok (.aload_n 0, 1) := by decide +kernel
theorem dX7_wantRule_63 : decode cX7_wantRule 63 = .ok (.getfield 38, 3) := by decide +kernel
theorem dX7_wantRule_66 : decode cX7_wantRule 66 = .ok (.iconst 4, 1) := by decide +kernel
theorem dX7_wantRule_67 : decode cX7_wantRule 67 = .ok (.aload_n 0, 1) := by decide +kernel
theorem dX7_wantRule_68 : decode cX7_wantRule 68 = .ok (.getfield 163, 3) := by decide +kernel
theorem dX7_wantRule_71 : decode cX7_wantRule 71 = .ok (.imul, 1) := by decide +kernel
theorem dX7_wantRule_72 : decode cX7_wantRule 72 = .ok (.iload_n 1, 1) := by decide +kernel
theorem dX7_wantRule_73 : decode cX7_wantRule 73 = .ok (.iastore, 1) := by decide +kernel
theorem dX7_wantRule_74 : decode cX7_wantRule 74 = .ok (.aload_n 0, 1) := by decide +kernel
theorem dX7_wantRule_75 : decode cX7_wantRule 75 = .ok (.getfield 38, 3) := by decide +kernel
theorem dX7_wantRule_78 : decode cX7_wantRule 78 = .ok (.iconst 4, 1) := by decide +kernel
theorem dX7_wantRule_79 : decode cX7_wantRule 79 = .ok (.aload_n 0, 1) := by decide +kernel
theorem dX7_wantRule_80 : decode cX7_wantRule 80 = .ok (.getfield 163, 3) := by decide +kernel
theorem dX7_wantRule_83 : decode cX7_wantRule 83 = .ok (.imul, 1) := by decide +kernel
theorem dX7_wantRule_84 : decode cX7_wantRule 84 = .ok (.iconst 1, 1) := by decide +kernel
theorem dX7_wantRule_85 : decode cX7_wantRule 85 = .ok (.iadd, 1) := by decide +kernel
theorem dX7_wantRule_86 : decode cX7_wantRule 86 = .ok (.iload_n 2, 1) := by decide +kernel
theorem dX7_wantRule_87 : decode cX7_wantRule 87 = .ok (.iastore, 1) := by decide +kernel
theorem dX7_wantRule_88 : decode cX7_wantRule 88 = .ok (.aload_n 0, 1) := by decide +kernel
theorem dX7_wantRule_89 : decode cX7_wantRule 89 = .ok (.getfield 38, 3) := by decide +kernel
theorem dX7_wantRule_92 : decode cX7_wantRule 92 = .ok (.iconst 4, 1) := by decide +kernel
theorem dX7_wantRule_93 : decode cX7_wantRule 93 = .ok (.aload_n 0, 1) := by decide +kernel
theorem dX7_wantRule_94 : decode cX7_wantRule 94 = .ok (.getfield 163, 3) := by decide +kernel
theorem dX7_wantRule_97 : decode cX7_wantRule 97 = .ok (.imul, 1) := by decide +kernel
theorem dX7_wantRule_98 : decode cX7_wantRule 98 = .ok (.iconst 2, 1) := by decide +kernel
theorem dX7_wantRule_99 : decode cX7_wantRule 99 = .ok (.iadd, 1) := by decide +kernel
theorem dX7_wantRule_100 : decode cX7_wantRule 100 = .ok (.iload_n 3, 1) := by decide +kernel
theorem dX7_wantRule_101 : decode cX7_wantRule 101 = .ok (.iastore, 1) := by decide +kernel
theorem dX7_wantRule_102 : decode cX7_wantRule 102 = .ok (.aload_n 0, 1) := by decide +kernel
theorem dX7_wantRule_103 : decode cX7_wantRule 103 = .ok (.getfield 38, 3) := by decide +kernel
theorem dX7_wantRule_106 : decode cX7_wantRule 106 = .ok (.iconst 4, 1) := by decide +kernel
theorem dX7_wantRule_107 : decode cX7_wantRule 107 = .ok (.aload_n 0, 1) := by decide +kernel
theorem dX7_wantRule_108 : decode cX7_wantRule 108 = .ok (.getfield 163, 3) := by decide +kernel
theorem dX7_wantRule_111 : decode cX7_wantRule 111 = .ok (.imul, 1) := by decide +kernel
theorem dX7_wantRule_112 : decode cX7_wantRule 112 = .ok (.iconst 3, 1) := by decide +kernel
theorem dX7_wantRule_113 : decode cX7_wantRule 113 = .ok (.iadd, 1) := by decide +kernel
theorem dX7_wantRule_114 : decode cX7_wantRule 114 = .ok (.iload 4, 2) := by decide +kernel
theorem dX7_wantRule_116 : decode cX7_wantRule 116 = .ok (.iastore, 1) := by decide +kernel
theorem dX7_wantRule_117 : decode cX7_wantRule 117 = .ok (.aload_n 0, 1) := by decide +kernel
theorem dX7_wantRule_118 : decode cX7_wantRule 118 = .ok (.dup, 1) := by decide +kernel
theorem dX7_wantRule_119 : decode cX7_wantRule 119 = .ok (.getfield 163, 3) := by decide +kernel
theorem dX7_wantRule_122 : decode cX7_wantRule 122 = .ok (.iconst 1, 1) := by decide +kernel
theorem dX7_wantRule_123 : decode cX7_wantRule 123 = .ok (.iadd, 1) := by decide +kernel
theorem dX7_wantRule_124 : decode cX7_wantRule 124 = .ok (.putfield 163, 3) := by decide +kernel
theorem dX7_wantRule_127 : decode cX7_wantRule 127 = .ok (.return_, 1) := by decide +kernel
theorem dX7_wantClause_0 : decode cX7_wantClause 0 = .ok (.aload_n 0, 1) := by decide +kernel
theorem dX7_wantClause_1 : decode cX7_wantClause 1 = .ok (.ldc2_w 166, 3) := by decide +kernel
theorem dX7_wantClause_4 : decode cX7_wantClause 4 = .ok (.invokevirtual 128, 3) := by decide +kernel
theorem dX7_wantClause_7 : decode cX7_wantClause 7 = .ok (.ifCond .eq 11, 3) := by decide +kernel
theorem dX7_wantClause_10 : decode cX7_wantClause 10 = .ok (.aload_n 0, 1) := by decide +kernel
theorem dX7_wantClause_11 : decode cX7_wantClause 11 = .ok (.iconst 1, 1) := by decide +kernel
theorem dX7_wantClause_12 : decode cX7_wantClause 12 = .ok (.invokevirtual 168, 3) := by decide +kernel
theorem dX7_wantClause_15 : decode cX7_wantClause 15 = .ok (.goto 78, 3) := by decide +kernel
theorem dX7_wantClause_18 : decode cX7_wantClause 18 = .ok (.aload_n 0, 1) := by decide +kernel
theorem dX7_wantClause_19 : decode cX7_wantClause 19 = .ok (.ldc2_w 172, 3) := by decide +kernel
theorem dX7_wantClause_22 : decode cX7_wantClause 22 = .ok (.invokevirtual 128, 3) := by decide +kernel
theorem dX7_wantClause_25 : decode cX7_wantClause 25 = .ok (.ifCond .eq 11, 3) := by decide +kernel
theorem dX7_wantClause_28 : decode cX7_wantClause 28 = .ok (.aload_n 0, 1) := by decide +kernel
theorem dX7_wantClause_29 : decode cX7_wantClause 29 = .ok (.iconst 0, 1) := by decide +kernel
theorem dX7_wantClause_30 : decode cX7_wantClause 30 = .ok (.invokevirtual 168, 3) := by decide +kernel
theorem dX7_wantClause_33 : decode cX7_wantClause 33 = .ok (.goto 60, 3) := by decide +kernel
theorem dX7_wantClause_36 : decode cX7_wantClause 36 = .ok (.aload_n 0, 1) := by decide +kernel
theorem dX7_wantClause_37 : decode cX7_wantClause 37 = .ok (.ldc2_w 174, 3) := by decide +kernel
theorem dX7_wantClause_40 : decode cX7_wantClause 40 = .ok (.invokevirtual 128, 3) := by decide +kernel
theorem dX7_wantClause_43 : decode cX7_wantClause 43 = .ok (.ifCond .eq 27, 3) := by decide +kernel
theorem dX7_wantClause_46 : decode cX7_wantClause 46 = .ok (.aload_n 0, 1) := by decide +kernel
theorem dX7_wantClause_47 : decode cX7_wantClause 47 = .ok (.invokevirtual 146, 3) := by decide +kernel
theorem dX7_wantClause_50 : decode cX7_wantClause 50 = .ok (.aload_n 0, 1) := by decide +kernel
theorem dX7_wantClause_51 : decode cX7_wantClause 51 = .ok (.iconst 2, 1) := by decide +kernel
theorem dX7_wantClause_52 : decode cX7_wantClause 52 = .ok (.bipush 10, 2) := by decide +kernel
theorem dX7_wantClause_54 : decode cX7_wantClause 54 = .ok (.invokevirtual 152, 3) := by decide +kernel
theorem dX7_wantClause_57 : decode cX7_wantClause 57 = .ok (.istore_n 1, 1) := by decide +kernel
theorem dX7_wantClause_58 : decode cX7_wantClause 58 = .ok (.aload_n 0, 1) := by decide +kernel
theorem dX7_wantClause_59 : decode cX7_wantClause 59 = .ok (.invokevirtual 160, 3) := by decide +kernel
theorem dX7_wantClause_62 : decode cX7_wantClause 62 = .ok (.aload_n 0, 1) := by decide +kernel
theorem dX7_wantClause_63 : decode cX7_wantClause 63 = .ok (.iload_n 1, 1) := by decide +kernel
theorem dX7_wantClause_64 : decode cX7_wantClause 64 = .ok (.putfield 176, 3) := by decide +kernel
theorem dX7_wantClause_67 : decode cX7_wantClause 67 = .ok (.goto 26, 3) := by decide +kernel
theorem dX7_wantClause_70 : decode cX7_wantClause 70 = .ok (.aload_n 0, 1) := by decide +kernel
theorem dX7_wantClause_71 : decode cX7_wantClause 71 = .ok (.invokevirtual 179, 3) := by decide +kernel
theorem dX7_wantClause_74 : decode cX7_wantClause 74 = .ok (.ifCond .lt 14, 3) := by decide +kernel
theorem dX7_wantClause_77 : decode cX7_wantClause 77 = .ok (.aload_n 0, 1) := by decide +kernel
theorem dX7_wantClause_78 : decode cX7_wantClause 78 = .ok (.aload_n 0, 1) := by decide +kernel
theorem dX7_wantClause_79 : decode cX7_wantClause 79 = .ok (.invokevirtual 179, 3) := by decide +kernel
theorem dX7_wantClause_82 : decode cX7_wantClause 82 = .ok (.invokevirtual 183, 3) := by decide +kernel
theorem dX7_wantClause_85 : decode cX7_wantClause 85 = .ok (.goto 8, 3) := by decide +kernel
theorem dX7_wantClause_88 : decode cX7_wantClause 88 = .ok (.aload_n 0, 1) := by decide +kernel
theorem dX7_wantClause_89 : decode cX7_wantClause 89 = .ok (.iconst 0, 1) := by decide +kernel
theorem dX7_wantClause_90 : decode cX7_wantClause 90 = .ok (.putfield 142, 3) := by decide +kernel
theorem dX7_wantClause_93 : decode cX7_wantClause 93 = .ok (.return_, 1) := by decide +kernel
theorem dX7_book_0 : decode cX7_book 0 = .ok (.aload_n 0, 1) := by decide +kernel
theorem dX7_book_1 : decode cX7_book 1 = .ok (.iconst 0, 1) := by decide +kernel
theorem dX7_book_2 : decode cX7_book 2 = .ok (.putfield 93, 3) := by decide +kernel
theorem dX7_book_5 : decode cX7_book 5 = .ok (.aload_n 0, 1) := by decide +kernel
theorem dX7_book_6 : decode cX7_book 6 = .ok (.iconst 1, 1) := by decide +kernel
theorem dX7_book_7 : decode cX7_book 7 = .ok (.putfield 142, 3) := by decide +kernel
theorem dX7_book_10 : decode cX7_book 10 = .ok (.aload_n 0, 1) := by decide +kernel
theorem dX7_book_11 : decode cX7_book 11 = .ok (.bipush 10, 2) := by decide +kernel
theorem dX7_book_13 : decode cX7_book 13 = .ok (.putfield 176, 3) := by decide +kernel
theorem dX7_book_16 : decode cX7_book 16 = .ok (.aload_n 0, 1) := by decide +kernel
theorem dX7_book_17 : decode cX7_book 17 = .ok (.iconst 0, 1) := by decide +kernel
theorem dX7_book_18 : decode cX7_book 18 = .ok (.putfield 163, 3) := by decide +kernel
theorem dX7_book_21 : decode cX7_book 21 = .ok (.iconst 0, 1) := by decide +kernel
theorem dX7_book_22 : decode cX7_book 22 = .ok (.istore_n 1, 1) := by decide +kernel
theorem dX7_book_23 : decode cX7_book 23 = .ok (.iload_n 1, 1) := by decide +kernel
theorem dX7_book_24 : decode cX7_book 24 = .ok (.bipush 24, 2) := by decide +kernel
theorem dX7_book_26 : decode cX7_book 26 = .ok (.if_icmp .ge 23, 3) := by decide +kernel
theorem dX7_book_29 : decode cX7_book 29 = .ok (.aload_n 0, 1) := by decide +kernel
theorem dX7_book_30 : decode cX7_book 30 = .ok (.getfield 32, 3) := by decide +kernel
theorem dX7_book_33 : decode cX7_book 33 = .ok (.iload_n 1, 1) := by decide +kernel
theorem dX7_book_34 : decode cX7_book 34 = .ok (.iconst (-1), 1) := by decide +kernel
theorem dX7_book_35 : decode cX7_book 35 = .ok (.iastore, 1) := by decide +kernel
theorem dX7_book_36 : decode cX7_book 36 = .ok (.aload_n 0, 1) := by decide +kernel
theorem dX7_book_37 : decode cX7_book 37 = .ok (.getfield 35, 3) := by decide +kernel
theorem dX7_book_40 : decode cX7_book 40 = .ok (.iload_n 1, 1) := by decide +kernel
theorem dX7_book_41 : decode cX7_book 41 = .ok (.iconst 0, 1) := by decide +kernel
theorem dX7_book_42 : decode cX7_book 42 = .ok (.iastore, 1) := by decide +kernel
theorem dX7_book_43 : decode cX7_book 43 = .ok (.iinc 1 1, 3) := by decide +kernel
theorem dX7_book_46 : decode cX7_book 46 = .ok (.goto (-23), 3) := by decide +kernel
theorem dX7_book_49 : decode cX7_book 49 = .ok (.aload_n 0, 1) := by decide +kernel
theorem dX7_book_50 : decode cX7_book 50 = .ok (.invokevirtual 146, 3) := by decide +kernel
theorem dX7_book_53 : decode cX7_book 53 = .ok (.aload_n 0, 1) := by decide +kernel
theorem dX7_book_54 : decode cX7_book 54 = .ok (.getfield 142, 3) := by decide +kernel
theorem dX7_book_57 : decode cX7_book 57 = .ok (.ifCond .eq 17, 3) := by decide +kernel
theorem dX7_book_60 : decode cX7_book 60 = .ok (.aload_n 0, 1) := by decide +kernel
theorem dX7_book_61 : decode cX7_book 61 = .ok (.getfield 110, 3) := by decide +kernel
theorem dX7_book_64 : decode cX7_book 64 = .ok (.ifCond .eq 10, 3) := by decide +kernel
theorem dX7_book_67 : decode cX7_book 67 = .ok (.aload_n 0, 1) := by decide +kernel
theorem dX7_book_68 : decode cX7_book 68 = .ok (.invokevirtual 187, 3) := by decide +kernel
theorem dX7_book_71 : decode cX7_book 71 = .ok (.goto (-18), 3) := by decide +kernel
theorem dX7_book_74 : decode cX7_book 74 = .ok (.aload_n 0, 1) := by decide +kernel
theorem dX7_book_75 : decode cX7_book 75 = .ok (.iconst 0, 1) := by decide +kernel
theorem dX7_book_76 : decode cX7_book 76 = .ok (.putfield 88, 3) := by decide +kernel
theorem dX7_book_79 : decode cX7_book 79 = .ok (.aload_n 0, 1) := by decide +kernel
theorem dX7_book_80 : decode cX7_book 80 = .ok (.getfield 142, 3) := by decide +kernel
theorem dX7_book_83 : decode cX7_book 83 = .ok (.ifCond .ne 11, 3) := by decide +kernel
theorem dX7_book_86 : decode cX7_book 86 = .ok (.bipush (-100), 2) := by decide +kernel
theorem dX7_book_88 : decode cX7_book 88 = .ok (.aload_n 0, 1) := by decide +kernel
theorem dX7_book_89 : decode cX7_book 89 = .ok (.getfield 96, 3) := by decide +kernel
theorem dX7_book_92 : decode cX7_book 92 = .ok (.isub, 1) := by decide +kernel
theorem dX7_book_93 : decode cX7_book 93 = .ok (.ireturn, 1) := by decide +kernel
theorem dX7_book_94 : decode cX7_book 94 = .ok (.aload_n 0, 1) := by decide +kernel
theorem dX7_book_95 : decode cX7_book 95 = .ok (.aload_n 0, 1) := by decide +kernel
theorem dX7_book_96 : decode cX7_book 96 = .ok (.getfield 176, 3) := by decide +kernel
theorem dX7_book_99 : decode cX7_book 99 = .ok (.putfield 19, 3) := by decide +kernel
theorem dX7_book_102 : decode cX7_book 102 = .ok (.aload_n 0, 1) := by decide +kernel
theorem dX7_book_103 : decode cX7_book 103 = .ok (.aload_n 0, 1) := by decide +kernel
theorem dX7_book_104 : decode cX7_book 104 = .ok (.getfield 163, 3) := by decide +kernel
theorem dX7_book_107 : decode cX7_book 107 = .ok (.putfield 85, 3) := by decide +kernel
theorem dX7_book_110 : decode cX7_book 110 = .ok (.iconst 0, 1) := by decide +kernel
theorem dX7_book_111 : decode cX7_book 111 = .ok (.istore_n 1, 1) := by decide +kernel
theorem dX7_book_112 : decode cX7_book 112 = .ok (.iload_n 1, 1) := by decide +kernel
theorem dX7_book_113 : decode cX7_book 113 = .ok (.bipush 24, 2) := by decide +kernel
theorem dX7_book_115 : decode cX7_book 115 = .ok (.if_icmp .ge 45, 3) := by decide +kernel
theorem dX7_book_118 : decode cX7_book 118 = .ok (.aload_n 0, 1) := by decide +kernel
theorem dX7_book_119 : decode cX7_book 119 = .ok (.getfield 7, 3) := by decide +kernel
theorem dX7_book_122 : decode cX7_book 122 = .ok (.iload_n 1, 1) := by decide +kernel
theorem dX7_book_123 : decode cX7_book 123 = .ok (.aload_n 0, 1) := by decide +kernel
theorem dX7_book_124 : decode cX7_book 124 = .ok (.getfield 32, 3) := by decide +kernel
theorem dX7_book_127 : decode cX7_book 127 = .ok (.iload_n 1, 1) := by decide +kernel
theorem dX7_book_128 : decode cX7_book 128 = .ok (.iaload, 1) := by decide +kernel
theorem dX7_book_129 : decode cX7_book 129 = .ok (.iastore, 1) := by decide +kernel
theorem dX7_book_130 : decode cX7_book 130 = .ok (.aload_n 0, 1) := by decide +kernel
theorem dX7_book_131 : decode cX7_book 131 = .ok (.getfield 16, 3) := by decide +kernel
theorem dX7_book_134 : decode cX7_book 134 = .ok (.iload_n 1, 1) := by decide +kernel
theorem dX7_book_135 : decode cX7_book 135 = .ok (.aload_n 0, 1) := by decide +kernel
theorem dX7_book_136 : decode cX7_book 136 = .ok (.getfield 35, 3) := by decide +kernel
theorem dX7_book_139 : decode cX7_book 139 = .ok (.iload_n 1, 1) := by decide +kernel
theorem dX7_book_140 : decode cX7_book 140 = .ok (.iaload, 1) := by decide +kernel
theorem dX7_book_141 : decode cX7_book 141 = .ok (.iastore, 1) := by decide +kernel
theorem dX7_book_142 : decode cX7_book 142 = .ok (.aload_n 0, 1) := by decide +kernel
theorem dX7_book_143 : decode cX7_book 143 = .ok (.getfield 23, 3) := by decide +kernel
theorem dX7_book_146 : decode cX7_book 146 = .ok (.iload_n 1, 1) := by decide +kernel
theorem dX7_book_147 : decode cX7_book 147 = .ok (.aload_n 0, 1) := by decide +kernel
theorem dX7_book_148 : decode cX7_book 148 = .ok (.getfield 38, 3) := by decide +kernel
theorem dX7_book_151 : decode cX7_book 151 = .ok (.iload_n 1, 1) := by decide +kernel
theorem dX7_book_152 : decode cX7_book 152 = .ok (.iaload, 1) := by decide +kernel
theorem dX7_book_153 : decode cX7_book 153 = .ok (.iastore, 1) := by decide +kernel
theorem dX7_book_154 : decode cX7_book 154 = .ok (.iinc 1 1, 3) := by decide +kernel
theorem dX7_book_157 : decode cX7_book 157 = .ok (.goto (-45), 3) := by decide +kernel
theorem dX7_book_160 : decode cX7_book 160 = .ok (.aload_n 0, 1) := by decide +kernel
theorem dX7_book_161 : decode cX7_book 161 = .ok (.iconst 0, 1) := by decide +kernel
theorem dX7_book_162 : decode cX7_book 162 = .ok (.putfield 190, 3) := by decide +kernel
theorem dX7_book_165 : decode cX7_book 165 = .ok (.aload_n 0, 1) := by decide +kernel
theorem dX7_book_166 : decode cX7_book 166 = .ok (.invokevirtual 193, 3) := by decide +kernel
theorem dX7_book_169 : decode cX7_book 169 = .ok (.ireturn, 1) := by decide +kernel
theorem dX7_year_0 : decode cX7_year 0 = .ok (.iload_n 1, 1) := by decide +kernel
theorem dX7_year_1 : decode cX7_year 1 = .ok (.invokestatic 196, 3) := by decide +kernel
theorem dX7_year_4 : decode cX7_year 4 = .ok (.ifCond .eq 13, 3) := by decide +kernel
theorem dX7_year_7 : decode cX7_year 7 = .ok (.iload_n 2, 1) := by decide +kernel
theorem dX7_year_8 : decode cX7_year 8 = .ok (.iconst (-1), 1) := by decide +kernel
theorem dX7_year_9 : decode cX7_year 9 = .ok (.bipush 9, 2) := by decide +kernel
theorem dX7_year_11 : decode cX7_year 11 = .ok (.invokestatic 81, 3) := by decide +kernel
theorem dX7_year_14 : decode cX7_year 14 = .ok (.ifCond .ne 5, 3) := by decide +kernel
theorem dX7_year_17 : decode cX7_year 17 = .ok (.iconst (-1), 1) := by decide +kernel
theorem dX7_year_18 : decode cX7_year 18 = .ok (.ireturn, 1) := by decide +kernel
theorem dX7_year_19 : decode cX7_year 19 = .ok (.aload_n 0, 1) := by decide +kernel
theorem dX7_year_20 : decode cX7_year 20 = .ok (.getfield 7, 3) := by decide +kernel
theorem dX7_year_23 : decode cX7_year 23 = .ok (.iload_n 1, 1) := by decide +kernel
theorem dX7_year_24 : decode cX7_year 24 = .ok (.iaload, 1) := by decide +kernel
theorem dX7_year_25 : decode cX7_year 25 = .ok (.istore_n 3, 1) := by decide +kernel
theorem dX7_year_26 : decode cX7_year 26 = .ok (.aload_n 0, 1) := by decide +kernel
theorem dX7_year_27 : decode cX7_year 27 = .ok (.getfield 7, 3) := by decide +kernel
theorem dX7_year_30 : decode cX7_year 30 = .ok (.iload_n 1, 1) := by decide +kernel
theorem dX7_year_31 : decode cX7_year 31 = .ok (.iload_n 2, 1) := by decide +kernel
theorem dX7_year_32 : decode cX7_year 32 = .ok (.iastore, 1) := by decide +kernel
theorem dX7_year_33 : decode cX7_year 33 = .ok (.iload_n 3, 1) := by decide +kernel
theorem dX7_year_34 : decode cX7_year 34 = .ok (.ifCond .ge 8, 3) := by decide +kernel
theorem dX7_year_37 : decode cX7_year 37 = .ok (.bipush (-9), 2) := by decide +kernel
theorem dX7_year_39 : decode cX7_year 39 = .ok (.goto 4, 3) := by decide +kernel
theorem dX7_year_42 : decode cX7_year 42 = .ok (.iload_n 3, 1) := by decide +kernel
theorem dX7_year_43 : decode cX7_year 43 = .ok (.ireturn, 1) := by decide +kernel
theorem dX7_mark_0 : decode cX7_mark 0 = .ok (.iload_n 1, 1) := by decide +kernel
theorem dX7_mark_1 : decode cX7_mark 1 = .ok (.invokestatic 196, 3) := by decide +kernel
theorem dX7_mark_4 : decode cX7_mark 4 = .ok (.ifCond .eq 13, 3) := by decide +kernel
theorem dX7_mark_7 : decode cX7_mark 7 = .ok (.iload_n 2, 1) := by decide +kernel
theorem dX7_mark_8 : decode cX7_mark 8 = .ok (.iconst 0, 1) := by decide +kernel
theorem dX7_mark_9 : decode cX7_mark 9 = .ok (.bipush 9, 2) := by decide +kernel
theorem dX7_mark_11 : decode cX7_mark 11 = .ok (.invokestatic 81, 3) := by decide +kernel
theorem dX7_mark_14 : decode cX7_mark 14 = .ok (.ifCond .ne 5, 3) := by decide +kernel
theorem dX7_mark_17 : decode cX7_mark 17 = .ok (.iconst (-1), 1) := by decide +kernel
theorem dX7_mark_18 : decode cX7_mark 18 = .ok (.ireturn, 1) := by decide +kernel
theorem dX7_mark_19 : decode cX7_mark 19 = .ok (.aload_n 0, 1) := by decide +kernel
theorem dX7_mark_20 : decode cX7_mark 20 = .ok (.getfield 16, 3) := by decide +kernel
theorem dX7_mark_23 : decode cX7_mark 23 = .ok (.iload_n 1, 1) := by decide +kernel
theorem dX7_mark_24 : decode cX7_mark 24 = .ok (.iaload, 1) := by decide +kernel
theorem dX7_mark_25 : decode cX7_mark 25 = .ok (.istore_n 3, 1) := by decide +kernel
theorem dX7_mark_26 : decode cX7_mark 26 = .ok (.aload_n 0, 1) := by decide +kernel
theorem dX7_mark_27 : decode cX7_mark 27 = .ok (.getfield 16, 3) := by decide +kernel
theorem dX7_mark_30 : decode cX7_mark 30 = .ok (.iload_n 1, 1) := by decide +kernel
theorem dX7_mark_31 : decode cX7_mark 31 = .ok (.iload_n 2, 1) := by decide +kernel
theorem dX7_mark_32 : decode cX7_mark 32 = .ok (.iastore, 1) := by decide +kernel
theorem dX7_mark_33 : decode cX7_mark 33 = .ok (.iload_n 3, 1) := by decide +kernel
theorem dX7_mark_34 : decode cX7_mark 34 = .ok (.ireturn, 1) := by decide +kernel
theorem dX7_yearOf_0 : decode cX7_yearOf 0 = .ok (.iload_n 1, 1) := by decide +kernel
theorem dX7_yearOf_1 : decode cX7_yearOf 1 = .ok (.invokestatic 196, 3) := by decide +kernel
theorem dX7_yearOf_4 : decode cX7_yearOf 4 = .ok (.ifCond .eq 10, 3) := by decide +kernel
theorem dX7_yearOf_7 : decode cX7_yearOf 7 = .ok (.iload_n 2, 1) := by decide +kernel
theorem dX7_yearOf_8 : decode cX7_yearOf 8 = .ok (.invokestatic 199, 3) := by decide +kernel
theorem dX7_yearOf_11 : decode cX7_yearOf 11 = .ok (.ifCond .ne 5, 3) := by decide +kernel
theorem dX7_yearOf_14 : decode cX7_yearOf 14 = .ok (.iconst (-1), 1) := by decide +kernel
theorem dX7_yearOf_15 : decode cX7_yearOf 15 = .ok (.ireturn, 1) := by decide +kernel
theorem dX7_yearOf_16 : decode cX7_yearOf 16 = .ok (.iload_n 2, 1) := by decide +kernel
theorem dX7_yearOf_17 : decode cX7_yearOf 17 = .ok (.iconst 1, 1) := by decide +kernel
theorem dX7_yearOf_18 : decode cX7_yearOf 18 = .ok (.if_icmp .ne 12, 3) := by decide +kernel
theorem dX7_yearOf_21 : decode cX7_yearOf 21 = .ok (.aload_n 0, 1) := by decide +kernel
theorem dX7_yearOf_22 : decode cX7_yearOf 22 = .ok (.getfield 16, 3) := by decide +kernel
theorem dX7_yearOf_25 : decode cX7_yearOf 25 = .ok (.iload_n 1, 1) := by decide +kernel
theorem dX7_yearOf_26 : decode cX7_yearOf 26 = .ok (.iaload, 1) := by decide +kernel
theorem dX7_yearOf_27 : decode cX7_yearOf 27 = .ok (.goto 23, 3) := by decide +kernel
theorem dX7_yearOf_30 : decode cX7_yearOf 30 = .ok (.aload_n 0, 1) := by decide +kernel
theorem dX7_yearOf_31 : decode cX7_yearOf 31 = .ok (.getfield 7, 3) := by decide +kernel
theorem dX7_yearOf_34 : decode cX7_yearOf 34 = .ok (.iload_n 1, 1) := by decide +kernel
theorem dX7_yearOf_35 : decode cX7_yearOf 35 = .ok (.iaload, 1) := by decide +kernel
theorem dX7_yearOf_36 : decode cX7_yearOf 36 = .ok (.ifCond .ge 8, 3) := by decide +kernel
theorem dX7_yearOf_39 : decode cX7_yearOf 39 = .ok (.bipush (-9), 2) := by decide +kernel
theorem dX7_yearOf_41 : decode cX7_yearOf 41 = .ok (.goto 9, 3) := by decide +kernel
theorem dX7_yearOf_44 : decode cX7_yearOf 44 = .ok (.aload_n 0, 1) := by decide +kernel
theorem dX7_yearOf_45 : decode cX7_yearOf 45 = .ok (.getfield 7, 3) := by decide +kernel
theorem dX7_yearOf_48 : decode cX7_yearOf 48 = .ok (.iload_n 1, 1) := by decide +kernel
theorem dX7_yearOf_49 : decode cX7_yearOf 49 = .ok (.iaload, 1) := by decide +kernel
theorem dX7_yearOf_50 : decode cX7_yearOf 50 = .ok (.ireturn, 1) := by decide +kernel
theorem dX7_villages_0 : decode cX7_villages 0 = .ok (.iload_n 1, 1) := by decide +kernel
theorem dX7_villages_1 : decode cX7_villages 1 = .ok (.iconst 2, 1) := by decide +kernel
theorem dX7_villages_2 : decode cX7_villages 2 = .ok (.bipush 10, 2) := by decide +kernel
theorem dX7_villages_4 : decode cX7_villages 4 = .ok (.invokestatic 81, 3) := by decide +kernel
theorem dX7_villages_7 : decode cX7_villages 7 = .ok (.ifCond .ne 5, 3) := by decide +kernel
theorem dX7_villages_10 : decode cX7_villages 10 = .ok (.iconst (-1), 1) := by decide +kernel
theorem dX7_villages_11 : decode cX7_villages 11 = .ok (.ireturn, 1) := by decide +kernel
theorem dX7_villages_12 : decode cX7_villages 12 = .ok (.aload_n 0, 1) := by decide +kernel
theorem dX7_villages_13 : decode cX7_villages 13 = .ok (.getfield 19, 3) := by decide +kernel
theorem dX7_villages_16 : decode cX7_villages 16 = .ok (.istore_n 2, 1) := by decide +kernel
theorem dX7_villages_17 : decode cX7_villages 17 = .ok (.aload_n 0, 1) := by decide +kernel
theorem dX7_villages_18 : decode cX7_villages 18 = .ok (.iload_n 1, 1) := by decide +kernel
theorem dX7_villages_19 : decode cX7_villages 19 = .ok (.putfield 19, 3) := by decide +kernel
theorem dX7_villages_22 : decode cX7_villages 22 = .ok (.iload_n 2, 1) := by decide +kernel
theorem dX7_villages_23 : decode cX7_villages 23 = .ok (.ireturn, 1) := by decide +kernel
theorem dX7_at_0 : decode cX7_at 0 = .ok (.iload_n 1, 1) := by decide +kernel
theorem dX7_at_1 : decode cX7_at 1 = .ok (.ifCond .ge 7, 3) := by decide +kernel
theorem dX7_at_4 : decode cX7_at 4 = .ok (.iconst (-1), 1) := by decide +kernel
theorem dX7_at_5 : decode cX7_at 5 = .ok (.goto 6, 3) := by decide +kernel
theorem dX7_at_8 : decode cX7_at 8 = .ok (.aload_n 0, 1) := by decide +kernel
theorem dX7_at_9 : decode cX7_at 9 = .ok (.iload_n 1, 1) := by decide +kernel
theorem dX7_at_10 : decode cX7_at 10 = .ok (.iaload, 1) := by decide +kernel
theorem dX7_at_11 : decode cX7_at 11 = .ok (.ireturn, 1) := by decide +kernel
theorem dX7_saysBy_0 : decode cX7_saysBy 0 = .ok (.aload 6, 2) := by decide +kernel
theorem dX7_saysBy_2 : decode cX7_saysBy 2 = .ok (.iload 5, 2) := by decide +kernel
theorem dX7_saysBy_4 : decode cX7_saysBy 4 = .ok (.iload 4, 2) := by decide +kernel
theorem dX7_saysBy_6 : decode cX7_saysBy 6 = .ok (.isub, 1) := by decide +kernel
theorem dX7_saysBy_7 : decode cX7_saysBy 7 = .ok (.invokestatic 202, 3) := by decide +kernel
theorem dX7_saysBy_10 : decode cX7_saysBy 10 = .ok (.istore 7, 2) := by decide +kernel
theorem dX7_saysBy_12 : decode cX7_saysBy 12 = .ok (.iload_n 1, 1) := by decide +kernel
theorem dX7_saysBy_13 : decode cX7_saysBy 13 = .ok (.tableswitch 184 1 5 #[35, 67, 133, 47, 89], 35) := by decide +kernel
theorem dX7_saysBy_48 : decode cX7_saysBy 48 = .ok (.iload_n 2, 1) := by decide +kernel
theorem dX7_saysBy_49 : decode cX7_saysBy 49 = .ok (.iload 5, 2) := by decide +kernel
theorem dX7_saysBy_51 : decode cX7_saysBy 51 = .ok (.imul, 1) := by decide +kernel
theorem dX7_saysBy_52 : decode cX7_saysBy 52 = .ok (.iload_n 3, 1) := by decide +kernel
theorem dX7_saysBy_53 : decode cX7_saysBy 53 = .ok (.iadd, 1) := by decide +kernel
theorem dX7_saysBy_54 : decode cX7_saysBy 54 = .ok (.aload_n 0, 1) := by decide +kernel
theorem dX7_saysBy_55 : decode cX7_saysBy 55 = .ok (.getfield 19, 3) := by decide +kernel
theorem dX7_saysBy_58 : decode cX7_saysBy 58 = .ok (.irem, 1) := by decide +kernel
theorem dX7_saysBy_59 : decode cX7_saysBy 59 = .ok (.ireturn, 1) := by decide +kernel
theorem dX7_saysBy_60 : decode cX7_saysBy 60 = .ok (.iload_n 2, 1) := by decide +kernel
theorem dX7_saysBy_61 : decode cX7_saysBy 61 = .ok (.iload 5, 2) := by decide +kernel
theorem dX7_saysBy_63 : decode cX7_saysBy 63 = .ok (.imul, 1) := by decide +kernel
theorem dX7_saysBy_64 : decode cX7_saysBy 64 = .ok (.iload_n 3, 1) := by decide +kernel
theorem dX7_saysBy_65 : decode cX7_saysBy 65 = .ok (.iadd, 1) := by decide +kernel
theorem dX7_saysBy_66 : decode cX7_saysBy 66 = .ok (.aload_n 0, 1) := by decide +kernel
theorem dX7_saysBy_67 : decode cX7_saysBy 67 = .ok (.getfield 16, 3) := by decide +kernel
theorem dX7_saysBy_70 : decode cX7_saysBy 70 = .ok (.iload 5, 2) := by decide +kernel
theorem dX7_saysBy_72 : decode cX7_saysBy 72 = .ok (.iaload, 1) := by decide +kernel
theorem dX7_saysBy_73 : decode cX7_saysBy 73 = .ok (.iadd, 1) := by decide +kernel
theorem dX7_saysBy_74 : decode cX7_saysBy 74 = .ok (.aload_n 0, 1) := by decide +kernel
theorem dX7_saysBy_75 : decode cX7_saysBy 75 = .ok (.getfield 19, 3) := by decide +kernel
theorem dX7_saysBy_78 : decode cX7_saysBy 78 = .ok (.irem, 1) := by decide +kernel
theorem dX7_saysBy_79 : decode cX7_saysBy 79 = .ok (.ireturn, 1) := by decide +kernel
theorem dX7_saysBy_80 : decode cX7_saysBy 80 = .ok (.iload 7, 2) := by decide +kernel
theorem dX7_saysBy_82 : decode cX7_saysBy 82 = .ok (.ifCond .ge 8, 3) := by decide +kernel
theorem dX7_saysBy_85 : decode cX7_saysBy 85 = .ok (.bipush (-9), 2) := by decide +kernel
theorem dX7_saysBy_87 : decode cX7_saysBy 87 = .ok (.goto 14, 3) := by decide +kernel
theorem dX7_saysBy_90 : decode cX7_saysBy 90 = .ok (.iload_n 2, 1) := by decide +kernel
theorem dX7_saysBy_91 : decode cX7_saysBy 91 = .ok (.iload 7, 2) := by decide +kernel
theorem dX7_saysBy_93 : decode cX7_saysBy 93 = .ok (.imul, 1) := by decide +kernel
theorem dX7_saysBy_94 : decode cX7_saysBy 94 = .ok (.iload_n 3, 1) := by decide +kernel
theorem dX7_saysBy_95 : decode cX7_saysBy 95 = .ok (.iadd, 1) := by decide +kernel
theorem dX7_saysBy_96 : decode cX7_saysBy 96 = .ok (.aload_n 0, 1) := by decide +kernel
theorem dX7_saysBy_97 : decode cX7_saysBy 97 = .ok (.getfield 19, 3) := by decide +kernel
theorem dX7_saysBy_100 : decode cX7_saysBy 100 = .ok (.irem, 1) := by decide +kernel
theorem dX7_saysBy_101 : decode cX7_saysBy 101 = .ok (.ireturn, 1) := by decide +kernel
theorem dX7_saysBy_102 : decode cX7_saysBy 102 = .ok (.iload 7, 2) := by decide +kernel
theorem dX7_saysBy_104 : decode cX7_saysBy 104 = .ok (.ifCond .lt 15, 3) := by decide +kernel
theorem dX7_saysBy_107 : decode cX7_saysBy 107 = .ok (.aload 6, 2) := by decide +kernel
theorem dX7_saysBy_109 : decode cX7_saysBy 109 = .ok (.iload 5, 2) := by decide +kernel
theorem dX7_saysBy_111 : decode cX7_saysBy 111 = .ok (.iconst 1, 1) := by decide +kernel
theorem dX7_saysBy_112 : decode cX7_saysBy 112 = .ok (.isub, 1) := by decide +kernel
theorem dX7_saysBy_113 : decode cX7_saysBy 113 = .ok (.invokestatic 202, 3) := by decide +kernel
theorem dX7_saysBy_116 : decode cX7_saysBy 116 = .ok (.ifCond .ge 8, 3) := by decide +kernel
theorem dX7_saysBy_119 : decode cX7_saysBy 119 = .ok (.bipush (-9), 2) := by decide +kernel
theorem dX7_saysBy_121 : decode cX7_saysBy 121 = .ok (.goto 24, 3) := by decide +kernel
theorem dX7_saysBy_124 : decode cX7_saysBy 124 = .ok (.iload_n 2, 1) := by decide +kernel
theorem dX7_saysBy_125 : decode cX7_saysBy 125 = .ok (.iload 7, 2) := by decide +kernel
theorem dX7_saysBy_127 : decode cX7_saysBy 127 = .ok (.imul, 1) := by decide +kernel
theorem dX7_saysBy_128 : decode cX7_saysBy 128 = .ok (.iload_n 3, 1) := by decide +kernel
theorem dX7_saysBy_129 : decode cX7_saysBy 129 = .ok (.iadd, 1) := by decide +kernel
theorem dX7_saysBy_130 : decode cX7_saysBy 130 = .ok (.aload 6, 2) := by decide +kernel
theorem dX7_saysBy_132 : decode cX7_saysBy 132 = .ok (.iload 5, 2) := by decide +kernel
theorem dX7_saysBy_134 : decode cX7_saysBy 134 = .ok (.iconst 1, 1) := by decide +kernel
theorem dX7_saysBy_135 : decode cX7_saysBy 135 = .ok (.isub, 1) := by decide +kernel
theorem dX7_saysBy_136 : decode cX7_saysBy 136 = .ok (.invokestatic 202, 3) := by decide +kernel
theorem dX7_saysBy_139 : decode cX7_saysBy 139 = .ok (.iadd, 1) := by decide +kernel
theorem dX7_saysBy_140 : decode cX7_saysBy 140 = .ok (.aload_n 0, 1) := by decide +kernel
theorem dX7_saysBy_141 : decode cX7_saysBy 141 = .ok (.getfield 19, 3) := by decide +kernel
theorem dX7_saysBy_144 : decode cX7_saysBy 144 = .ok (.irem, 1) := by decide +kernel
theorem dX7_saysBy_145 : decode cX7_saysBy 145 = .ok (.ireturn, 1) := by decide +kernel
theorem dX7_saysBy_146 : decode cX7_saysBy 146 = .ok (.iload 5, 2) := by decide +kernel
theorem dX7_saysBy_148 : decode cX7_saysBy 148 = .ok (.iload 4, 2) := by decide +kernel
theorem dX7_saysBy_150 : decode cX7_saysBy 150 = .ok (.isub, 1) := by decide +kernel
theorem dX7_saysBy_151 : decode cX7_saysBy 151 = .ok (.istore 8, 2) := by decide +kernel
theorem dX7_saysBy_153 : decode cX7_saysBy 153 = .ok (.iload 8, 2) := by decide +kernel
theorem dX7_saysBy_155 : decode cX7_saysBy 155 = .ok (.ifCond .lt 21, 3) := by decide +kernel
theorem dX7_saysBy_158 : decode cX7_saysBy 158 = .ok (.aload 6, 2) := by decide +kernel
theorem dX7_saysBy_160 : decode cX7_saysBy 160 = .ok (.iload 8, 2) := by decide +kernel
theorem dX7_saysBy_162 : decode cX7_saysBy 162 = .ok (.iaload, 1) := by decide +kernel
theorem dX7_saysBy_163 : decode cX7_saysBy 163 = .ok (.ifCond .ge 13, 3) := by decide +kernel
theorem dX7_saysBy_166 : decode cX7_saysBy 166 = .ok (.iload 8, 2) := by decide +kernel
theorem dX7_saysBy_168 : decode cX7_saysBy 168 = .ok (.iload 4, 2) := by decide +kernel
theorem dX7_saysBy_170 : decode cX7_saysBy 170 = .ok (.isub, 1) := by decide +kernel
theorem dX7_saysBy_171 : decode cX7_saysBy 171 = .ok (.istore 8, 2) := by decide +kernel
theorem dX7_saysBy_173 : decode cX7_saysBy 173 = .ok (.goto (-20), 3) := by decide +kernel
theorem dX7_saysBy_176 : decode cX7_saysBy 176 = .ok (.iload 8, 2) := by decide +kernel
theorem dX7_saysBy_178 : decode cX7_saysBy 178 = .ok (.ifCond .ge 8, 3) := by decide +kernel
theorem dX7_saysBy_181 : decode cX7_saysBy 181 = .ok (.bipush (-9), 2) := by decide +kernel
theorem dX7_saysBy_183 : decode cX7_saysBy 183 = .ok (.goto 13, 3) := by decide +kernel
theorem dX7_saysBy_186 : decode cX7_saysBy 186 = .ok (.aload 6, 2) := by decide +kernel
theorem dX7_saysBy_188 : decode cX7_saysBy 188 = .ok (.iload 8, 2) := by decide +kernel
theorem dX7_saysBy_190 : decode cX7_saysBy 190 = .ok (.iaload, 1) := by decide +kernel
theorem dX7_saysBy_191 : decode cX7_saysBy 191 = .ok (.aload_n 0, 1) := by decide +kernel
theorem dX7_saysBy_192 : decode cX7_saysBy 192 = .ok (.getfield 19, 3) := by decide +kernel
theorem dX7_saysBy_195 : decode cX7_saysBy 195 = .ok (.irem, 1) := by decide +kernel
theorem dX7_saysBy_196 : decode cX7_saysBy 196 = .ok (.ireturn, 1) := by decide +kernel
theorem dX7_saysBy_197 : decode cX7_saysBy 197 = .ok (.iload_n 3, 1) := by decide +kernel
theorem dX7_saysBy_198 : decode cX7_saysBy 198 = .ok (.aload_n 0, 1) := by decide +kernel
theorem dX7_saysBy_199 : decode cX7_saysBy 199 = .ok (.getfield 19, 3) := by decide +kernel
theorem dX7_saysBy_202 : decode cX7_saysBy 202 = .ok (.irem, 1) := by decide +kernel
theorem dX7_saysBy_203 : decode cX7_saysBy 203 = .ok (.ireturn, 1) := by decide +kernel
theorem dX7_wordsOf_0 : decode cX7_wordsOf 0 = .ok (.iconst 1, 1) := by decide +kernel
theorem dX7_wordsOf_1 : decode cX7_wordsOf 1 = .ok (.iload_n 0, 1) := by decide +kernel
theorem dX7_wordsOf_2 : decode cX7_wordsOf 2 = .ok (.ifCond .eq 7, 3) := by decide +kernel
theorem dX7_wordsOf_5 : decode cX7_wordsOf 5 = .ok (.iconst 1, 1) := by decide +kernel
theorem dX7_wordsOf_6 : decode cX7_wordsOf 6 = .ok (.goto 4, 3) := by decide +kernel
theorem dX7_wordsOf_9 : decode cX7_wordsOf 9 = .ok (.iconst 0, 1) := by decide +kernel
theorem dX7_wordsOf_10 : decode cX7_wordsOf 10 = .ok (.iadd, 1) := by decide +kernel
theorem dX7_wordsOf_11 : decode cX7_wordsOf 11 = .ok (.iload_n 1, 1) := by decide +kernel
theorem dX7_wordsOf_12 : decode cX7_wordsOf 12 = .ok (.ifCond .eq 7, 3) := by decide +kernel
theorem dX7_wordsOf_15 : decode cX7_wordsOf 15 = .ok (.iconst 1, 1) := by decide +kernel
theorem dX7_wordsOf_16 : decode cX7_wordsOf 16 = .ok (.goto 4, 3) := by decide +kernel
theorem dX7_wordsOf_19 : decode cX7_wordsOf 19 = .ok (.iconst 0, 1) := by decide +kernel
theorem dX7_wordsOf_20 : decode cX7_wordsOf 20 = .ok (.iadd, 1) := by decide +kernel
theorem dX7_wordsOf_21 : decode cX7_wordsOf 21 = .ok (.iload_n 2, 1) := by decide +kernel
theorem dX7_wordsOf_22 : decode cX7_wordsOf 22 = .ok (.iconst 1, 1) := by decide +kernel
theorem dX7_wordsOf_23 : decode cX7_wordsOf 23 = .ok (.if_icmp .eq 7, 3) := by decide +kernel
theorem dX7_wordsOf_26 : decode cX7_wordsOf 26 = .ok (.iconst 1, 1) := by decide +kernel
theorem dX7_wordsOf_27 : decode cX7_wordsOf 27 = .ok (.goto 4, 3) := by decide +kernel
theorem dX7_wordsOf_30 : decode cX7_wordsOf 30 = .ok (.iconst 0, 1) := by decide +kernel
theorem dX7_wordsOf_31 : decode cX7_wordsOf 31 = .ok (.iadd, 1) := by decide +kernel
theorem dX7_wordsOf_32 : decode cX7_wordsOf 32 = .ok (.ireturn, 1) := by decide +kernel
theorem dX7_missesOf_0 : decode cX7_missesOf 0 = .ok (.iconst 0, 1) := by decide +kernel
theorem dX7_missesOf_1 : decode cX7_missesOf 1 = .ok (.istore 5, 2) := by decide +kernel
theorem dX7_missesOf_3 : decode cX7_missesOf 3 = .ok (.iconst 0, 1) := by decide +kernel
theorem dX7_missesOf_4 : decode cX7_missesOf 4 = .ok (.istore 6, 2) := by decide +kernel
theorem dX7_missesOf_6 : decode cX7_missesOf 6 = .ok (.iload 6, 2) := by decide +kernel
theorem dX7_missesOf_8 : decode cX7_missesOf 8 = .ok (.bipush 24, 2) := by decide +kernel
theorem dX7_missesOf_10 : decode cX7_missesOf 10 = .ok (.if_icmp .ge 54, 3) := by decide +kernel
theorem dX7_missesOf_13 : decode cX7_missesOf 13 = .ok (.aload_n 0, 1) := by decide +kernel
theorem dX7_missesOf_14 : decode cX7_missesOf 14 = .ok (.getfield 7, 3) := by decide +kernel
theorem dX7_missesOf_17 : decode cX7_missesOf 17 = .ok (.iload 6, 2) := by decide +kernel
theorem dX7_missesOf_19 : decode cX7_missesOf 19 = .ok (.iaload, 1) := by decide +kernel
theorem dX7_missesOf_20 : decode cX7_missesOf 20 = .ok (.ifCond .lt 38, 3) := by decide +kernel
theorem dX7_missesOf_23 : decode cX7_missesOf 23 = .ok (.iload 5, 2) := by decide +kernel
theorem dX7_missesOf_25 : decode cX7_missesOf 25 = .ok (.aload_n 0, 1) := by decide +kernel
theorem dX7_missesOf_26 : decode cX7_missesOf 26 = .ok (.iload_n 1, 1) := by decide +kernel
theorem dX7_missesOf_27 : decode cX7_missesOf 27 = .ok (.iload_n 2, 1) := by decide +kernel
theorem dX7_missesOf_28 : decode cX7_missesOf 28 = .ok (.iload_n 3, 1) := by decide +kernel
theorem dX7_missesOf_29 : decode cX7_missesOf 29 = .ok (.iload 4, 2) := by decide +kernel
theorem dX7_missesOf_31 : decode cX7_missesOf 31 = .ok (.iload 6, 2) := by decide +kernel
theorem dX7_missesOf_33 : decode cX7_missesOf 33 = .ok (.aload_n 0, 1) := by decide +kernel
theorem dX7_missesOf_34 : decode cX7_missesOf 34 = .ok (.getfield 7, 3) := by decide +kernel
theorem dX7_missesOf_37 : decode cX7_missesOf 37 = .ok (.invokevirtual 206, 3) := by decide +kernel
theorem dX7_missesOf_40 : decode cX7_missesOf 40 = .ok (.aload_n 0, 1) := by decide +kernel
theorem dX7_missesOf_41 : decode cX7_missesOf 41 = .ok (.getfield 7, 3) := by decide +kernel
theorem dX7_missesOf_44 : decode cX7_missesOf 44 = .ok (.iload 6, 2) := by decide +kernel
theorem dX7_missesOf_46 : decode cX7_missesOf 46 = .ok (.iaload, 1) := by decide +kernel
theorem dX7_missesOf_47 : decode cX7_missesOf 47 = .ok (.if_icmp .ne 7, 3) := by decide +kernel
theorem dX7_missesOf_50 : decode cX7_missesOf 50 = .ok (.iconst 0, 1) := by decide +kernel
theorem dX7_missesOf_51 : decode cX7_missesOf 51 = .ok (.goto 4, 3) := by decide +kernel
theorem dX7_missesOf_54 : decode cX7_missesOf 54 = .ok (.iconst 1, 1) := by decide +kernel
theorem dX7_missesOf_55 : decode cX7_missesOf 55 = .ok (.iadd, 1) := by decide +kernel
theorem dX7_missesOf_56 : decode cX7_missesOf 56 = .ok (.istore 5, 2) := by decide +kernel
theorem dX7_missesOf_58 : decode cX7_missesOf 58 = .ok (.iinc 6 1, 3) := by decide +kernel
theorem dX7_missesOf_61 : decode cX7_missesOf 61 = .ok (.goto (-55), 3) := by decide +kernel
theorem dX7_missesOf_64 : decode cX7_missesOf 64 = .ok (.iload 5, 2) := by decide +kernel
theorem dX7_missesOf_66 : decode cX7_missesOf 66 = .ok (.ireturn, 1) := by decide +kernel
theorem dX7_hold_0 : decode cX7_hold 0 = .ok (.iload_n 1, 1) := by decide +kernel
theorem dX7_hold_1 : decode cX7_hold 1 = .ok (.iconst 0, 1) := by decide +kernel
theorem dX7_hold_2 : decode cX7_hold 2 = .ok (.iconst 5, 1) := by decide +kernel
theorem dX7_hold_3 : decode cX7_hold 3 = .ok (.invokestatic 81, 3) := by decide +kernel
theorem dX7_hold_6 : decode cX7_hold 6 = .ok (.ifCond .eq 31, 3) := by decide +kernel
theorem dX7_hold_9 : decode cX7_hold 9 = .ok (.iload_n 2, 1) := by decide +kernel
theorem dX7_hold_10 : decode cX7_hold 10 = .ok (.iconst 0, 1) := by decide +kernel
theorem dX7_hold_11 : decode cX7_hold 11 = .ok (.iconst 4, 1) := by decide +kernel
theorem dX7_hold_12 : decode cX7_hold 12 = .ok (.invokestatic 81, 3) := by decide +kernel
theorem dX7_hold_15 : decode cX7_hold 15 = .ok (.ifCond .eq 22, 3) := by decide +kernel
theorem dX7_hold_18 : decode cX7_hold 18 = .ok (.iload_n 3, 1) := by decide +kernel
theorem dX7_hold_19 : decode cX7_hold 19 = .ok (.iconst 0, 1) := by decide +kernel
theorem dX7_hold_20 : decode cX7_hold 20 = .ok (.iconst 4, 1) := by decide +kernel
theorem dX7_hold_21 : decode cX7_hold 21 = .ok (.invokestatic 81, 3) := by decide +kernel
theorem dX7_hold_24 : decode cX7_hold 24 = .ok (.ifCond .eq 13, 3) := by decide +kernel
theorem dX7_hold_27 : decode cX7_hold 27 = .ok (.iload 4, 2) := by decide +kernel
theorem dX7_hold_29 : decode cX7_hold 29 = .ok (.iconst 1, 1) := by decide +kernel
theorem dX7_hold_30 : decode cX7_hold 30 = .ok (.iconst 4, 1) := by decide +kernel
theorem dX7_hold_31 : decode cX7_hold 31 = .ok (.invokestatic 81, 3) := by decide +kernel
theorem dX7_hold_34 : decode cX7_hold 34 = .ok (.ifCond .ne 5, 3) := by decide +kernel
theorem dX7_hold_37 : decode cX7_hold 37 = .ok (.iconst (-1), 1) := by decide +kernel
theorem dX7_hold_38 : decode cX7_hold 38 = .ok (.ireturn, 1) := by decide +kernel
theorem dX7_hold_39 : decode cX7_hold 39 = .ok (.aload_n 0, 1) := by decide +kernel
theorem dX7_hold_40 : decode cX7_hold 40 = .ok (.getfield 85, 3) := by decide +kernel
theorem dX7_hold_43 : decode cX7_hold 43 = .ok (.bipush 6, 2) := by decide +kernel
theorem dX7_hold_45 : decode cX7_hold 45 = .ok (.if_icmp .ne 6, 3) := by decide +kernel
theorem dX7_hold_48 : decode cX7_hold 48 = .ok (.bipush (-2), 2) := by decide +kernel
theorem dX7_hold_50 : decode cX7_hold 50 = .ok (.ireturn, 1) := by decide +kernel
theorem dX7_hold_51 : decode cX7_hold 51 = .ok (.aload_n 0, 1) := by decide +kernel
theorem dX7_hold_52 : decode cX7_hold 52 = .ok (.getfield 23, 3) := by decide +kernel
theorem dX7_hold_55 : decode cX7_hold 55 = .ok (.iconst 4, 1) := by decide +kernel
theorem dX7_hold_56 : decode cX7_hold 56 = .ok (.aload_n 0, 1) := by decide +kernel
theorem dX7_hold_57 : decode cX7_hold 57 = .ok (.getfield 85, 3) := by decide +kernel
theorem dX7_hold_60 : decode cX7_hold 60 = .ok (.imul, 1) := by decide +kernel
theorem dX7_hold_61 : decode cX7_hold 61 = .ok (.iload_n 1, 1) := by decide +kernel
theorem dX7_hold_62 : decode cX7_hold 62 = .ok (.iastore, 1) := by decide +kernel
theorem dX7_hold_63 : decode cX7_hold 63 = .ok (.aload_n 0, 1) := by decide +kernel
theorem dX7_hold_64 : decode cX7_hold 64 = .ok (.getfield 23, 3) := by decide +kernel
theorem dX7_hold_67 : decode cX7_hold 67 = .ok (.iconst 4, 1) := by decide +kernel
theorem dX7_hold_68 : decode cX7_hold 68 = .ok (.aload_n 0, 1) := by decide +kernel
theorem dX7_hold_69 : decode cX7_hold 69 = .ok (.getfield 85, 3) := by decide +kernel
theorem dX7_hold_72 : decode cX7_hold 72 = .ok (.imul, 1) := by decide +kernel
theorem dX7_hold_73 : decode cX7_hold 73 = .ok (.iconst 1, 1) := by decide +kernel
theorem dX7_hold_74 : decode cX7_hold 74 = .ok (.iadd, 1) := by decide +kernel
theorem dX7_hold_75 : decode cX7_hold 75 = .ok (.iload_n 2, 1) := by decide +kernel
theorem dX7_hold_76 : decode cX7_hold 76 = .ok (.iastore, 1) := by decide +kernel
theorem dX7_hold_77 : decode cX7_hold 77 = .ok (.aload_n 0, 1) := by decide +kernel
theorem dX7_hold_78 : decode cX7_hold 78 = .ok (.getfield 23, 3) := by decide +kernel
theorem dX7_hold_81 : decode cX7_hold 81 = .ok (.iconst 4, 1) := by decide +kernel
theorem dX7_hold_82 : decode cX7_hold 82 = .ok (.aload_n 0, 1) := by decide +kernel
theorem dX7_hold_83 : decode cX7_hold 83 = .ok (.getfield 85, 3) := by decide +kernel
theorem dX7_hold_86 : decode cX7_hold 86 = .ok (.imul, 1) := by decide +kernel
theorem dX7_hold_87 : decode cX7_hold 87 = .ok (.iconst 2, 1) := by decide +kernel
theorem dX7_hold_88 : decode cX7_hold 88 = .ok (.iadd, 1) := by decide +kernel
theorem dX7_hold_89 : decode cX7_hold 89 = .ok (.iload_n 3, 1) := by decide +kernel
theorem dX7_hold_90 : decode cX7_hold 90 = .ok (.iastore, 1) := by decide +kernel
theorem dX7_hold_91 : decode cX7_hold 91 = .ok (.aload_n 0, 1) := by decide +kernel
theorem dX7_hold_92 : decode cX7_hold 92 = .ok (.getfield 23, 3) := by decide +kernel
theorem dX7_hold_95 : decode cX7_hold 95 = .ok (.iconst 4, 1) := by decide +kernel
theorem dX7_hold_96 : decode cX7_hold 96 = .ok (.aload_n 0, 1) := by decide +kernel
theorem dX7_hold_97 : decode cX7_hold 97 = .ok (.getfield 85, 3) := by decide +kernel
theorem dX7_hold_100 : decode cX7_hold 100 = .ok (.imul, 1) := by decide +kernel
theorem dX7_hold_101 : decode cX7_hold 101 = .ok (.iconst 3, 1) := by decide +kernel
theorem dX7_hold_102 : decode cX7_hold 102 = .ok (.iadd, 1) := by decide +kernel
theorem dX7_hold_103 : decode cX7_hold 103 = .ok (.iload 4, 2) := by decide +kernel
theorem dX7_hold_105 : decode cX7_hold 105 = .ok (.iastore, 1) := by decide +kernel
theorem dX7_hold_106 : decode cX7_hold 106 = .ok (.aload_n 0, 1) := by decide +kernel
theorem dX7_hold_107 : decode cX7_hold 107 = .ok (.dup, 1) := by decide +kernel
theorem dX7_hold_108 : decode cX7_hold 108 = .ok (.getfield 85, 3) := by decide +kernel
theorem dX7_hold_111 : decode cX7_hold 111 = .ok (.iconst 1, 1) := by decide +kernel
theorem dX7_hold_112 : decode cX7_hold 112 = .ok (.iadd, 1) := by decide +kernel
theorem dX7_hold_113 : decode cX7_hold 113 = .ok (.putfield 85, 3) := by decide +kernel
theorem dX7_hold_116 : decode cX7_hold 116 = .ok (.aload_n 0, 1) := by decide +kernel
theorem dX7_hold_117 : decode cX7_hold 117 = .ok (.getfield 85, 3) := by decide +kernel
theorem dX7_hold_120 : decode cX7_hold 120 = .ok (.iconst 1, 1) := by decide +kernel
theorem dX7_hold_121 : decode cX7_hold 121 = .ok (.isub, 1) := by decide +kernel
theorem dX7_hold_122 : decode cX7_hold 122 = .ok (.ireturn, 1) := by decide +kernel
theorem dX7_of_0 : decode cX7_of 0 = .ok (.aload_n 0, 1) := by decide +kernel
theorem dX7_of_1 : decode cX7_of 1 = .ok (.getfield 23, 3) := by decide +kernel
theorem dX7_of_4 : decode cX7_of 4 = .ok (.iconst 4, 1) := by decide +kernel
theorem dX7_of_5 : decode cX7_of 5 = .ok (.iload_n 1, 1) := by decide +kernel
theorem dX7_of_6 : decode cX7_of 6 = .ok (.imul, 1) := by decide +kernel
theorem dX7_of_7 : decode cX7_of 7 = .ok (.iload_n 2, 1) := by decide +kernel
theorem dX7_of_8 : decode cX7_of 8 = .ok (.iadd, 1) := by decide +kernel
theorem dX7_of_9 : decode cX7_of 9 = .ok (.iaload, 1) := by decide +kernel
theorem dX7_of_10 : decode cX7_of 10 = .ok (.ireturn, 1) := by decide +kernel
theorem dX7_ruleOf_0 : decode cX7_ruleOf 0 = .ok (.aload_n 0, 1) := by decide +kernel
theorem dX7_ruleOf_1 : decode cX7_ruleOf 1 = .ok (.iload_n 1, 1) := by decide +kernel
theorem dX7_ruleOf_2 : decode cX7_ruleOf 2 = .ok (.invokevirtual 210, 3) := by decide +kernel
theorem dX7_ruleOf_5 : decode cX7_ruleOf 5 = .ok (.ifCond .eq 12, 3) := by decide +kernel
theorem dX7_ruleOf_8 : decode cX7_ruleOf 8 = .ok (.iload_n 2, 1) := by decide +kernel
theorem dX7_ruleOf_9 : decode cX7_ruleOf 9 = .ok (.iconst 0, 1) := by decide +kernel
theorem dX7_ruleOf_10 : decode cX7_ruleOf 10 = .ok (.iconst 5, 1) := by decide +kernel
theorem dX7_ruleOf_11 : decode cX7_ruleOf 11 = .ok (.invokestatic 81, 3) := by decide +kernel
theorem dX7_ruleOf_14 : decode cX7_ruleOf 14 = .ok (.ifCond .ne 5, 3) := by decide +kernel
theorem dX7_ruleOf_17 : decode cX7_ruleOf 17 = .ok (.iconst (-1), 1) := by decide +kernel
theorem dX7_ruleOf_18 : decode cX7_ruleOf 18 = .ok (.ireturn, 1) := by decide +kernel
theorem dX7_ruleOf_19 : decode cX7_ruleOf 19 = .ok (.iload_n 2, 1) := by decide +kernel
theorem dX7_ruleOf_20 : decode cX7_ruleOf 20 = .ok (.iconst 4, 1) := by decide +kernel
theorem dX7_ruleOf_21 : decode cX7_ruleOf 21 = .ok (.if_icmp .ge 12, 3) := by decide +kernel
theorem dX7_ruleOf_24 : decode cX7_ruleOf 24 = .ok (.aload_n 0, 1) := by decide +kernel
theorem dX7_ruleOf_25 : decode cX7_ruleOf 25 = .ok (.iload_n 1, 1) := by decide +kernel
theorem dX7_ruleOf_26 : decode cX7_ruleOf 26 = .ok (.iload_n 2, 1) := by decide +kernel
theorem dX7_ruleOf_27 : decode cX7_ruleOf 27 = .ok (.invokevirtual 213, 3) := by decide +kernel
theorem dX7_ruleOf_30 : decode cX7_ruleOf 30 = .ok (.goto 60, 3) := by decide +kernel
theorem dX7_ruleOf_33 : decode cX7_ruleOf 33 = .ok (.iload_n 2, 1) := by decide +kernel
theorem dX7_ruleOf_34 : decode cX7_ruleOf 34 = .ok (.iconst 4, 1) := by decide +kernel
theorem dX7_ruleOf_35 : decode cX7_ruleOf 35 = .ok (.if_icmp .ne 27, 3) := by decide +kernel
theorem dX7_ruleOf_38 : decode cX7_ruleOf 38 = .ok (.aload_n 0, 1) := by decide +kernel
theorem dX7_ruleOf_39 : decode cX7_ruleOf 39 = .ok (.iload_n 1, 1) := by decide +kernel
theorem dX7_ruleOf_40 : decode cX7_ruleOf 40 = .ok (.iconst 1, 1) := by decide +kernel
theorem dX7_ruleOf_41 : decode cX7_ruleOf 41 = .ok (.invokevirtual 213, 3) := by decide +kernel
theorem dX7_ruleOf_44 : decode cX7_ruleOf 44 = .ok (.aload_n 0, 1) := by decide +kernel
theorem dX7_ruleOf_45 : decode cX7_ruleOf 45 = .ok (.iload_n 1, 1) := by decide +kernel
theorem dX7_ruleOf_46 : decode cX7_ruleOf 46 = .ok (.iconst 2, 1) := by decide +kernel
theorem dX7_ruleOf_47 : decode cX7_ruleOf 47 = .ok (.invokevirtual 213, 3) := by decide +kernel
theorem dX7_ruleOf_50 : decode cX7_ruleOf 50 = .ok (.aload_n 0, 1) := by decide +kernel
theorem dX7_ruleOf_51 : decode cX7_ruleOf 51 = .ok (.iload_n 1, 1) := by decide +kernel
theorem dX7_ruleOf_52 : decode cX7_ruleOf 52 = .ok (.iconst 3, 1) := by decide +kernel
theorem dX7_ruleOf_53 : decode cX7_ruleOf 53 = .ok (.invokevirtual 213, 3) := by decide +kernel
theorem dX7_ruleOf_56 : decode cX7_ruleOf 56 = .ok (.invokestatic 216, 3) := by decide +kernel
theorem dX7_ruleOf_59 : decode cX7_ruleOf 59 = .ok (.goto 31, 3) := by decide +kernel
theorem dX7_ruleOf_62 : decode cX7_ruleOf 62 = .ok (.aload_n 0, 1) := by decide +kernel
theorem dX7_ruleOf_63 : decode cX7_ruleOf 63 = .ok (.aload_n 0, 1) := by decide +kernel
theorem dX7_ruleOf_64 : decode cX7_ruleOf 64 = .ok (.iload_n 1, 1) := by decide +kernel
theorem dX7_ruleOf_65 : decode cX7_ruleOf 65 = .ok (.iconst 0, 1) := by decide +kernel
theorem dX7_ruleOf_66 : decode cX7_ruleOf 66 = .ok (.invokevirtual 213, 3) := by decide +kernel
theorem dX7_ruleOf_69 : decode cX7_ruleOf 69 = .ok (.aload_n 0, 1) := by decide +kernel
theorem dX7_ruleOf_70 : decode cX7_ruleOf 70 = .ok (.iload_n 1, 1) := by decide +kernel
theorem dX7_ruleOf_71 : decode cX7_ruleOf 71 = .ok (.iconst 1, 1) := by decide +kernel
theorem dX7_ruleOf_72 : decode cX7_ruleOf 72 = .ok (.invokevirtual 213, 3) := by decide +kernel
theorem dX7_ruleOf_75 : decode cX7_ruleOf 75 = .ok (.aload_n 0, 1) := by decide +kernel
theorem dX7_ruleOf_76 : decode cX7_ruleOf 76 = .ok (.iload_n 1, 1) := by decide +kernel
theorem dX7_ruleOf_77 : decode cX7_ruleOf 77 = .ok (.iconst 2, 1) := by decide +kernel
theorem dX7_ruleOf_78 : decode cX7_ruleOf 78 = .ok (.invokevirtual 213, 3) := by decide +kernel
theorem dX7_ruleOf_81 : decode cX7_ruleOf 81 = .ok (.aload_n 0, 1) := by decide +kernel
theorem dX7_ruleOf_82 : decode cX7_ruleOf 82 = .ok (.iload_n 1, 1) := by decide +kernel
theorem dX7_ruleOf_83 : decode cX7_ruleOf 83 = .ok (.iconst 3, 1) := by decide +kernel
theorem dX7_ruleOf_84 : decode cX7_ruleOf 84 = .ok (.invokevirtual 213, 3) := by decide +kernel
theorem dX7_ruleOf_87 : decode cX7_ruleOf 87 = .ok (.invokevirtual 220, 3) := by decide +kernel
theorem dX7_ruleOf_90 : decode cX7_ruleOf 90 = .ok (.ireturn, 1) := by decide +kernel
theorem dX7_drop_0 : decode cX7_drop 0 = .ok (.aload_n 0, 1) := by decide +kernel
theorem dX7_drop_1 : decode cX7_drop 1 = .ok (.iload_n 1, 1) := by decide +kernel
theorem dX7_drop_2 : decode cX7_drop 2 = .ok (.invokevirtual 210, 3) := by decide +kernel
theorem dX7_drop_5 : decode cX7_drop 5 = .ok (.ifCond .ne 5, 3) := by decide +kernel
theorem dX7_drop_8 : decode cX7_drop 8 = .ok (.iconst (-1), 1) := by decide +kernel
theorem dX7_drop_9 : decode cX7_drop 9 = .ok (.ireturn, 1) := by decide +kernel
theorem dX7_drop_10 : decode cX7_drop 10 = .ok (.aload_n 0, 1) := by decide +kernel
theorem dX7_drop_11 : decode cX7_drop 11 = .ok (.dup, 1) := by decide +kernel
theorem dX7_drop_12 : decode cX7_drop 12 = .ok (.getfield 85, 3) := by decide +kernel
theorem dX7_drop_15 : decode cX7_drop 15 = .ok (.iconst 1, 1) := by decide +kernel
theorem dX7_drop_16 : decode cX7_drop 16 = .ok (.isub, 1) := by decide +kernel
theorem dX7_drop_17 : decode cX7_drop 17 = .ok (.putfield 85, 3) := by decide +kernel
theorem dX7_drop_20 : decode cX7_drop 20 = .ok (.iconst 4, 1) := by decide +kernel
theorem dX7_drop_21 : decode cX7_drop 21 = .ok (.iload_n 1, 1) := by decide +kernel
theorem dX7_drop_22 : decode cX7_drop 22 = .ok (.imul, 1) := by decide +kernel
theorem dX7_drop_23 : decode cX7_drop 23 = .ok (.istore_n 2, 1) := by decide +kernel
theorem dX7_drop_24 : decode cX7_drop 24 = .ok (.iload_n 2, 1) := by decide +kernel
theorem dX7_drop_25 : decode cX7_drop 25 = .ok (.iconst 4, 1) := by decide +kernel
theorem dX7_drop_26 : decode cX7_drop 26 = .ok (.aload_n 0, 1) := by decide +kernel
theorem dX7_drop_27 : decode cX7_drop 27 = .ok (.getfield 85, 3) := by decide +kernel
theorem dX7_drop_30 : decode cX7_drop 30 = .ok (.imul, 1) := by decide +kernel
theorem dX7_drop_31 : decode cX7_drop 31 = .ok (.if_icmp .ge 23, 3) := by decide +kernel
theorem dX7_drop_34 : decode cX7_drop 34 = .ok (.aload_n 0, 1) := by decide +kernel
theorem dX7_drop_35 : decode cX7_drop 35 = .ok (.getfield 23, 3) := by decide +kernel
theorem dX7_drop_38 : decode cX7_drop 38 = .ok (.iload_n 2, 1) := by decide +kernel
theorem dX7_drop_39 : decode cX7_drop 39 = .ok (.aload_n 0, 1) := by decide +kernel
theorem dX7_drop_40 : decode cX7_drop 40 = .ok (.getfield 23, 3) := by decide +kernel
theorem dX7_drop_43 : decode cX7_drop 43 = .ok (.iload_n 2, 1) := by decide +kernel
theorem dX7_drop_44 : decode cX7_drop 44 = .ok (.iconst 4, 1) := by decide +kernel
theorem dX7_drop_45 : decode cX7_drop 45 = .ok (.iadd, 1) := by decide +kernel
theorem dX7_drop_46 : decode cX7_drop 46 = .ok (.iaload, 1) := by decide +kernel
theorem dX7_drop_47 : decode cX7_drop 47 = .ok (.iastore, 1) := by decide +kernel
theorem dX7_drop_48 : decode cX7_drop 48 = .ok (.iinc 2 1, 3) := by decide +kernel
theorem dX7_drop_51 : decode cX7_drop 51 = .ok (.goto (-27), 3) := by decide +kernel
theorem dX7_drop_54 : decode cX7_drop 54 = .ok (.aload_n 0, 1) := by decide +kernel
theorem dX7_drop_55 : decode cX7_drop 55 = .ok (.getfield 85, 3) := by decide +kernel
theorem dX7_drop_58 : decode cX7_drop 58 = .ok (.ireturn, 1) := by decide +kernel
theorem dX7_heldSays_0 : decode cX7_heldSays 0 = .ok (.aload_n 0, 1) := by decide +kernel
theorem dX7_heldSays_1 : decode cX7_heldSays 1 = .ok (.aload_n 0, 1) := by decide +kernel
theorem dX7_heldSays_2 : decode cX7_heldSays 2 = .ok (.iload_n 1, 1) := by decide +kernel
theorem dX7_heldSays_3 : decode cX7_heldSays 3 = .ok (.iconst 0, 1) := by decide +kernel
theorem dX7_heldSays_4 : decode cX7_heldSays 4 = .ok (.invokevirtual 213, 3) := by decide +kernel
theorem dX7_heldSays_7 : decode cX7_heldSays 7 = .ok (.aload_n 0, 1) := by decide +kernel
theorem dX7_heldSays_8 : decode cX7_heldSays 8 = .ok (.iload_n 1, 1) := by decide +kernel
theorem dX7_heldSays_9 : decode cX7_heldSays 9 = .ok (.iconst 1, 1) := by decide +kernel
theorem dX7_heldSays_10 : decode cX7_heldSays 10 = .ok (.invokevirtual 213, 3) := by decide +kernel
theorem dX7_heldSays_13 : decode cX7_heldSays 13 = .ok (.aload_n 0, 1) := by decide +kernel
theorem dX7_heldSays_14 : decode cX7_heldSays 14 = .ok (.iload_n 1, 1) := by decide +kernel
theorem dX7_heldSays_15 : decode cX7_heldSays 15 = .ok (.iconst 2, 1) := by decide +kernel
theorem dX7_heldSays_16 : decode cX7_heldSays 16 = .ok (.invokevirtual 213, 3) := by decide +kernel
theorem dX7_heldSays_19 : decode cX7_heldSays 19 = .ok (.aload_n 0, 1) := by decide +kernel
theorem dX7_heldSays_20 : decode cX7_heldSays 20 = .ok (.iload_n 1, 1) := by decide +kernel
theorem dX7_heldSays_21 : decode cX7_heldSays 21 = .ok (.iconst 3, 1) := by decide +kernel
theorem dX7_heldSays_22 : decode cX7_heldSays 22 = .ok (.invokevirtual 213, 3) := by decide +kernel
theorem dX7_heldSays_25 : decode cX7_heldSays 25 = .ok (.iload_n 2, 1) := by decide +kernel
theorem dX7_heldSays_26 : decode cX7_heldSays 26 = .ok (.aload_n 3, 1) := by decide +kernel
theorem dX7_heldSays_27 : decode cX7_heldSays 27 = .ok (.invokevirtual 206, 3) := by decide +kernel
theorem dX7_heldSays_30 : decode cX7_heldSays 30 = .ok (.ireturn, 1) := by decide +kernel
theorem dX7_isLong_0 : decode cX7_isLong 0 = .ok (.iload_n 0, 1) := by decide +kernel
theorem dX7_isLong_1 : decode cX7_isLong 1 = .ok (.iconst 0, 1) := by decide +kernel
theorem dX7_isLong_2 : decode cX7_isLong 2 = .ok (.bipush 99, 2) := by decide +kernel
theorem dX7_isLong_4 : decode cX7_isLong 4 = .ok (.invokestatic 81, 3) := by decide +kernel
theorem dX7_isLong_7 : decode cX7_isLong 7 = .ok (.ireturn, 1) := by decide +kernel
theorem dX7_says_0 : decode cX7_says 0 = .ok (.aload_n 0, 1) := by decide +kernel
theorem dX7_says_1 : decode cX7_says 1 = .ok (.iload_n 1, 1) := by decide +kernel
theorem dX7_says_2 : decode cX7_says 2 = .ok (.invokevirtual 210, 3) := by decide +kernel
theorem dX7_says_5 : decode cX7_says 5 = .ok (.ifCond .eq 23, 3) := by decide +kernel
theorem dX7_says_8 : decode cX7_says 8 = .ok (.iload_n 2, 1) := by decide +kernel
theorem dX7_says_9 : decode cX7_says 9 = .ok (.invokestatic 224, 3) := by decide +kernel
theorem dX7_says_12 : decode cX7_says 12 = .ok (.ifCond .eq 16, 3) := by decide +kernel
theorem dX7_says_15 : decode cX7_says 15 = .ok (.aload_n 0, 1) := by decide +kernel
theorem dX7_says_16 : decode cX7_says 16 = .ok (.iload_n 1, 1) := by decide +kernel
theorem dX7_says_17 : decode cX7_says 17 = .ok (.iload_n 2, 1) := by decide +kernel
theorem dX7_says_18 : decode cX7_says 18 = .ok (.aload_n 0, 1) := by decide +kernel
theorem dX7_says_19 : decode cX7_says 19 = .ok (.getfield 7, 3) := by decide +kernel
theorem dX7_says_22 : decode cX7_says 22 = .ok (.invokevirtual 227, 3) := by decide +kernel
theorem dX7_says_25 : decode cX7_says 25 = .ok (.goto 4, 3) := by decide +kernel
theorem dX7_says_28 : decode cX7_says 28 = .ok (.iconst (-1), 1) := by decide +kernel
theorem dX7_says_29 : decode cX7_says 29 = .ok (.ireturn, 1) := by decide +kernel
theorem dX7_run_0 : decode cX7_run 0 = .ok (.aload_n 0, 1) := by decide +kernel
theorem dX7_run_1 : decode cX7_run 1 = .ok (.iload_n 1, 1) := by decide +kernel
theorem dX7_run_2 : decode cX7_run 2 = .ok (.invokevirtual 210, 3) := by decide +kernel
theorem dX7_run_5 : decode cX7_run 5 = .ok (.ifCond .ne 5, 3) := by decide +kernel
theorem dX7_run_8 : decode cX7_run 8 = .ok (.iconst (-1), 1) := by decide +kernel
theorem dX7_run_9 : decode cX7_run 9 = .ok (.ireturn, 1) := by decide +kernel
theorem dX7_run_10 : decode cX7_run 10 = .ok (.iconst 0, 1) := by decide +kernel
theorem dX7_run_11 : decode cX7_run 11 = .ok (.istore_n 2, 1) := by decide +kernel
theorem dX7_run_12 : decode cX7_run 12 = .ok (.iconst 0, 1) := by decide +kernel
theorem dX7_run_13 : decode cX7_run 13 = .ok (.istore_n 3, 1) := by decide +kernel
theorem dX7_run_14 : decode cX7_run 14 = .ok (.iconst 0, 1) := by decide +kernel
theorem dX7_run_15 : decode cX7_run 15 = .ok (.istore 4, 2) := by decide +kernel
theorem dX7_run_17 : decode cX7_run 17 = .ok (.iload 4, 2) := by decide +kernel
theorem dX7_run_19 : decode cX7_run 19 = .ok (.bipush 24, 2) := by decide +kernel
theorem dX7_run_21 : decode cX7_run 21 = .ok (.if_icmp .ge 59, 3) := by decide +kernel
theorem dX7_run_24 : decode cX7_run 24 = .ok (.aload_n 0, 1) := by decide +kernel
theorem dX7_run_25 : decode cX7_run 25 = .ok (.getfield 7, 3) := by decide +kernel
theorem dX7_run_28 : decode cX7_run 28 = .ok (.iload 4, 2) := by decide +kernel
theorem dX7_run_30 : decode cX7_run 30 = .ok (.iaload, 1) := by decide +kernel
theorem dX7_run_31 : decode cX7_run 31 = .ok (.ifCond .lt 43, 3) := by decide +kernel
theorem dX7_run_34 : decode cX7_run 34 = .ok (.aload_n 0, 1) := by decide +kernel
theorem dX7_run_35 : decode cX7_run 35 = .ok (.iload_n 1, 1) := by decide +kernel
theorem dX7_run_36 : decode cX7_run 36 = .ok (.iload 4, 2) := by decide +kernel
theorem dX7_run_38 : decode cX7_run 38 = .ok (.aload_n 0, 1) := by decide +kernel
theorem dX7_run_39 : decode cX7_run 39 = .ok (.getfield 7, 3) := by decide +kernel
theorem dX7_run_42 : decode cX7_run 42 = .ok (.invokevirtual 227, 3) := by decide +kernel
theorem dX7_run_45 : decode cX7_run 45 = .ok (.aload_n 0, 1) := by decide +kernel
theorem dX7_run_46 : decode cX7_run 46 = .ok (.getfield 7, 3) := by decide +kernel
theorem dX7_run_49 : decode cX7_run 49 = .ok (.iload 4, 2) := by decide +kernel
theorem dX7_run_51 : decode cX7_run 51 = .ok (.iaload, 1) := by decide +kernel
theorem dX7_run_52 : decode cX7_run 52 = .ok (.if_icmp .ne 9, 3) := by decide +kernel
theorem dX7_run_55 : decode cX7_run 55 = .ok (.iload_n 3, 1) := by decide +kernel
theorem dX7_run_56 : decode cX7_run 56 = .ok (.iconst 1, 1) := by decide +kernel
theorem dX7_run_57 : decode cX7_run 57 = .ok (.iadd, 1) := by decide +kernel
theorem dX7_run_58 : decode cX7_run 58 = .ok (.goto 4, 3) := by decide +kernel
theorem dX7_run_61 : decode cX7_run 61 = .ok (.iconst 0, 1) := by decide +kernel
theorem dX7_run_62 : decode cX7_run 62 = .ok (.istore_n 3, 1) := by decide +kernel
theorem dX7_run_63 : decode cX7_run 63 = .ok (.iload_n 3, 1) := by decide +kernel
theorem dX7_run_64 : decode cX7_run 64 = .ok (.iload_n 2, 1) := by decide +kernel
theorem dX7_run_65 : decode cX7_run 65 = .ok (.if_icmp .le 7, 3) := by decide +kernel
theorem dX7_run_68 : decode cX7_run 68 = .ok (.iload_n 3, 1) := by decide +kernel
theorem dX7_run_69 : decode cX7_run 69 = .ok (.goto 4, 3) := by decide +kernel
theorem dX7_run_72 : decode cX7_run 72 = .ok (.iload_n 2, 1) := by decide +kernel
theorem dX7_run_73 : decode cX7_run 73 = .ok (.istore_n 2, 1) := by decide +kernel
theorem dX7_run_74 : decode cX7_run 74 = .ok (.iinc 4 1, 3) := by decide +kernel
theorem dX7_run_77 : decode cX7_run 77 = .ok (.goto (-60), 3) := by decide +kernel
theorem dX7_run_80 : decode cX7_run 80 = .ok (.iload_n 2, 1) := by decide +kernel
theorem dX7_run_81 : decode cX7_run 81 = .ok (.ireturn, 1) := by decide +kernel
theorem dX7_believed_0 : decode cX7_believed 0 = .ok (.aload_n 0, 1) := by decide +kernel
theorem dX7_believed_1 : decode cX7_believed 1 = .ok (.iload_n 1, 1) := by decide +kernel
theorem dX7_believed_2 : decode cX7_believed 2 = .ok (.invokevirtual 210, 3) := by decide +kernel
theorem dX7_believed_5 : decode cX7_believed 5 = .ok (.ifCond .eq 13, 3) := by decide +kernel
theorem dX7_believed_8 : decode cX7_believed 8 = .ok (.iload_n 2, 1) := by decide +kernel
theorem dX7_believed_9 : decode cX7_believed 9 = .ok (.iconst 1, 1) := by decide +kernel
theorem dX7_believed_10 : decode cX7_believed 10 = .ok (.bipush 9, 2) := by decide +kernel
theorem dX7_believed_12 : decode cX7_believed 12 = .ok (.invokestatic 81, 3) := by decide +kernel
theorem dX7_believed_15 : decode cX7_believed 15 = .ok (.ifCond .ne 5, 3) := by decide +kernel
theorem dX7_believed_18 : decode cX7_believed 18 = .ok (.iconst (-1), 1) := by decide +kernel
theorem dX7_believed_19 : decode cX7_believed 19 = .ok (.ireturn, 1) := by decide +kernel
theorem dX7_believed_20 : decode cX7_believed 20 = .ok (.iconst 0, 1) := by decide +kernel
theorem dX7_believed_21 : decode cX7_believed 21 = .ok (.istore_n 3, 1) := by decide +kernel
theorem dX7_believed_22 : decode cX7_believed 22 = .ok (.iconst 0, 1) := by decide +kernel
theorem dX7_believed_23 : decode cX7_believed 23 = .ok (.istore 4, 2) := by decide +kernel
theorem dX7_believed_25 : decode cX7_believed 25 = .ok (.iload 4, 2) := by decide +kernel
theorem dX7_believed_27 : decode cX7_believed 27 = .ok (.bipush 24, 2) := by decide +kernel
theorem dX7_believed_29 : decode cX7_believed 29 = .ok (.if_icmp .ge 56, 3) := by decide +kernel
theorem dX7_believed_32 : decode cX7_believed 32 = .ok (.aload_n 0, 1) := by decide +kernel
theorem dX7_believed_33 : decode cX7_believed 33 = .ok (.getfield 7, 3) := by decide +kernel
theorem dX7_believed_36 : decode cX7_believed 36 = .ok (.iload 4, 2) := by decide +kernel
theorem dX7_believed_38 : decode cX7_believed 38 = .ok (.iaload, 1) := by decide +kernel
theorem dX7_believed_39 : decode cX7_believed 39 = .ok (.ifCond .lt 40, 3) := by decide +kernel
theorem dX7_believed_42 : decode cX7_believed 42 = .ok (.aload_n 0, 1) := by decide +kernel
theorem dX7_believed_43 : decode cX7_believed 43 = .ok (.iload_n 1, 1) := by decide +kernel
theorem dX7_believed_44 : decode cX7_believed 44 = .ok (.iload 4, 2) := by decide +kernel
theorem dX7_believed_46 : decode cX7_believed 46 = .ok (.aload_n 0, 1) := by decide +kernel
theorem dX7_believed_47 : decode cX7_believed 47 = .ok (.getfield 7, 3) := by decide +kernel
theorem dX7_believed_50 : decode cX7_believed 50 = .ok (.invokevirtual 227, 3) := by decide +kernel
theorem dX7_believed_53 : decode cX7_believed 53 = .ok (.aload_n 0, 1) := by decide +kernel
theorem dX7_believed_54 : decode cX7_believed 54 = .ok (.getfield 7, 3) := by decide +kernel
theorem dX7_believed_57 : decode cX7_believed 57 = .ok (.iload 4, 2) := by decide +kernel
theorem dX7_believed_59 : decode cX7_believed 59 = .ok (.iaload, 1) := by decide +kernel
theorem dX7_believed_60 : decode cX7_believed 60 = .ok (.if_icmp .ne 9, 3) := by decide +kernel
theorem dX7_believed_63 : decode cX7_believed 63 = .ok (.iload_n 3, 1) := by decide +kernel
theorem dX7_believed_64 : decode cX7_believed 64 = .ok (.iconst 1, 1) := by decide +kernel
theorem dX7_believed_65 : decode cX7_believed 65 = .ok (.iadd, 1) := by decide +kernel
theorem dX7_believed_66 : decode cX7_believed 66 = .ok (.goto 4, 3) := by decide +kernel
theorem dX7_believed_69 : decode cX7_believed 69 = .ok (.iconst 0, 1) := by decide +kernel
theorem dX7_believed_70 : decode cX7_believed 70 = .ok (.istore_n 3, 1) := by decide +kernel
theorem dX7_believed_71 : decode cX7_believed 71 = .ok (.iload_n 3, 1) := by decide +kernel
theorem dX7_believed_72 : decode cX7_believed 72 = .ok (.iload_n 2, 1) := by decide +kernel
theorem dX7_believed_73 : decode cX7_believed 73 = .ok (.if_icmp .ne 6, 3) := by decide +kernel
theorem dX7_believed_76 : decode cX7_believed 76 = .ok (.iload 4, 2) := by decide +kernel
theorem dX7_believed_78 : decode cX7_believed 78 = .ok (.ireturn, 1) := by decide +kernel
theorem dX7_believed_79 : decode cX7_believed 79 = .ok (.iinc 4 1, 3) := by decide +kernel
theorem dX7_believed_82 : decode cX7_believed 82 = .ok (.goto (-57), 3) := by decide +kernel
theorem dX7_believed_85 : decode cX7_believed 85 = .ok (.bipush (-3), 2) := by decide +kernel
theorem dX7_believed_87 : decode cX7_believed 87 = .ok (.ireturn, 1) := by decide +kernel
theorem dX7_goesOn_0 : decode cX7_goesOn 0 = .ok (.iconst 0, 1) := by decide +kernel
theorem dX7_goesOn_1 : decode cX7_goesOn 1 = .ok (.istore_n 2, 1) := by decide +kernel
theorem dX7_goesOn_2 : decode cX7_goesOn 2 = .ok (.iload_n 2, 1) := by decide +kernel
theorem dX7_goesOn_3 : decode cX7_goesOn 3 = .ok (.bipush 100, 2) := by decide +kernel
theorem dX7_goesOn_5 : decode cX7_goesOn 5 = .ok (.if_icmp .ge 21, 3) := by decide +kernel
theorem dX7_goesOn_8 : decode cX7_goesOn 8 = .ok (.aload_n 0, 1) := by decide +kernel
theorem dX7_goesOn_9 : decode cX7_goesOn 9 = .ok (.getfield 13, 3) := by decide +kernel
theorem dX7_goesOn_12 : decode cX7_goesOn 12 = .ok (.iload_n 2, 1) := by decide +kernel
theorem dX7_goesOn_13 : decode cX7_goesOn 13 = .ok (.aload_n 0, 1) := by decide +kernel
theorem dX7_goesOn_14 : decode cX7_goesOn 14 = .ok (.getfield 7, 3) := by decide +kernel
theorem dX7_goesOn_17 : decode cX7_goesOn 17 = .ok (.iload_n 2, 1) := by decide +kernel
theorem dX7_goesOn_18 : decode cX7_goesOn 18 = .ok (.iaload, 1) := by decide +kernel
theorem dX7_goesOn_19 : decode cX7_goesOn 19 = .ok (.iastore, 1) := by decide +kernel
theorem dX7_goesOn_20 : decode cX7_goesOn 20 = .ok (.iinc 2 1, 3) := by decide +kernel
theorem dX7_goesOn_23 : decode cX7_goesOn 23 = .ok (.goto (-21), 3) := by decide +kernel
theorem dX7_goesOn_26 : decode cX7_goesOn 26 = .ok (.aload_n 0, 1) := by decide +kernel
theorem dX7_goesOn_27 : decode cX7_goesOn 27 = .ok (.invokevirtual 231, 3) := by decide +kernel
theorem dX7_goesOn_30 : decode cX7_goesOn 30 = .ok (.istore_n 2, 1) := by decide +kernel
theorem dX7_goesOn_31 : decode cX7_goesOn 31 = .ok (.iload_n 2, 1) := by decide +kernel
theorem dX7_goesOn_32 : decode cX7_goesOn 32 = .ok (.bipush 100, 2) := by decide +kernel
theorem dX7_goesOn_34 : decode cX7_goesOn 34 = .ok (.if_icmp .ge 35, 3) := by decide +kernel
theorem dX7_goesOn_37 : decode cX7_goesOn 37 = .ok (.aload_n 0, 1) := by decide +kernel
theorem dX7_goesOn_38 : decode cX7_goesOn 38 = .ok (.iload_n 1, 1) := by decide +kernel
theorem dX7_goesOn_39 : decode cX7_goesOn 39 = .ok (.iload_n 2, 1) := by decide +kernel
theorem dX7_goesOn_40 : decode cX7_goesOn 40 = .ok (.aload_n 0, 1) := by decide +kernel
theorem dX7_goesOn_41 : decode cX7_goesOn 41 = .ok (.getfield 13, 3) := by decide +kernel
theorem dX7_goesOn_44 : decode cX7_goesOn 44 = .ok (.invokevirtual 227, 3) := by decide +kernel
theorem dX7_goesOn_47 : decode cX7_goesOn 47 = .ok (.istore_n 3, 1) := by decide +kernel
theorem dX7_goesOn_48 : decode cX7_goesOn 48 = .ok (.aload_n 0, 1) := by decide +kernel
theorem dX7_goesOn_49 : decode cX7_goesOn 49 = .ok (.getfield 13, 3) := by decide +kernel
theorem dX7_goesOn_52 : decode cX7_goesOn 52 = .ok (.iload_n 2, 1) := by decide +kernel
theorem dX7_goesOn_53 : decode cX7_goesOn 53 = .ok (.iload_n 3, 1) := by decide +kernel
theorem dX7_goesOn_54 : decode cX7_goesOn 54 = .ok (.ifCond .ge 7, 3) := by decide +kernel
theorem dX7_goesOn_57 : decode cX7_goesOn 57 = .ok (.iconst (-1), 1) := by decide +kernel
theorem dX7_goesOn_58 : decode cX7_goesOn 58 = .ok (.goto 4, 3) := by decide +kernel
theorem dX7_goesOn_61 : decode cX7_goesOn 61 = .ok (.iload_n 3, 1) := by decide +kernel
theorem dX7_goesOn_62 : decode cX7_goesOn 62 = .ok (.iastore, 1) := by decide +kernel
theorem dX7_goesOn_63 : decode cX7_goesOn 63 = .ok (.iinc 2 1, 3) := by decide +kernel
theorem dX7_goesOn_66 : decode cX7_goesOn 66 = .ok (.goto (-35), 3) := by decide +kernel
theorem dX7_goesOn_69 : decode cX7_goesOn 69 = .ok (.return_, 1) := by decide +kernel
theorem dX7_on_0 : decode cX7_on 0 = .ok (.aload_n 0, 1) := by decide +kernel
theorem dX7_on_1 : decode cX7_on 1 = .ok (.iload_n 1, 1) := by decide +kernel
theorem dX7_on_2 : decode cX7_on 2 = .ok (.invokevirtual 210, 3) := by decide +kernel
theorem dX7_on_5 : decode cX7_on 5 = .ok (.ifCond .eq 16, 3) := by decide +kernel
theorem dX7_on_8 : decode cX7_on 8 = .ok (.iload_n 2, 1) := by decide +kernel
theorem dX7_on_9 : decode cX7_on 9 = .ok (.aload_n 0, 1) := by decide +kernel
theorem dX7_on_10 : decode cX7_on 10 = .ok (.invokevirtual 231, 3) := by decide +kernel
theorem dX7_on_13 : decode cX7_on 13 = .ok (.bipush 99, 2) := by decide +kernel
theorem dX7_on_15 : decode cX7_on 15 = .ok (.invokestatic 81, 3) := by decide +kernel
theorem dX7_on_18 : decode cX7_on 18 = .ok (.ifCond .ne 5, 3) := by decide +kernel
theorem dX7_on_21 : decode cX7_on 21 = .ok (.iconst (-1), 1) := by decide +kernel
theorem dX7_on_22 : decode cX7_on 22 = .ok (.ireturn, 1) := by decide +kernel
theorem dX7_on_23 : decode cX7_on 23 = .ok (.aload_n 0, 1) := by decide +kernel
theorem dX7_on_24 : decode cX7_on 24 = .ok (.iload_n 1, 1) := by decide +kernel
theorem dX7_on_25 : decode cX7_on 25 = .ok (.invokevirtual 234, 3) := by decide +kernel
theorem dX7_on_28 : decode cX7_on 28 = .ok (.aload_n 0, 1) := by decide +kernel
theorem dX7_on_29 : decode cX7_on 29 = .ok (.getfield 13, 3) := by decide +kernel
theorem dX7_on_32 : decode cX7_on 32 = .ok (.iload_n 2, 1) := by decide +kernel
theorem dX7_on_33 : decode cX7_on 33 = .ok (.iaload, 1) := by decide +kernel
theorem dX7_on_34 : decode cX7_on 34 = .ok (.ifCond .ge 8, 3) := by decide +kernel
theorem dX7_on_37 : decode cX7_on 37 = .ok (.bipush (-9), 2) := by decide +kernel
theorem dX7_on_39 : decode cX7_on 39 = .ok (.goto 9, 3) := by decide +kernel
theorem dX7_on_42 : decode cX7_on 42 = .ok (.aload_n 0, 1) := by decide +kernel
theorem dX7_on_43 : decode cX7_on 43 = .ok (.getfield 13, 3) := by decide +kernel
theorem dX7_on_46 : decode cX7_on 46 = .ok (.iload_n 2, 1) := by decide +kernel
theorem dX7_on_47 : decode cX7_on 47 = .ok (.iaload, 1) := by decide +kernel
theorem dX7_on_48 : decode cX7_on 48 = .ok (.ireturn, 1) := by decide +kernel
theorem dX7_here_0 : decode cX7_here 0 = .ok (.aload_n 0, 1) := by decide +kernel
theorem dX7_here_1 : decode cX7_here 1 = .ok (.iload_n 1, 1) := by decide +kernel
theorem dX7_here_2 : decode cX7_here 2 = .ok (.invokevirtual 210, 3) := by decide +kernel
theorem dX7_here_5 : decode cX7_here 5 = .ok (.ifCond .eq 20, 3) := by decide +kernel
theorem dX7_here_8 : decode cX7_here 8 = .ok (.iload_n 2, 1) := by decide +kernel
theorem dX7_here_9 : decode cX7_here 9 = .ok (.iconst 0, 1) := by decide +kernel
theorem dX7_here_10 : decode cX7_here 10 = .ok (.bipush 9, 2) := by decide +kernel
theorem dX7_here_12 : decode cX7_here 12 = .ok (.invokestatic 81, 3) := by decide +kernel
theorem dX7_here_15 : decode cX7_here 15 = .ok (.ifCond .eq 10, 3) := by decide +kernel
theorem dX7_here_18 : decode cX7_here 18 = .ok (.iload_n 3, 1) := by decide +kernel
theorem dX7_here_19 : decode cX7_here 19 = .ok (.invokestatic 224, 3) := by decide +kernel
theorem dX7_here_22 : decode cX7_here 22 = .ok (.ifCond .ne 5, 3) := by decide +kernel
theorem dX7_here_25 : decode cX7_here 25 = .ok (.iconst (-1), 1) := by decide +kernel
theorem dX7_here_26 : decode cX7_here 26 = .ok (.ireturn, 1) := by decide +kernel
theorem dX7_here_27 : decode cX7_here 27 = .ok (.aload_n 0, 1) := by decide +kernel
theorem dX7_here_28 : decode cX7_here 28 = .ok (.iload_n 1, 1) := by decide +kernel
theorem dX7_here_29 : decode cX7_here 29 = .ok (.invokevirtual 234, 3) := by decide +kernel
theorem dX7_here_32 : decode cX7_here 32 = .ok (.iload_n 3, 1) := by decide +kernel
theorem dX7_here_33 : decode cX7_here 33 = .ok (.aload_n 0, 1) := by decide +kernel
theorem dX7_here_34 : decode cX7_here 34 = .ok (.invokevirtual 231, 3) := by decide +kernel
theorem dX7_here_37 : decode cX7_here 37 = .ok (.if_icmp .ge 10, 3) := by decide +kernel
theorem dX7_here_40 : decode cX7_here 40 = .ok (.aload_n 0, 1) := by decide +kernel
theorem dX7_here_41 : decode cX7_here 41 = .ok (.invokevirtual 231, 3) := by decide +kernel
theorem dX7_here_44 : decode cX7_here 44 = .ok (.goto 4, 3) := by decide +kernel
theorem dX7_here_47 : decode cX7_here 47 = .ok (.iload_n 3, 1) := by decide +kernel
theorem dX7_here_48 : decode cX7_here 48 = .ok (.istore 4, 2) := by decide +kernel
theorem dX7_here_50 : decode cX7_here 50 = .ok (.iload 4, 2) := by decide +kernel
theorem dX7_here_52 : decode cX7_here 52 = .ok (.bipush 100, 2) := by decide +kernel
theorem dX7_here_54 : decode cX7_here 54 = .ok (.if_icmp .ge 20, 3) := by decide +kernel
theorem dX7_here_57 : decode cX7_here 57 = .ok (.aload_n 0, 1) := by decide +kernel
theorem dX7_here_58 : decode cX7_here 58 = .ok (.getfield 13, 3) := by decide +kernel
theorem dX7_here_61 : decode cX7_here 61 = .ok (.iload 4, 2) := by decide +kernel
theorem dX7_here_63 : decode cX7_here 63 = .ok (.iaload, 1) := by decide +kernel
theorem dX7_here_64 : decode cX7_here 64 = .ok (.iload_n 2, 1) := by decide +kernel
theorem dX7_here_65 : decode cX7_here 65 = .ok (.if_icmp .eq 9, 3) := by decide +kernel
theorem dX7_here_68 : decode cX7_here 68 = .ok (.iinc 4 1, 3) := by decide +kernel
theorem dX7_here_71 : decode cX7_here 71 = .ok (.goto (-21), 3) := by decide +kernel
theorem dX7_here_74 : decode cX7_here 74 = .ok (.iload 4, 2) := by decide +kernel
theorem dX7_here_76 : decode cX7_here 76 = .ok (.bipush 100, 2) := by decide +kernel
theorem dX7_here_78 : decode cX7_here 78 = .ok (.if_icmp .ge 8, 3) := by decide +kernel
theorem dX7_here_81 : decode cX7_here 81 = .ok (.iload 4, 2) := by decide +kernel
theorem dX7_here_83 : decode cX7_here 83 = .ok (.goto 5, 3) := by decide +kernel
theorem dX7_here_86 : decode cX7_here 86 = .ok (.bipush (-3), 2) := by decide +kernel
theorem dX7_here_88 : decode cX7_here 88 = .ok (.ireturn, 1) := by decide +kernel
theorem dX7_never_0 : decode cX7_never 0 = .ok (.aload_n 0, 1) := by decide +kernel
theorem dX7_never_1 : decode cX7_never 1 = .ok (.iload_n 1, 1) := by decide +kernel
theorem dX7_never_2 : decode cX7_never 2 = .ok (.invokevirtual 210, 3) := by decide +kernel
theorem dX7_never_5 : decode cX7_never 5 = .ok (.ifCond .ne 5, 3) := by decide +kernel
theorem dX7_never_8 : decode cX7_never 8 = .ok (.iconst (-1), 1) := by decide +kernel
theorem dX7_never_9 : decode cX7_never 9 = .ok (.ireturn, 1) := by decide +kernel
theorem dX7_never_10 : decode cX7_never 10 = .ok (.aload_n 0, 1) := by decide +kernel
theorem dX7_never_11 : decode cX7_never 11 = .ok (.iload_n 1, 1) := by decide +kernel
theorem dX7_never_12 : decode cX7_never 12 = .ok (.invokevirtual 234, 3) := by decide +kernel
theorem dX7_never_15 : decode cX7_never 15 = .ok (.iconst 1, 1) := by decide +kernel
theorem dX7_never_16 : decode cX7_never 16 = .ok (.aload_n 0, 1) := by decide +kernel
theorem dX7_never_17 : decode cX7_never 17 = .ok (.getfield 19, 3) := by decide +kernel
theorem dX7_never_20 : decode cX7_never 20 = .ok (.ishl, 1) := by decide +kernel
theorem dX7_never_21 : decode cX7_never 21 = .ok (.iconst 1, 1) := by decide +kernel
theorem dX7_never_22 : decode cX7_never 22 = .ok (.isub, 1) := by decide +kernel
theorem dX7_never_23 : decode cX7_never 23 = .ok (.istore_n 2, 1) := by decide +kernel
theorem dX7_never_24 : decode cX7_never 24 = .ok (.aload_n 0, 1) := by decide +kernel
theorem dX7_never_25 : decode cX7_never 25 = .ok (.invokevirtual 231, 3) := by decide +kernel
theorem dX7_never_28 : decode cX7_never 28 = .ok (.istore_n 3, 1) := by decide +kernel
theorem dX7_never_29 : decode cX7_never 29 = .ok (.iload_n 3, 1) := by decide +kernel
theorem dX7_never_30 : decode cX7_never 30 = .ok (.bipush 100, 2) := by decide +kernel
theorem dX7_never_32 : decode cX7_never 32 = .ok (.if_icmp .ge 35, 3) := by decide +kernel
theorem dX7_never_35 : decode cX7_never 35 = .ok (.iload_n 2, 1) := by decide +kernel
theorem dX7_never_36 : decode cX7_never 36 = .ok (.aload_n 0, 1) := by decide +kernel
theorem dX7_never_37 : decode cX7_never 37 = .ok (.getfield 13, 3) := by decide +kernel
theorem dX7_never_40 : decode cX7_never 40 = .ok (.iload_n 3, 1) := by decide +kernel
theorem dX7_never_41 : decode cX7_never 41 = .ok (.iaload, 1) := by decide +kernel
theorem dX7_never_42 : decode cX7_never 42 = .ok (.ifCond .ge 7, 3) := by decide +kernel
theorem dX7_never_45 : decode cX7_never 45 = .ok (.iconst (-1), 1) := by decide +kernel
theorem dX7_never_46 : decode cX7_never 46 = .ok (.goto 13, 3) := by decide +kernel
theorem dX7_never_49 : decode cX7_never 49 = .ok (.iconst 1, 1) := by decide +kernel
theorem dX7_never_50 : decode cX7_never 50 = .ok (.aload_n 0, 1) := by decide +kernel
theorem dX7_never_51 : decode cX7_never 51 = .ok (.getfield 13, 3) := by decide +kernel
theorem dX7_never_54 : decode cX7_never 54 = .ok (.iload_n 3, 1) := by decide +kernel
theorem dX7_never_55 : decode cX7_never 55 = .ok (.iaload, 1) := by decide +kernel
theorem dX7_never_56 : decode cX7_never 56 = .ok (.ishl, 1) := by decide +kernel
theorem dX7_never_57 : decode cX7_never 57 = .ok (.iconst (-1), 1) := by decide +kernel
theorem dX7_never_58 : decode cX7_never 58 = .ok (.ixor, 1) := by decide +kernel
theorem dX7_never_59 : decode cX7_never 59 = .ok (.iand, 1) := by decide +kernel
theorem dX7_never_60 : decode cX7_never 60 = .ok (.istore_n 2, 1) := by decide +kernel
theorem dX7_never_61 : decode cX7_never 61 = .ok (.iinc 3 1, 3) := by decide +kernel
theorem dX7_never_64 : decode cX7_never 64 = .ok (.goto (-35), 3) := by decide +kernel
theorem dX7_never_67 : decode cX7_never 67 = .ok (.iload_n 2, 1) := by decide +kernel
theorem dX7_never_68 : decode cX7_never 68 = .ok (.ireturn, 1) := by decide +kernel
theorem dX7_kindOf_0 : decode cX7_kindOf 0 = .ok (.iload_n 0, 1) := by decide +kernel
theorem dX7_kindOf_1 : decode cX7_kindOf 1 = .ok (.bipush 100, 2) := by decide +kernel
theorem dX7_kindOf_3 : decode cX7_kindOf 3 = .ok (.idiv, 1) := by decide +kernel
theorem dX7_kindOf_4 : decode cX7_kindOf 4 = .ok (.ireturn, 1) := by decide +kernel
theorem dX7_aOf_0 : decode cX7_aOf 0 = .ok (.iload_n 0, 1) := by decide +kernel
theorem dX7_aOf_1 : decode cX7_aOf 1 = .ok (.bipush 20, 2) := by decide +kernel
theorem dX7_aOf_3 : decode cX7_aOf 3 = .ok (.idiv, 1) := by decide +kernel
theorem dX7_aOf_4 : decode cX7_aOf 4 = .ok (.iconst 5, 1) := by decide +kernel
theorem dX7_aOf_5 : decode cX7_aOf 5 = .ok (.irem, 1) := by decide +kernel
theorem dX7_aOf_6 : decode cX7_aOf 6 = .ok (.ireturn, 1) := by decide +kernel
theorem dX7_bOf_0 : decode cX7_bOf 0 = .ok (.iload_n 0, 1) := by decide +kernel
theorem dX7_bOf_1 : decode cX7_bOf 1 = .ok (.iconst 4, 1) := by decide +kernel
theorem dX7_bOf_2 : decode cX7_bOf 2 = .ok (.idiv, 1) := by decide +kernel
theorem dX7_bOf_3 : decode cX7_bOf 3 = .ok (.iconst 5, 1) := by decide +kernel
theorem dX7_bOf_4 : decode cX7_bOf 4 = .ok (.irem, 1) := by decide +kernel
theorem dX7_bOf_5 : decode cX7_bOf 5 = .ok (.ireturn, 1) := by decide +kernel
theorem dX7_kOf_0 : decode cX7_kOf 0 = .ok (.iconst 1, 1) := by decide +kernel
theorem dX7_kOf_1 : decode cX7_kOf 1 = .ok (.iload_n 0, 1) := by decide +kernel
theorem dX7_kOf_2 : decode cX7_kOf 2 = .ok (.iconst 4, 1) := by decide +kernel
theorem dX7_kOf_3 : decode cX7_kOf 3 = .ok (.irem, 1) := by decide +kernel
theorem dX7_kOf_4 : decode cX7_kOf 4 = .ok (.iadd, 1) := by decide +kernel
theorem dX7_kOf_5 : decode cX7_kOf 5 = .ok (.ireturn, 1) := by decide +kernel
theorem dX7_allMisses_0 : decode cX7_allMisses 0 = .ok (.aload_n 0, 1) := by decide +kernel
theorem dX7_allMisses_1 : decode cX7_allMisses 1 = .ok (.iload_n 1, 1) := by decide +kernel
theorem dX7_allMisses_2 : decode cX7_allMisses 2 = .ok (.invokestatic 237, 3) := by decide +kernel
theorem dX7_allMisses_5 : decode cX7_allMisses 5 = .ok (.iload_n 1, 1) := by decide +kernel
theorem dX7_allMisses_6 : decode cX7_allMisses 6 = .ok (.invokestatic 240, 3) := by decide +kernel
theorem dX7_allMisses_9 : decode cX7_allMisses 9 = .ok (.iload_n 1, 1) := by decide +kernel
theorem dX7_allMisses_10 : decode cX7_allMisses 10 = .ok (.invokestatic 243, 3) := by decide +kernel
theorem dX7_allMisses_13 : decode cX7_allMisses 13 = .ok (.iload_n 1, 1) := by decide +kernel
theorem dX7_allMisses_14 : decode cX7_allMisses 14 = .ok (.invokestatic 246, 3) := by decide +kernel
theorem dX7_allMisses_17 : decode cX7_allMisses 17 = .ok (.invokevirtual 220, 3) := by decide +kernel
theorem dX7_allMisses_20 : decode cX7_allMisses 20 = .ok (.ireturn, 1) := by decide +kernel
theorem dX7_allWords_0 : decode cX7_allWords 0 = .ok (.iload_n 0, 1) := by decide +kernel
theorem dX7_allWords_1 : decode cX7_allWords 1 = .ok (.invokestatic 240, 3) := by decide +kernel
theorem dX7_allWords_4 : decode cX7_allWords 4 = .ok (.iload_n 0, 1) := by decide +kernel
theorem dX7_allWords_5 : decode cX7_allWords 5 = .ok (.invokestatic 243, 3) := by decide +kernel
theorem dX7_allWords_8 : decode cX7_allWords 8 = .ok (.iload_n 0, 1) := by decide +kernel
theorem dX7_allWords_9 : decode cX7_allWords 9 = .ok (.invokestatic 246, 3) := by decide +kernel
theorem dX7_allWords_12 : decode cX7_allWords 12 = .ok (.invokestatic 216, 3) := by decide +kernel
theorem dX7_allWords_15 : decode cX7_allWords 15 = .ok (.ireturn, 1) := by decide +kernel
theorem dX7_isAllowed_0 : decode cX7_isAllowed 0 = .ok (.iload_n 0, 1) := by decide +kernel
theorem dX7_isAllowed_1 : decode cX7_isAllowed 1 = .ok (.iconst 0, 1) := by decide +kernel
theorem dX7_isAllowed_2 : decode cX7_isAllowed 2 = .ok (.bipush 9, 2) := by decide +kernel
theorem dX7_isAllowed_4 : decode cX7_isAllowed 4 = .ok (.invokestatic 81, 3) := by decide +kernel
theorem dX7_isAllowed_7 : decode cX7_isAllowed 7 = .ok (.ireturn, 1) := by decide +kernel
theorem dX7_fits_0 : decode cX7_fits 0 = .ok (.iload_n 1, 1) := by decide +kernel
theorem dX7_fits_1 : decode cX7_fits 1 = .ok (.invokestatic 249, 3) := by decide +kernel
theorem dX7_fits_4 : decode cX7_fits 4 = .ok (.ifCond .ne 5, 3) := by decide +kernel
theorem dX7_fits_7 : decode cX7_fits 7 = .ok (.iconst (-1), 1) := by decide +kernel
theorem dX7_fits_8 : decode cX7_fits 8 = .ok (.ireturn, 1) := by decide +kernel
theorem dX7_fits_9 : decode cX7_fits 9 = .ok (.iconst 0, 1) := by decide +kernel
theorem dX7_fits_10 : decode cX7_fits 10 = .ok (.istore_n 2, 1) := by decide +kernel
theorem dX7_fits_11 : decode cX7_fits 11 = .ok (.iconst 0, 1) := by decide +kernel
theorem dX7_fits_12 : decode cX7_fits 12 = .ok (.istore_n 3, 1) := by decide +kernel
theorem dX7_fits_13 : decode cX7_fits 13 = .ok (.iload_n 3, 1) := by decide +kernel
theorem dX7_fits_14 : decode cX7_fits 14 = .ok (.sipush 600, 3) := by decide +kernel
theorem dX7_fits_17 : decode cX7_fits 17 = .ok (.if_icmp .ge 26, 3) := by decide +kernel
theorem dX7_fits_20 : decode cX7_fits 20 = .ok (.iload_n 2, 1) := by decide +kernel
theorem dX7_fits_21 : decode cX7_fits 21 = .ok (.aload_n 0, 1) := by decide +kernel
theorem dX7_fits_22 : decode cX7_fits 22 = .ok (.iload_n 3, 1) := by decide +kernel
theorem dX7_fits_23 : decode cX7_fits 23 = .ok (.invokevirtual 252, 3) := by decide +kernel
theorem dX7_fits_26 : decode cX7_fits 26 = .ok (.iload_n 1, 1) := by decide +kernel
theorem dX7_fits_27 : decode cX7_fits 27 = .ok (.if_icmp .gt 7, 3) := by decide +kernel
theorem dX7_fits_30 : decode cX7_fits 30 = .ok (.iconst 1, 1) := by decide +kernel
theorem dX7_fits_31 : decode cX7_fits 31 = .ok (.goto 4, 3) := by decide +kernel
theorem dX7_fits_34 : decode cX7_fits 34 = .ok (.iconst 0, 1) := by decide +kernel
theorem dX7_fits_35 : decode cX7_fits 35 = .ok (.iadd, 1) := by decide +kernel
theorem dX7_fits_36 : decode cX7_fits 36 = .ok (.istore_n 2, 1) := by decide +kernel
theorem dX7_fits_37 : decode cX7_fits 37 = .ok (.iinc 3 1, 3) := by decide +kernel
theorem dX7_fits_40 : decode cX7_fits 40 = .ok (.goto (-27), 3) := by decide +kernel
theorem dX7_fits_43 : decode cX7_fits 43 = .ok (.iload_n 2, 1) := by decide +kernel
theorem dX7_fits_44 : decode cX7_fits 44 = .ok (.ireturn, 1) := by decide +kernel
theorem dX7_plainestOf_0 : decode cX7_plainestOf 0 = .ok (.iconst (-1), 1) := by decide +kernel
theorem dX7_plainestOf_1 : decode cX7_plainestOf 1 = .ok (.istore_n 2, 1) := by decide +kernel
theorem dX7_plainestOf_2 : decode cX7_plainestOf 2 = .ok (.iconst 0, 1) := by decide +kernel
theorem dX7_plainestOf_3 : decode cX7_plainestOf 3 = .ok (.istore_n 3, 1) := by decide +kernel
theorem dX7_plainestOf_4 : decode cX7_plainestOf 4 = .ok (.iload_n 3, 1) := by decide +kernel
theorem dX7_plainestOf_5 : decode cX7_plainestOf 5 = .ok (.sipush 600, 3) := by decide +kernel
theorem dX7_plainestOf_8 : decode cX7_plainestOf 8 = .ok (.if_icmp .ge 35, 3) := by decide +kernel
theorem dX7_plainestOf_11 : decode cX7_plainestOf 11 = .ok (.iload_n 2, 1) := by decide +kernel
theorem dX7_plainestOf_12 : decode cX7_plainestOf 12 = .ok (.ifCond .lt 14, 3) := by decide +kernel
theorem dX7_plainestOf_15 : decode cX7_plainestOf 15 = .ok (.iload_n 3, 1) := by decide +kernel
theorem dX7_plainestOf_16 : decode cX7_plainestOf 16 = .ok (.invokestatic 255, 3) := by decide +kernel
theorem dX7_plainestOf_19 : decode cX7_plainestOf 19 = .ok (.iload_n 2, 1) := by decide +kernel
theorem dX7_plainestOf_20 : decode cX7_plainestOf 20 = .ok (.invokestatic 255, 3) := by decide +kernel
theorem dX7_plainestOf_23 : decode cX7_plainestOf 23 = .ok (.if_icmp .ge 14, 3) := by decide +kernel
theorem dX7_plainestOf_26 : decode cX7_plainestOf 26 = .ok (.aload_n 0, 1) := by decide +kernel
theorem dX7_plainestOf_27 : decode cX7_plainestOf 27 = .ok (.iload_n 3, 1) := by decide +kernel
theorem dX7_plainestOf_28 : decode cX7_plainestOf 28 = .ok (.invokevirtual 252, 3) := by decide +kernel
theorem dX7_plainestOf_31 : decode cX7_plainestOf 31 = .ok (.iload_n 1, 1) := by decide +kernel
theorem dX7_plainestOf_32 : decode cX7_plainestOf 32 = .ok (.if_icmp .gt 5, 3) := by decide +kernel
theorem dX7_plainestOf_35 : decode cX7_plainestOf 35 = .ok (.iload_n 3, 1) := by decide +kernel
theorem dX7_plainestOf_36 : decode cX7_plainestOf 36 = .ok (.istore_n 2, 1) := by decide +kernel
theorem dX7_plainestOf_37 : decode cX7_plainestOf 37 = .ok (.iinc 3 1, 3) := by decide +kernel
theorem dX7_plainestOf_40 : decode cX7_plainestOf 40 = .ok (.goto (-36), 3) := by decide +kernel
theorem dX7_plainestOf_43 : decode cX7_plainestOf 43 = .ok (.iload_n 2, 1) := by decide +kernel
theorem dX7_plainestOf_44 : decode cX7_plainestOf 44 = .ok (.ireturn, 1) := by decide +kernel
theorem dX7_plainest_0 : decode cX7_plainest 0 = .ok (.iload_n 1, 1) := by decide +kernel
theorem dX7_plainest_1 : decode cX7_plainest 1 = .ok (.invokestatic 249, 3) := by decide +kernel
theorem dX7_plainest_4 : decode cX7_plainest 4 = .ok (.ifCond .eq 12, 3) := by decide +kernel
theorem dX7_plainest_7 : decode cX7_plainest 7 = .ok (.iload_n 2, 1) := by decide +kernel
theorem dX7_plainest_8 : decode cX7_plainest 8 = .ok (.iconst 0, 1) := by decide +kernel
theorem dX7_plainest_9 : decode cX7_plainest 9 = .ok (.iconst 5, 1) := by decide +kernel
theorem dX7_plainest_10 : decode cX7_plainest 10 = .ok (.invokestatic 81, 3) := by decide +kernel
theorem dX7_plainest_13 : decode cX7_plainest 13 = .ok (.ifCond .ne 5, 3) := by decide +kernel
theorem dX7_plainest_16 : decode cX7_plainest 16 = .ok (.iconst (-1), 1) := by decide +kernel
theorem dX7_plainest_17 : decode cX7_plainest 17 = .ok (.ireturn, 1) := by decide +kernel
theorem dX7_plainest_18 : decode cX7_plainest 18 = .ok (.aload_n 0, 1) := by decide +kernel
theorem dX7_plainest_19 : decode cX7_plainest 19 = .ok (.iload_n 1, 1) := by decide +kernel
theorem dX7_plainest_20 : decode cX7_plainest 20 = .ok (.invokevirtual 258, 3) := by decide +kernel
theorem dX7_plainest_23 : decode cX7_plainest 23 = .ok (.istore_n 3, 1) := by decide +kernel
theorem dX7_plainest_24 : decode cX7_plainest 24 = .ok (.iload_n 3, 1) := by decide +kernel
theorem dX7_plainest_25 : decode cX7_plainest 25 = .ok (.ifCond .ge 6, 3) := by decide +kernel
theorem dX7_plainest_28 : decode cX7_plainest 28 = .ok (.bipush (-3), 2) := by decide +kernel
theorem dX7_plainest_30 : decode cX7_plainest 30 = .ok (.ireturn, 1) := by decide +kernel
theorem dX7_plainest_31 : decode cX7_plainest 31 = .ok (.iload_n 2, 1) := by decide +kernel
theorem dX7_plainest_32 : decode cX7_plainest 32 = .ok (.tableswitch 61 0 4 #[36, 41, 46, 51, 56], 36) := by decide +kernel
theorem dX7_plainest_68 : decode cX7_plainest 68 = .ok (.iload_n 3, 1) := by decide +kernel
theorem dX7_plainest_69 : decode cX7_plainest 69 = .ok (.invokestatic 237, 3) := by decide +kernel
theorem dX7_plainest_72 : decode cX7_plainest 72 = .ok (.ireturn, 1) := by decide +kernel
theorem dX7_plainest_73 : decode cX7_plainest 73 = .ok (.iload_n 3, 1) := by decide +kernel
theorem dX7_plainest_74 : decode cX7_plainest 74 = .ok (.invokestatic 240, 3) := by decide +kernel
theorem dX7_plainest_77 : decode cX7_plainest 77 = .ok (.ireturn, 1) := by decide +kernel
theorem dX7_plainest_78 : decode cX7_plainest 78 = .ok (.iload_n 3, 1) := by decide +kernel
theorem dX7_plainest_79 : decode cX7_plainest 79 = .ok (.invokestatic 243, 3) := by decide +kernel
theorem dX7_plainest_82 : decode cX7_plainest 82 = .ok (.ireturn, 1) := by decide +kernel
theorem dX7_plainest_83 : decode cX7_plainest 83 = .ok (.iload_n 3, 1) := by decide +kernel
theorem dX7_plainest_84 : decode cX7_plainest 84 = .ok (.invokestatic 246, 3) := by decide +kernel
theorem dX7_plainest_87 : decode cX7_plainest 87 = .ok (.ireturn, 1) := by decide +kernel
theorem dX7_plainest_88 : decode cX7_plainest 88 = .ok (.iload_n 3, 1) := by decide +kernel
theorem dX7_plainest_89 : decode cX7_plainest 89 = .ok (.invokestatic 255, 3) := by decide +kernel
theorem dX7_plainest_92 : decode cX7_plainest 92 = .ok (.ireturn, 1) := by decide +kernel
theorem dX7_plainest_93 : decode cX7_plainest 93 = .ok (.aload_n 0, 1) := by decide +kernel
theorem dX7_plainest_94 : decode cX7_plainest 94 = .ok (.iload_n 3, 1) := by decide +kernel
theorem dX7_plainest_95 : decode cX7_plainest 95 = .ok (.invokevirtual 252, 3) := by decide +kernel
theorem dX7_plainest_98 : decode cX7_plainest 98 = .ok (.ireturn, 1) := by decide +kernel
theorem dX7_shareOf_0 : decode cX7_shareOf 0 = .ok (.iconst 1, 1) := by decide +kernel
theorem dX7_shareOf_1 : decode cX7_shareOf 1 = .ok (.iconst 2, 1) := by decide +kernel
theorem dX7_shareOf_2 : decode cX7_shareOf 2 = .ok (.iconst 4, 1) := by decide +kernel
theorem dX7_shareOf_3 : decode cX7_shareOf 3 = .ok (.iload_n 0, 1) := by decide +kernel
theorem dX7_shareOf_4 : decode cX7_shareOf 4 = .ok (.invokestatic 255, 3) := by decide +kernel
theorem dX7_shareOf_7 : decode cX7_shareOf 7 = .ok (.isub, 1) := by decide +kernel
theorem dX7_shareOf_8 : decode cX7_shareOf 8 = .ok (.imul, 1) := by decide +kernel
theorem dX7_shareOf_9 : decode cX7_shareOf 9 = .ok (.ishl, 1) := by decide +kernel
theorem dX7_shareOf_10 : decode cX7_shareOf 10 = .ok (.ireturn, 1) := by decide +kernel
theorem dX7_findShares_0 : decode cX7_findShares 0 = .ok (.iconst 0, 1) := by decide +kernel
theorem dX7_findShares_1 : decode cX7_findShares 1 = .ok (.istore_n 3, 1) := by decide +kernel
theorem dX7_findShares_2 : decode cX7_findShares 2 = .ok (.iconst 0, 1) := by decide +kernel
theorem dX7_findShares_3 : decode cX7_findShares 3 = .ok (.istore 4, 2) := by decide +kernel
theorem dX7_findShares_5 : decode cX7_findShares 5 = .ok (.iload 4, 2) := by decide +kernel
theorem dX7_findShares_7 : decode cX7_findShares 7 = .ok (.bipush 10, 2) := by decide +kernel
theorem dX7_findShares_9 : decode cX7_findShares 9 = .ok (.if_icmp .ge 17, 3) := by decide +kernel
theorem dX7_findShares_12 : decode cX7_findShares 12 = .ok (.aload_n 0, 1) := by decide +kernel
theorem dX7_findShares_13 : decode cX7_findShares 13 = .ok (.getfield 41, 3) := by decide +kernel
theorem dX7_findShares_16 : decode cX7_findShares 16 = .ok (.iload 4, 2) := by decide +kernel
theorem dX7_findShares_18 : decode cX7_findShares 18 = .ok (.iconst 0, 1) := by decide +kernel
theorem dX7_findShares_19 : decode cX7_findShares 19 = .ok (.iastore, 1) := by decide +kernel
theorem dX7_findShares_20 : decode cX7_findShares 20 = .ok (.iinc 4 1, 3) := by decide +kernel
theorem dX7_findShares_23 : decode cX7_findShares 23 = .ok (.goto (-18), 3) := by decide +kernel
