theorem dX8_init_0 : decode cX8_init 0 = .ok (.aload_n 0, 1) := by decide +kernel
theorem dX8_init_1 : decode cX8_init 1 = .ok (.invokespecial 1, 3) := by decide +kernel
theorem dX8_init_4 : decode cX8_init 4 = .ok (.aload_n 0, 1) := by decide +kernel
theorem dX8_init_5 : decode cX8_init 5 = .ok (.bipush 8, 2) := by decide +kernel
theorem dX8_init_7 : decode cX8_init 7 = .ok (.newarray .int, 2) := by decide +kernel
theorem dX8_init_9 : decode cX8_init 9 = .ok (.putfield 7, 3) := by decide +kernel
theorem dX8_init_12 : decode cX8_init 12 = .ok (.aload_n 0, 1) := by decide +kernel
theorem dX8_init_13 : decode cX8_init 13 = .ok (.bipush 10, 2) := by decide +kernel
theorem dX8_init_15 : decode cX8_init 15 = .ok (.newarray .int, 2) := by decide +kernel
theorem dX8_init_17 : decode cX8_init 17 = .ok (.putfield 13, 3) := by decide +kernel
theorem dX8_init_20 : decode cX8_init 20 = .ok (.aload_n 0, 1) := by decide +kernel
theorem dX8_init_21 : decode cX8_init 21 = .ok (.bipush 10, 2) := by decide +kernel
theorem dX8_init_23 : decode cX8_init 23 = .ok (.newarray .int, 2) := by decide +kernel
theorem dX8_init_25 : decode cX8_init 25 = .ok (.putfield 16, 3) := by decide +kernel
theorem dX8_init_28 : decode cX8_init 28 = .ok (.aload_n 0, 1) := by decide +kernel
theorem dX8_init_29 : decode cX8_init 29 = .ok (.bipush 10, 2) := by decide +kernel
theorem dX8_init_31 : decode cX8_init 31 = .ok (.newarray .int, 2) := by decide +kernel
theorem dX8_init_33 : decode cX8_init 33 = .ok (.putfield 19, 3) := by decide +kernel
theorem dX8_init_36 : decode cX8_init 36 = .ok (.aload_n 0, 1) := by decide +kernel
theorem dX8_init_37 : decode cX8_init 37 = .ok (.bipush 10, 2) := by decide +kernel
theorem dX8_init_39 : decode cX8_init 39 = .ok (.newarray .int, 2) := by decide +kernel
theorem dX8_init_41 : decode cX8_init 41 = .ok (.putfield 22, 3) := by decide +kernel
theorem dX8_init_44 : decode cX8_init 44 = .ok (.aload_n 0, 1) := by decide +kernel
theorem dX8_init_45 : decode cX8_init 45 = .ok (.bipush 10, 2) := by decide +kernel
theorem dX8_init_47 : decode cX8_init 47 = .ok (.newarray .int, 2) := by decide +kernel
theorem dX8_init_49 : decode cX8_init 49 = .ok (.putfield 25, 3) := by decide +kernel
theorem dX8_init_52 : decode cX8_init 52 = .ok (.aload_n 0, 1) := by decide +kernel
theorem dX8_init_53 : decode cX8_init 53 = .ok (.bipush 10, 2) := by decide +kernel
theorem dX8_init_55 : decode cX8_init 55 = .ok (.newarray .int, 2) := by decide +kernel
theorem dX8_init_57 : decode cX8_init 57 = .ok (.putfield 28, 3) := by decide +kernel
theorem dX8_init_60 : decode cX8_init 60 = .ok (.aload_n 0, 1) := by decide +kernel
theorem dX8_init_61 : decode cX8_init 61 = .ok (.bipush 9, 2) := by decide +kernel
theorem dX8_init_63 : decode cX8_init 63 = .ok (.newarray .int, 2) := by decide +kernel
theorem dX8_init_65 : decode cX8_init 65 = .ok (.putfield 31, 3) := by decide +kernel
theorem dX8_init_68 : decode cX8_init 68 = .ok (.aload_n 0, 1) := by decide +kernel
theorem dX8_init_69 : decode cX8_init 69 = .ok (.sipush 240, 3) := by decide +kernel
theorem dX8_init_72 : decode cX8_init 72 = .ok (.newarray .int, 2) := by decide +kernel
theorem dX8_init_74 : decode cX8_init 74 = .ok (.putfield 34, 3) := by decide +kernel
theorem dX8_init_77 : decode cX8_init 77 = .ok (.aload_n 0, 1) := by decide +kernel
theorem dX8_init_78 : decode cX8_init 78 = .ok (.iconst (-1), 1) := by decide +kernel
theorem dX8_init_79 : decode cX8_init 79 = .ok (.putfield 37, 3) := by decide +kernel
theorem dX8_init_82 : decode cX8_init 82 = .ok (.aload_n 0, 1) := by decide +kernel
theorem dX8_init_83 : decode cX8_init 83 = .ok (.iconst 2, 1) := by decide +kernel
theorem dX8_init_84 : decode cX8_init 84 = .ok (.newarray .int, 2) := by decide +kernel
theorem dX8_init_86 : decode cX8_init 86 = .ok (.putfield 41, 3) := by decide +kernel
theorem dX8_init_89 : decode cX8_init 89 = .ok (.aload_n 0, 1) := by decide +kernel
theorem dX8_init_90 : decode cX8_init 90 = .ok (.bipush 8, 2) := by decide +kernel
theorem dX8_init_92 : decode cX8_init 92 = .ok (.newarray .int, 2) := by decide +kernel
theorem dX8_init_94 : decode cX8_init 94 = .ok (.putfield 44, 3) := by decide +kernel
theorem dX8_init_97 : decode cX8_init 97 = .ok (.aload_n 0, 1) := by decide +kernel
theorem dX8_init_98 : decode cX8_init 98 = .ok (.bipush 10, 2) := by decide +kernel
theorem dX8_init_100 : decode cX8_init 100 = .ok (.newarray .int, 2) := by decide +kernel
theorem dX8_init_102 : decode cX8_init 102 = .ok (.putfield 47, 3) := by decide +kernel
theorem dX8_init_105 : decode cX8_init 105 = .ok (.aload_n 0, 1) := by decide +kernel
theorem dX8_init_106 : decode cX8_init 106 = .ok (.bipush 10, 2) := by decide +kernel
theorem dX8_init_108 : decode cX8_init 108 = .ok (.newarray .int, 2) := by decide +kernel
theorem dX8_init_110 : decode cX8_init 110 = .ok (.putfield 50, 3) := by decide +kernel
theorem dX8_init_113 : decode cX8_init 113 = .ok (.aload_n 0, 1) := by decide +kernel
theorem dX8_init_114 : decode cX8_init 114 = .ok (.bipush 10, 2) := by decide +kernel
theorem dX8_init_116 : decode cX8_init 116 = .ok (.newarray .int, 2) := by decide +kernel
theorem dX8_init_118 : decode cX8_init 118 = .ok (.putfield 53, 3) := by decide +kernel
theorem dX8_init_121 : decode cX8_init 121 = .ok (.aload_n 0, 1) := by decide +kernel
theorem dX8_init_122 : decode cX8_init 122 = .ok (.bipush 10, 2) := by decide +kernel
theorem dX8_init_124 : decode cX8_init 124 = .ok (.newarray .int, 2) := by decide +kernel
theorem dX8_init_126 : decode cX8_init 126 = .ok (.putfield 56, 3) := by decide +kernel
theorem dX8_init_129 : decode cX8_init 129 = .ok (.aload_n 0, 1) := by decide +kernel
theorem dX8_init_130 : decode cX8_init 130 = .ok (.bipush 10, 2) := by decide +kernel
theorem dX8_init_132 : decode cX8_init 132 = .ok (.newarray .int, 2) := by decide +kernel
theorem dX8_init_134 : decode cX8_init 134 = .ok (.putfield 59, 3) := by decide +kernel
theorem dX8_init_137 : decode cX8_init 137 = .ok (.aload_n 0, 1) := by decide +kernel
theorem dX8_init_138 : decode cX8_init 138 = .ok (.bipush 10, 2) := by decide +kernel
theorem dX8_init_140 : decode cX8_init 140 = .ok (.newarray .int, 2) := by decide +kernel
theorem dX8_init_142 : decode cX8_init 142 = .ok (.putfield 62, 3) := by decide +kernel
theorem dX8_init_145 : decode cX8_init 145 = .ok (.aload_n 0, 1) := by decide +kernel
theorem dX8_init_146 : decode cX8_init 146 = .ok (.iconst 5, 1) := by decide +kernel
theorem dX8_init_147 : decode cX8_init 147 = .ok (.newarray .int, 2) := by decide +kernel
theorem dX8_init_149 : decode cX8_init 149 = .ok (.putfield 65, 3) := by decide +kernel
theorem dX8_init_152 : decode cX8_init 152 = .ok (.aload_n 0, 1) := by decide +kernel
theorem dX8_init_153 : decode cX8_init 153 = .ok (.sipush 180, 3) := by decide +kernel
theorem dX8_init_156 : decode cX8_init 156 = .ok (.newarray .int, 2) := by decide +kernel
theorem dX8_init_158 : decode cX8_init 158 = .ok (.putfield 68, 3) := by decide +kernel
theorem dX8_init_161 : decode cX8_init 161 = .ok (.aload_n 0, 1) := by decide +kernel
theorem dX8_init_162 : decode cX8_init 162 = .ok (.bipush 8, 2) := by decide +kernel
theorem dX8_init_164 : decode cX8_init 164 = .ok (.newarray .int, 2) := by decide +kernel
theorem dX8_init_166 : decode cX8_init 166 = .ok (.putfield 71, 3) := by decide +kernel
theorem dX8_init_169 : decode cX8_init 169 = .ok (.aload_n 0, 1) := by decide +kernel
theorem dX8_init_170 : decode cX8_init 170 = .ok (.bipush 6, 2) := by decide +kernel
theorem dX8_init_172 : decode cX8_init 172 = .ok (.newarray .int, 2) := by decide +kernel
theorem dX8_init_174 : decode cX8_init 174 = .ok (.putfield 74, 3) := by decide +kernel
theorem dX8_init_177 : decode cX8_init 177 = .ok (.aload_n 0, 1) := by decide +kernel
theorem dX8_init_178 : decode cX8_init 178 = .ok (.bipush 6, 2) := by decide +kernel
theorem dX8_init_180 : decode cX8_init 180 = .ok (.newarray .int, 2) := by decide +kernel
theorem dX8_init_182 : decode cX8_init 182 = .ok (.putfield 77, 3) := by decide +kernel
theorem dX8_init_185 : decode cX8_init 185 = .ok (.aload_n 0, 1) := by decide +kernel
theorem dX8_init_186 : decode cX8_init 186 = .ok (.bipush 6, 2) := by decide +kernel
theorem dX8_init_188 : decode cX8_init 188 = .ok (.newarray .boolean, 2) := by decide +kernel
theorem dX8_init_190 : decode cX8_init 190 = .ok (.putfield 80, 3) := by decide +kernel
theorem dX8_init_193 : decode cX8_init 193 = .ok (.aload_n 0, 1) := by decide +kernel
theorem dX8_init_194 : decode cX8_init 194 = .ok (.bipush 8, 2) := by decide +kernel
theorem dX8_init_196 : decode cX8_init 196 = .ok (.newarray .int, 2) := by decide +kernel
theorem dX8_init_198 : decode cX8_init 198 = .ok (.putfield 84, 3) := by decide +kernel
theorem dX8_init_201 : decode cX8_init 201 = .ok (.aload_n 0, 1) := by decide +kernel
theorem dX8_init_202 : decode cX8_init 202 = .ok (.bipush 15, 2) := by decide +kernel
theorem dX8_init_204 : decode cX8_init 204 = .ok (.newarray .int, 2) := by decide +kernel
theorem dX8_init_206 : decode cX8_init 206 = .ok (.putfield 87, 3) := by decide +kernel
theorem dX8_init_209 : decode cX8_init 209 = .ok (.aload_n 0, 1) := by decide +kernel
theorem dX8_init_210 : decode cX8_init 210 = .ok (.bipush 15, 2) := by decide +kernel
theorem dX8_init_212 : decode cX8_init 212 = .ok (.newarray .int, 2) := by decide +kernel
theorem dX8_init_214 : decode cX8_init 214 = .ok (.putfield 90, 3) := by decide +kernel
theorem dX8_init_217 : decode cX8_init 217 = .ok (.aload_n 0, 1) := by decide +kernel
theorem dX8_init_218 : decode cX8_init 218 = .ok (.bipush 20, 2) := by decide +kernel
theorem dX8_init_220 : decode cX8_init 220 = .ok (.newarray .int, 2) := by decide +kernel
theorem dX8_init_222 : decode cX8_init 222 = .ok (.putfield 93, 3) := by decide +kernel
theorem dX8_init_225 : decode cX8_init 225 = .ok (.aload_n 0, 1) := by decide +kernel
theorem dX8_init_226 : decode cX8_init 226 = .ok (.iconst 2, 1) := by decide +kernel
theorem dX8_init_227 : decode cX8_init 227 = .ok (.newarray .boolean, 2) := by decide +kernel
theorem dX8_init_229 : decode cX8_init 229 = .ok (.putfield 96, 3) := by decide +kernel
theorem dX8_init_232 : decode cX8_init 232 = .ok (.aload_n 0, 1) := by decide +kernel
theorem dX8_init_233 : decode cX8_init 233 = .ok (.iconst 0, 1) := by decide +kernel
theorem dX8_init_234 : decode cX8_init 234 = .ok (.putfield 99, 3) := by decide +kernel
theorem dX8_init_237 : decode cX8_init 237 = .ok (.return_, 1) := by decide +kernel
theorem dX8_in_0 : decode cX8_in 0 = .ok (.lload_n 0, 1) := by decide +kernel
theorem dX8_in_1 : decode cX8_in 1 = .ok (.lload_n 2, 1) := by decide +kernel
theorem dX8_in_2 : decode cX8_in 2 = .ok (.lcmp, 1) := by decide +kernel
theorem dX8_in_3 : decode cX8_in 3 = .ok (.ifCond .lt 14, 3) := by decide +kernel
theorem dX8_in_6 : decode cX8_in 6 = .ok (.lload_n 0, 1) := by decide +kernel
theorem dX8_in_7 : decode cX8_in 7 = .ok (.lload 4, 2) := by decide +kernel
theorem dX8_in_9 : decode cX8_in 9 = .ok (.lcmp, 1) := by decide +kernel
theorem dX8_in_10 : decode cX8_in 10 = .ok (.ifCond .gt 7, 3) := by decide +kernel
theorem dX8_in_13 : decode cX8_in 13 = .ok (.iconst 1, 1) := by decide +kernel
theorem dX8_in_14 : decode cX8_in 14 = .ok (.goto 4, 3) := by decide +kernel
theorem dX8_in_17 : decode cX8_in 17 = .ok (.iconst 0, 1) := by decide +kernel
theorem dX8_in_18 : decode cX8_in 18 = .ok (.ireturn, 1) := by decide +kernel
theorem dX8_has_0 : decode cX8_has 0 = .ok (.iload_n 0, 1) := by decide +kernel
theorem dX8_has_1 : decode cX8_has 1 = .ok (.iload_n 1, 1) := by decide +kernel
theorem dX8_has_2 : decode cX8_has 2 = .ok (.ishr, 1) := by decide +kernel
theorem dX8_has_3 : decode cX8_has 3 = .ok (.iconst 1, 1) := by decide +kernel
theorem dX8_has_4 : decode cX8_has 4 = .ok (.iand, 1) := by decide +kernel
theorem dX8_has_5 : decode cX8_has 5 = .ok (.iconst 1, 1) := by decide +kernel
theorem dX8_has_6 : decode cX8_has 6 = .ok (.if_icmp .ne 7, 3) := by decide +kernel
theorem dX8_has_9 : decode cX8_has 9 = .ok (.iconst 1, 1) := by decide +kernel
theorem dX8_has_10 : decode cX8_has 10 = .ok (.goto 4, 3) := by decide +kernel
theorem dX8_has_13 : decode cX8_has 13 = .ok (.iconst 0, 1) := by decide +kernel
theorem dX8_has_14 : decode cX8_has 14 = .ok (.ireturn, 1) := by decide +kernel
theorem dX8_bits_0 : decode cX8_bits 0 = .ok (.iconst 0, 1) := by decide +kernel
theorem dX8_bits_1 : decode cX8_bits 1 = .ok (.istore_n 1, 1) := by decide +kernel
theorem dX8_bits_2 : decode cX8_bits 2 = .ok (.iconst 0, 1) := by decide +kernel
theorem dX8_bits_3 : decode cX8_bits 3 = .ok (.istore_n 2, 1) := by decide +kernel
theorem dX8_bits_4 : decode cX8_bits 4 = .ok (.iload_n 2, 1) := by decide +kernel
theorem dX8_bits_5 : decode cX8_bits 5 = .ok (.bipush 8, 2) := by decide +kernel
theorem dX8_bits_7 : decode cX8_bits 7 = .ok (.if_icmp .ge 17, 3) := by decide +kernel
theorem dX8_bits_10 : decode cX8_bits 10 = .ok (.iload_n 1, 1) := by decide +kernel
theorem dX8_bits_11 : decode cX8_bits 11 = .ok (.iload_n 0, 1) := by decide +kernel
theorem dX8_bits_12 : decode cX8_bits 12 = .ok (.iload_n 2, 1) := by decide +kernel
theorem dX8_bits_13 : decode cX8_bits 13 = .ok (.ishr, 1) := by decide +kernel
theorem dX8_bits_14 : decode cX8_bits 14 = .ok (.iconst 1, 1) := by decide +kernel
theorem dX8_bits_15 : decode cX8_bits 15 = .ok (.iand, 1) := by decide +kernel
theorem dX8_bits_16 : decode cX8_bits 16 = .ok (.iadd, 1) := by decide +kernel
theorem dX8_bits_17 : decode cX8_bits 17 = .ok (.istore_n 1, 1) := by decide +kernel
theorem dX8_bits_18 : decode cX8_bits 18 = .ok (.iinc 2 1, 3) := by decide +kernel
theorem dX8_bits_21 : decode cX8_bits 21 = .ok (.goto (-17), 3) := by decide +kernel
theorem dX8_bits_24 : decode cX8_bits 24 = .ok (.iload_n 1, 1) := by decide +kernel
theorem dX8_bits_25 : decode cX8_bits 25 = .ok (.ireturn, 1) := by decide +kernel
theorem dX8_atMost_0 : decode cX8_atMost 0 = .ok (.iload_n 0, 1) := by decide +kernel
theorem dX8_atMost_1 : decode cX8_atMost 1 = .ok (.ldc 102, 2) := by decide +kernel
theorem dX8_atMost_3 : decode cX8_atMost 3 = .ok (.if_icmp .ge 7, 3) := by decide +kernel
theorem dX8_atMost_6 : decode cX8_atMost 6 = .ok (.iload_n 0, 1) := by decide +kernel
theorem dX8_atMost_7 : decode cX8_atMost 7 = .ok (.goto 5, 3) := by decide +kernel
theorem dX8_atMost_10 : decode cX8_atMost 10 = .ok (.ldc 102, 2) := by decide +kernel
theorem dX8_atMost_12 : decode cX8_atMost 12 = .ok (.ireturn, 1) := by decide +kernel
theorem dX8_isIdea_0 : decode cX8_isIdea 0 = .ok (.iload_n 1, 1) := by decide +kernel
theorem dX8_isIdea_1 : decode cX8_isIdea 1 = .ok (.i2l, 1) := by decide +kernel
theorem dX8_isIdea_2 : decode cX8_isIdea 2 = .ok (.lconst 0, 1) := by decide +kernel
theorem dX8_isIdea_3 : decode cX8_isIdea 3 = .ok (.aload_n 0, 1) := by decide +kernel
theorem dX8_isIdea_4 : decode cX8_isIdea 4 = .ok (.getfield 103, 3) := by decide +kernel
theorem dX8_isIdea_7 : decode cX8_isIdea 7 = .ok (.iconst 1, 1) := by decide +kernel
theorem dX8_isIdea_8 : decode cX8_isIdea 8 = .ok (.isub, 1) := by decide +kernel
theorem dX8_isIdea_9 : decode cX8_isIdea 9 = .ok (.i2l, 1) := by decide +kernel
theorem dX8_isIdea_10 : decode cX8_isIdea 10 = .ok (.invokestatic 106, 3) := by decide +kernel
theorem dX8_isIdea_13 : decode cX8_isIdea 13 = .ok (.ireturn, 1) := by decide +kernel
theorem dX8_isSet_0 : decode cX8_isSet 0 = .ok (.iload_n 1, 1) := by decide +kernel
theorem dX8_isSet_1 : decode cX8_isSet 1 = .ok (.i2l, 1) := by decide +kernel
theorem dX8_isSet_2 : decode cX8_isSet 2 = .ok (.lconst 0, 1) := by decide +kernel
theorem dX8_isSet_3 : decode cX8_isSet 3 = .ok (.iconst 1, 1) := by decide +kernel
theorem dX8_isSet_4 : decode cX8_isSet 4 = .ok (.aload_n 0, 1) := by decide +kernel
theorem dX8_isSet_5 : decode cX8_isSet 5 = .ok (.getfield 103, 3) := by decide +kernel
theorem dX8_isSet_8 : decode cX8_isSet 8 = .ok (.ishl, 1) := by decide +kernel
theorem dX8_isSet_9 : decode cX8_isSet 9 = .ok (.iconst 1, 1) := by decide +kernel
theorem dX8_isSet_10 : decode cX8_isSet 10 = .ok (.isub, 1) := by decide +kernel
theorem dX8_isSet_11 : decode cX8_isSet 11 = .ok (.i2l, 1) := by decide +kernel
theorem dX8_isSet_12 : decode cX8_isSet 12 = .ok (.invokestatic 106, 3) := by decide +kernel
theorem dX8_isSet_15 : decode cX8_isSet 15 = .ok (.ireturn, 1) := by decide +kernel
theorem dX8_isTraveller_0 : decode cX8_isTraveller 0 = .ok (.iload_n 1, 1) := by decide +kernel
theorem dX8_isTraveller_1 : decode cX8_isTraveller 1 = .ok (.i2l, 1) := by decide +kernel
theorem dX8_isTraveller_2 : decode cX8_isTraveller 2 = .ok (.lconst 0, 1) := by decide +kernel
theorem dX8_isTraveller_3 : decode cX8_isTraveller 3 = .ok (.aload_n 0, 1) := by decide +kernel
theorem dX8_isTraveller_4 : decode cX8_isTraveller 4 = .ok (.getfield 110, 3) := by decide +kernel
theorem dX8_isTraveller_7 : decode cX8_isTraveller 7 = .ok (.iconst 1, 1) := by decide +kernel
theorem dX8_isTraveller_8 : decode cX8_isTraveller 8 = .ok (.isub, 1) := by decide +kernel
theorem dX8_isTraveller_9 : decode cX8_isTraveller 9 = .ok (.i2l, 1) := by decide +kernel
theorem dX8_isTraveller_10 : decode cX8_isTraveller 10 = .ok (.invokestatic 106, 3) := by decide +kernel
theorem dX8_isTraveller_13 : decode cX8_isTraveller 13 = .ok (.ireturn, 1) := by decide +kernel
theorem dX8_feed_0 : decode cX8_feed 0 = .ok (.iload_n 1, 1) := by decide +kernel
theorem dX8_feed_1 : decode cX8_feed 1 = .ok (.i2l, 1) := by decide +kernel
theorem dX8_feed_2 : decode cX8_feed 2 = .ok (.lconst 0, 1) := by decide +kernel
theorem dX8_feed_3 : decode cX8_feed 3 = .ok (.ldc2_w 113, 3) := by decide +kernel
theorem dX8_feed_6 : decode cX8_feed 6 = .ok (.invokestatic 106, 3) := by decide +kernel
theorem dX8_feed_9 : decode cX8_feed 9 = .ok (.ifCond .ne 6, 3) := by decide +kernel
theorem dX8_feed_12 : decode cX8_feed 12 = .ok (.ldc 115, 2) := by decide +kernel
theorem dX8_feed_14 : decode cX8_feed 14 = .ok (.ireturn, 1) := by decide +kernel
theorem dX8_feed_15 : decode cX8_feed 15 = .ok (.aload_n 0, 1) := by decide +kernel
theorem dX8_feed_16 : decode cX8_feed 16 = .ok (.getfield 116, 3) := by decide +kernel
theorem dX8_feed_19 : decode cX8_feed 19 = .ok (.sipush 240, 3) := by decide +kernel
theorem dX8_feed_22 : decode cX8_feed 22 = .ok (.if_icmp .ne 6, 3) := by decide +kernel
theorem dX8_feed_25 : decode cX8_feed 25 = .ok (.ldc 119, 2) := by decide +kernel
theorem dX8_feed_27 : decode cX8_feed 27 = .ok (.ireturn, 1) := by decide +kernel
theorem dX8_feed_28 : decode cX8_feed 28 = .ok (.aload_n 0, 1) := by decide +kernel
theorem dX8_feed_29 : decode cX8_feed 29 = .ok (.getfield 34, 3) := by decide +kernel
theorem dX8_feed_32 : decode cX8_feed 32 = .ok (.aload_n 0, 1) := by decide +kernel
theorem dX8_feed_33 : decode cX8_feed 33 = .ok (.getfield 116, 3) := by decide +kernel
theorem dX8_feed_36 : decode cX8_feed 36 = .ok (.iload_n 1, 1) := by decide +kernel
theorem dX8_feed_37 : decode cX8_feed 37 = .ok (.iastore, 1) := by decide +kernel
theorem dX8_feed_38 : decode cX8_feed 38 = .ok (.aload_n 0, 1) := by decide +kernel
theorem dX8_feed_39 : decode cX8_feed 39 = .ok (.dup, 1) := by decide +kernel
theorem dX8_feed_40 : decode cX8_feed 40 = .ok (.getfield 116, 3) := by decide +kernel
theorem dX8_feed_43 : decode cX8_feed 43 = .ok (.iconst 1, 1) := by decide +kernel
theorem dX8_feed_44 : decode cX8_feed 44 = .ok (.iadd, 1) := by decide +kernel
theorem dX8_feed_45 : decode cX8_feed 45 = .ok (.putfield 116, 3) := by decide +kernel
theorem dX8_feed_48 : decode cX8_feed 48 = .ok (.aload_n 0, 1) := by decide +kernel
theorem dX8_feed_49 : decode cX8_feed 49 = .ok (.getfield 116, 3) := by decide +kernel
theorem dX8_feed_52 : decode cX8_feed 52 = .ok (.ireturn, 1) := by decide +kernel
theorem dX8_here_0 : decode cX8_here 0 = .ok (.aload_n 0, 1) := by decide +kernel
theorem dX8_here_1 : decode cX8_here 1 = .ok (.getfield 120, 3) := by decide +kernel
theorem dX8_here_4 : decode cX8_here 4 = .ok (.aload_n 0, 1) := by decide +kernel
theorem dX8_here_5 : decode cX8_here 5 = .ok (.getfield 116, 3) := by decide +kernel
theorem dX8_here_8 : decode cX8_here 8 = .ok (.if_icmp .ge 30, 3) := by decide +kernel
theorem dX8_here_11 : decode cX8_here 11 = .ok (.aload_n 0, 1) := by decide +kernel
theorem dX8_here_12 : decode cX8_here 12 = .ok (.getfield 34, 3) := by decide +kernel
theorem dX8_here_15 : decode cX8_here 15 = .ok (.aload_n 0, 1) := by decide +kernel
theorem dX8_here_16 : decode cX8_here 16 = .ok (.getfield 120, 3) := by decide +kernel
theorem dX8_here_19 : decode cX8_here 19 = .ok (.iaload, 1) := by decide +kernel
theorem dX8_here_20 : decode cX8_here 20 = .ok (.bipush 32, 2) := by decide +kernel
theorem dX8_here_22 : decode cX8_here 22 = .ok (.if_icmp .ne 16, 3) := by decide +kernel
theorem dX8_here_25 : decode cX8_here 25 = .ok (.aload_n 0, 1) := by decide +kernel
theorem dX8_here_26 : decode cX8_here 26 = .ok (.dup, 1) := by decide +kernel
theorem dX8_here_27 : decode cX8_here 27 = .ok (.getfield 120, 3) := by decide +kernel
theorem dX8_here_30 : decode cX8_here 30 = .ok (.iconst 1, 1) := by decide +kernel
theorem dX8_here_31 : decode cX8_here 31 = .ok (.iadd, 1) := by decide +kernel
theorem dX8_here_32 : decode cX8_here 32 = .ok (.putfield 120, 3) := by decide +kernel
theorem dX8_here_35 : decode cX8_here 35 = .ok (.goto (-35), 3) := by decide +kernel
theorem dX8_here_38 : decode cX8_here 38 = .ok (.aload_n 0, 1) := by decide +kernel
theorem dX8_here_39 : decode cX8_here 39 = .ok (.getfield 120, 3) := by decide +kernel
theorem dX8_here_42 : decode cX8_here 42 = .ok (.aload_n 0, 1) := by decide +kernel
theorem dX8_here_43 : decode cX8_here 43 = .ok (.getfield 116, 3) := by decide +kernel
theorem dX8_here_46 : decode cX8_here 46 = .ok (.if_icmp .ge 15, 3) := by decide +kernel
theorem dX8_here_49 : decode cX8_here 49 = .ok (.aload_n 0, 1) := by decide +kernel
theorem dX8_here_50 : decode cX8_here 50 = .ok (.getfield 34, 3) := by decide +kernel
theorem dX8_here_53 : decode cX8_here 53 = .ok (.aload_n 0, 1) := by decide +kernel
theorem dX8_here_54 : decode cX8_here 54 = .ok (.getfield 120, 3) := by decide +kernel
theorem dX8_here_57 : decode cX8_here 57 = .ok (.iaload, 1) := by decide +kernel
theorem dX8_here_58 : decode cX8_here 58 = .ok (.goto 4, 3) := by decide +kernel
theorem dX8_here_61 : decode cX8_here 61 = .ok (.iconst (-1), 1) := by decide +kernel
theorem dX8_here_62 : decode cX8_here 62 = .ok (.ireturn, 1) := by decide +kernel
theorem dX8_fails_0 : decode cX8_fails 0 = .ok (.aload_n 0, 1) := by decide +kernel
theorem dX8_fails_1 : decode cX8_fails 1 = .ok (.iload_n 2, 1) := by decide +kernel
theorem dX8_fails_2 : decode cX8_fails 2 = .ok (.putfield 37, 3) := by decide +kernel
theorem dX8_fails_5 : decode cX8_fails 5 = .ok (.iload_n 1, 1) := by decide +kernel
theorem dX8_fails_6 : decode cX8_fails 6 = .ok (.ireturn, 1) := by decide +kernel
theorem dX8_takeNumber_0 : decode cX8_takeNumber 0 = .ok (.aload_n 0, 1) := by decide +kernel
theorem dX8_takeNumber_1 : decode cX8_takeNumber 1 = .ok (.invokevirtual 123, 3) := by decide +kernel
theorem dX8_takeNumber_4 : decode cX8_takeNumber 4 = .ok (.istore_n 3, 1) := by decide +kernel
theorem dX8_takeNumber_5 : decode cX8_takeNumber 5 = .ok (.iload_n 3, 1) := by decide +kernel
theorem dX8_takeNumber_6 : decode cX8_takeNumber 6 = .ok (.i2l, 1) := by decide +kernel
theorem dX8_takeNumber_7 : decode cX8_takeNumber 7 = .ok (.ldc2_w 127, 3) := by decide +kernel
theorem dX8_takeNumber_10 : decode cX8_takeNumber 10 = .ok (.ldc2_w 129, 3) := by decide +kernel
theorem dX8_takeNumber_13 : decode cX8_takeNumber 13 = .ok (.invokestatic 106, 3) := by decide +kernel
theorem dX8_takeNumber_16 : decode cX8_takeNumber 16 = .ok (.ifCond .ne 13, 3) := by decide +kernel
theorem dX8_takeNumber_19 : decode cX8_takeNumber 19 = .ok (.aload_n 0, 1) := by decide +kernel
theorem dX8_takeNumber_20 : decode cX8_takeNumber 20 = .ok (.iconst 1, 1) := by decide +kernel
theorem dX8_takeNumber_21 : decode cX8_takeNumber 21 = .ok (.aload_n 0, 1) := by decide +kernel
theorem dX8_takeNumber_22 : decode cX8_takeNumber 22 = .ok (.getfield 120, 3) := by decide +kernel
theorem dX8_takeNumber_25 : decode cX8_takeNumber 25 = .ok (.invokevirtual 131, 3) := by decide +kernel
theorem dX8_takeNumber_28 : decode cX8_takeNumber 28 = .ok (.ireturn, 1) := by decide +kernel
theorem dX8_takeNumber_29 : decode cX8_takeNumber 29 = .ok (.aload_n 0, 1) := by decide +kernel
theorem dX8_takeNumber_30 : decode cX8_takeNumber 30 = .ok (.aload_n 0, 1) := by decide +kernel
theorem dX8_takeNumber_31 : decode cX8_takeNumber 31 = .ok (.getfield 120, 3) := by decide +kernel
theorem dX8_takeNumber_34 : decode cX8_takeNumber 34 = .ok (.putfield 135, 3) := by decide +kernel
theorem dX8_takeNumber_37 : decode cX8_takeNumber 37 = .ok (.aload_n 0, 1) := by decide +kernel
theorem dX8_takeNumber_38 : decode cX8_takeNumber 38 = .ok (.iconst 0, 1) := by decide +kernel
theorem dX8_takeNumber_39 : decode cX8_takeNumber 39 = .ok (.putfield 138, 3) := by decide +kernel
theorem dX8_takeNumber_42 : decode cX8_takeNumber 42 = .ok (.aload_n 0, 1) := by decide +kernel
theorem dX8_takeNumber_43 : decode cX8_takeNumber 43 = .ok (.getfield 120, 3) := by decide +kernel
theorem dX8_takeNumber_46 : decode cX8_takeNumber 46 = .ok (.aload_n 0, 1) := by decide +kernel
theorem dX8_takeNumber_47 : decode cX8_takeNumber 47 = .ok (.getfield 116, 3) := by decide +kernel
theorem dX8_takeNumber_50 : decode cX8_takeNumber 50 = .ok (.if_icmp .ge 79, 3) := by decide +kernel
theorem dX8_takeNumber_53 : decode cX8_takeNumber 53 = .ok (.aload_n 0, 1) := by decide +kernel
theorem dX8_takeNumber_54 : decode cX8_takeNumber 54 = .ok (.getfield 34, 3) := by decide +kernel
theorem dX8_takeNumber_57 : decode cX8_takeNumber 57 = .ok (.aload_n 0, 1) := by decide +kernel
theorem dX8_takeNumber_58 : decode cX8_takeNumber 58 = .ok (.getfield 120, 3) := by decide +kernel
theorem dX8_takeNumber_61 : decode cX8_takeNumber 61 = .ok (.iaload, 1) := by decide +kernel
theorem dX8_takeNumber_62 : decode cX8_takeNumber 62 = .ok (.i2l, 1) := by decide +kernel
theorem dX8_takeNumber_63 : decode cX8_takeNumber 63 = .ok (.ldc2_w 127, 3) := by decide +kernel
theorem dX8_takeNumber_66 : decode cX8_takeNumber 66 = .ok (.ldc2_w 129, 3) := by decide +kernel
theorem dX8_takeNumber_69 : decode cX8_takeNumber 69 = .ok (.invokestatic 106, 3) := by decide +kernel
theorem dX8_takeNumber_72 : decode cX8_takeNumber 72 = .ok (.ifCond .eq 57, 3) := by decide +kernel
theorem dX8_takeNumber_75 : decode cX8_takeNumber 75 = .ok (.aload_n 0, 1) := by decide +kernel
theorem dX8_takeNumber_76 : decode cX8_takeNumber 76 = .ok (.aload_n 0, 1) := by decide +kernel
theorem dX8_takeNumber_77 : decode cX8_takeNumber 77 = .ok (.getfield 138, 3) := by decide +kernel
theorem dX8_takeNumber_80 : decode cX8_takeNumber 80 = .ok (.sipush 10000, 3) := by decide +kernel
theorem dX8_takeNumber_83 : decode cX8_takeNumber 83 = .ok (.if_icmp .le 10, 3) := by decide +kernel
theorem dX8_takeNumber_86 : decode cX8_takeNumber 86 = .ok (.aload_n 0, 1) := by decide +kernel
theorem dX8_takeNumber_87 : decode cX8_takeNumber 87 = .ok (.getfield 138, 3) := by decide +kernel
theorem dX8_takeNumber_90 : decode cX8_takeNumber 90 = .ok (.goto 23, 3) := by decide +kernel
theorem dX8_takeNumber_93 : decode cX8_takeNumber 93 = .ok (.bipush 10, 2) := by decide +kernel
theorem dX8_takeNumber_95 : decode cX8_takeNumber 95 = .ok (.aload_n 0, 1) := by decide +kernel
theorem dX8_takeNumber_96 : decode cX8_takeNumber 96 = .ok (.getfield 138, 3) := by decide +kernel
theorem dX8_takeNumber_99 : decode cX8_takeNumber 99 = .ok (.imul, 1) := by decide +kernel
theorem dX8_takeNumber_100 : decode cX8_takeNumber 100 = .ok (.aload_n 0, 1) := by decide +kernel
theorem dX8_takeNumber_101 : decode cX8_takeNumber 101 = .ok (.getfield 34, 3) := by decide +kernel
theorem dX8_takeNumber_104 : decode cX8_takeNumber 104 = .ok (.aload_n 0, 1) := by decide +kernel
theorem dX8_takeNumber_105 : decode cX8_takeNumber 105 = .ok (.getfield 120, 3) := by decide +kernel
theorem dX8_takeNumber_108 : decode cX8_takeNumber 108 = .ok (.iaload, 1) := by decide +kernel
theorem dX8_takeNumber_109 : decode cX8_takeNumber 109 = .ok (.iadd, 1) := by decide +kernel
theorem dX8_takeNumber_110 : decode cX8_takeNumber 110 = .ok (.bipush 48, 2) := by decide +kernel
theorem dX8_takeNumber_112 : decode cX8_takeNumber 112 = .ok (.isub, 1) := by decide +kernel
theorem dX8_takeNumber_113 : decode cX8_takeNumber 113 = .ok (.putfield 138, 3) := by decide +kernel
theorem dX8_takeNumber_116 : decode cX8_takeNumber 116 = .ok (.aload_n 0, 1) := by decide +kernel
theorem dX8_takeNumber_117 : decode cX8_takeNumber 117 = .ok (.dup, 1) := by decide +kernel
theorem dX8_takeNumber_118 : decode cX8_takeNumber 118 = .ok (.getfield 120, 3) := by decide +kernel
theorem dX8_takeNumber_121 : decode cX8_takeNumber 121 = .ok (.iconst 1, 1) := by decide +kernel
theorem dX8_takeNumber_122 : decode cX8_takeNumber 122 = .ok (.iadd, 1) := by decide +kernel
theorem dX8_takeNumber_123 : decode cX8_takeNumber 123 = .ok (.putfield 120, 3) := by decide +kernel
theorem dX8_takeNumber_126 : decode cX8_takeNumber 126 = .ok (.goto (-84), 3) := by decide +kernel
theorem dX8_takeNumber_129 : decode cX8_takeNumber 129 = .ok (.aload_n 0, 1) := by decide +kernel
theorem dX8_takeNumber_130 : decode cX8_takeNumber 130 = .ok (.getfield 120, 3) := by decide +kernel
theorem dX8_takeNumber_133 : decode cX8_takeNumber 133 = .ok (.aload_n 0, 1) := by decide +kernel
theorem dX8_takeNumber_134 : decode cX8_takeNumber 134 = .ok (.getfield 135, 3) := by decide +kernel
theorem dX8_takeNumber_137 : decode cX8_takeNumber 137 = .ok (.isub, 1) := by decide +kernel
theorem dX8_takeNumber_138 : decode cX8_takeNumber 138 = .ok (.iconst 3, 1) := by decide +kernel
theorem dX8_takeNumber_139 : decode cX8_takeNumber 139 = .ok (.if_icmp .gt 18, 3) := by decide +kernel
theorem dX8_takeNumber_142 : decode cX8_takeNumber 142 = .ok (.aload_n 0, 1) := by decide +kernel
theorem dX8_takeNumber_143 : decode cX8_takeNumber 143 = .ok (.getfield 138, 3) := by decide +kernel
theorem dX8_takeNumber_146 : decode cX8_takeNumber 146 = .ok (.i2l, 1) := by decide +kernel
theorem dX8_takeNumber_147 : decode cX8_takeNumber 147 = .ok (.iload_n 1, 1) := by decide +kernel
theorem dX8_takeNumber_148 : decode cX8_takeNumber 148 = .ok (.i2l, 1) := by decide +kernel
theorem dX8_takeNumber_149 : decode cX8_takeNumber 149 = .ok (.iload_n 2, 1) := by decide +kernel
theorem dX8_takeNumber_150 : decode cX8_takeNumber 150 = .ok (.i2l, 1) := by decide +kernel
theorem dX8_takeNumber_151 : decode cX8_takeNumber 151 = .ok (.invokestatic 106, 3) := by decide +kernel
theorem dX8_takeNumber_154 : decode cX8_takeNumber 154 = .ok (.ifCond .ne 15, 3) := by decide +kernel
theorem dX8_takeNumber_157 : decode cX8_takeNumber 157 = .ok (.aload_n 0, 1) := by decide +kernel
theorem dX8_takeNumber_158 : decode cX8_takeNumber 158 = .ok (.iconst 2, 1) := by decide +kernel
theorem dX8_takeNumber_159 : decode cX8_takeNumber 159 = .ok (.aload_n 0, 1) := by decide +kernel
theorem dX8_takeNumber_160 : decode cX8_takeNumber 160 = .ok (.getfield 135, 3) := by decide +kernel
theorem dX8_takeNumber_163 : decode cX8_takeNumber 163 = .ok (.invokevirtual 131, 3) := by decide +kernel
theorem dX8_takeNumber_166 : decode cX8_takeNumber 166 = .ok (.goto 4, 3) := by decide +kernel
theorem dX8_takeNumber_169 : decode cX8_takeNumber 169 = .ok (.iconst 0, 1) := by decide +kernel
theorem dX8_takeNumber_170 : decode cX8_takeNumber 170 = .ok (.ireturn, 1) := by decide +kernel
theorem dX8_into_0 : decode cX8_into 0 = .ok (.aload_n 0, 1) := by decide +kernel
theorem dX8_into_1 : decode cX8_into 1 = .ok (.iload_n 3, 1) := by decide +kernel
theorem dX8_into_2 : decode cX8_into 2 = .ok (.iload 4, 2) := by decide +kernel
theorem dX8_into_4 : decode cX8_into 4 = .ok (.invokevirtual 141, 3) := by decide +kernel
theorem dX8_into_7 : decode cX8_into 7 = .ok (.istore 5, 2) := by decide +kernel
theorem dX8_into_9 : decode cX8_into 9 = .ok (.aload_n 1, 1) := by decide +kernel
theorem dX8_into_10 : decode cX8_into 10 = .ok (.iload_n 2, 1) := by decide +kernel
theorem dX8_into_11 : decode cX8_into 11 = .ok (.aload_n 0, 1) := by decide +kernel
theorem dX8_into_12 : decode cX8_into 12 = .ok (.getfield 138, 3) := by decide +kernel
theorem dX8_into_15 : decode cX8_into 15 = .ok (.iastore, 1) := by decide +kernel
theorem dX8_into_16 : decode cX8_into 16 = .ok (.iload 5, 2) := by decide +kernel
theorem dX8_into_18 : decode cX8_into 18 = .ok (.ireturn, 1) := by decide +kernel
theorem dX8_takeGate_0 : decode cX8_takeGate 0 = .ok (.aload_n 0, 1) := by decide +kernel
theorem dX8_takeGate_1 : decode cX8_takeGate 1 = .ok (.aload_n 0, 1) := by decide +kernel
theorem dX8_takeGate_2 : decode cX8_takeGate 2 = .ok (.getfield 41, 3) := by decide +kernel
theorem dX8_takeGate_5 : decode cX8_takeGate 5 = .ok (.iconst 0, 1) := by decide +kernel
theorem dX8_takeGate_6 : decode cX8_takeGate 6 = .ok (.iconst 1, 1) := by decide +kernel
theorem dX8_takeGate_7 : decode cX8_takeGate 7 = .ok (.sipush 999, 3) := by decide +kernel
theorem dX8_takeGate_10 : decode cX8_takeGate 10 = .ok (.invokevirtual 144, 3) := by decide +kernel
theorem dX8_takeGate_13 : decode cX8_takeGate 13 = .ok (.istore_n 1, 1) := by decide +kernel
theorem dX8_takeGate_14 : decode cX8_takeGate 14 = .ok (.iload_n 1, 1) := by decide +kernel
theorem dX8_takeGate_15 : decode cX8_takeGate 15 = .ok (.ifCond .le 7, 3) := by decide +kernel
theorem dX8_takeGate_18 : decode cX8_takeGate 18 = .ok (.iload_n 1, 1) := by decide +kernel
theorem dX8_takeGate_19 : decode cX8_takeGate 19 = .ok (.goto 15, 3) := by decide +kernel
theorem dX8_takeGate_22 : decode cX8_takeGate 22 = .ok (.aload_n 0, 1) := by decide +kernel
theorem dX8_takeGate_23 : decode cX8_takeGate 23 = .ok (.aload_n 0, 1) := by decide +kernel
theorem dX8_takeGate_24 : decode cX8_takeGate 24 = .ok (.getfield 41, 3) := by decide +kernel
theorem dX8_takeGate_27 : decode cX8_takeGate 27 = .ok (.iconst 1, 1) := by decide +kernel
theorem dX8_takeGate_28 : decode cX8_takeGate 28 = .ok (.iconst 0, 1) := by decide +kernel
theorem dX8_takeGate_29 : decode cX8_takeGate 29 = .ok (.bipush 99, 2) := by decide +kernel
theorem dX8_takeGate_31 : decode cX8_takeGate 31 = .ok (.invokevirtual 144, 3) := by decide +kernel
theorem dX8_takeGate_34 : decode cX8_takeGate 34 = .ok (.ireturn, 1) := by decide +kernel
theorem dX8_takeIdea_0 : decode cX8_takeIdea 0 = .ok (.aload_n 0, 1) := by decide +kernel
theorem dX8_takeIdea_1 : decode cX8_takeIdea 1 = .ok (.getfield 148, 3) := by decide +kernel
theorem dX8_takeIdea_4 : decode cX8_takeIdea 4 = .ok (.istore_n 1, 1) := by decide +kernel
theorem dX8_takeIdea_5 : decode cX8_takeIdea 5 = .ok (.aload_n 0, 1) := by decide +kernel
theorem dX8_takeIdea_6 : decode cX8_takeIdea 6 = .ok (.dup, 1) := by decide +kernel
theorem dX8_takeIdea_7 : decode cX8_takeIdea 7 = .ok (.getfield 148, 3) := by decide +kernel
theorem dX8_takeIdea_10 : decode cX8_takeIdea 10 = .ok (.iconst 1, 1) := by decide +kernel
theorem dX8_takeIdea_11 : decode cX8_takeIdea 11 = .ok (.iadd, 1) := by decide +kernel
theorem dX8_takeIdea_12 : decode cX8_takeIdea 12 = .ok (.putfield 148, 3) := by decide +kernel
theorem dX8_takeIdea_15 : decode cX8_takeIdea 15 = .ok (.aload_n 0, 1) := by decide +kernel
theorem dX8_takeIdea_16 : decode cX8_takeIdea 16 = .ok (.aload_n 0, 1) := by decide +kernel
theorem dX8_takeIdea_17 : decode cX8_takeIdea 17 = .ok (.getfield 44, 3) := by decide +kernel
theorem dX8_takeIdea_20 : decode cX8_takeIdea 20 = .ok (.iload_n 1, 1) := by decide +kernel
theorem dX8_takeIdea_21 : decode cX8_takeIdea 21 = .ok (.iconst 1, 1) := by decide +kernel
theorem dX8_takeIdea_22 : decode cX8_takeIdea 22 = .ok (.bipush 99, 2) := by decide +kernel
theorem dX8_takeIdea_24 : decode cX8_takeIdea 24 = .ok (.invokevirtual 144, 3) := by decide +kernel
theorem dX8_takeIdea_27 : decode cX8_takeIdea 27 = .ok (.ireturn, 1) := by decide +kernel
theorem dX8_takeJoin_0 : decode cX8_takeJoin 0 = .ok (.aload_n 0, 1) := by decide +kernel
theorem dX8_takeJoin_1 : decode cX8_takeJoin 1 = .ok (.getfield 151, 3) := by decide +kernel
theorem dX8_takeJoin_4 : decode cX8_takeJoin 4 = .ok (.istore_n 1, 1) := by decide +kernel
theorem dX8_takeJoin_5 : decode cX8_takeJoin 5 = .ok (.aload_n 0, 1) := by decide +kernel
theorem dX8_takeJoin_6 : decode cX8_takeJoin 6 = .ok (.dup, 1) := by decide +kernel
theorem dX8_takeJoin_7 : decode cX8_takeJoin 7 = .ok (.getfield 151, 3) := by decide +kernel
theorem dX8_takeJoin_10 : decode cX8_takeJoin 10 = .ok (.iconst 1, 1) := by decide +kernel
theorem dX8_takeJoin_11 : decode cX8_takeJoin 11 = .ok (.iadd, 1) := by decide +kernel
theorem dX8_takeJoin_12 : decode cX8_takeJoin 12 = .ok (.putfield 151, 3) := by decide +kernel
theorem dX8_takeJoin_15 : decode cX8_takeJoin 15 = .ok (.aload_n 0, 1) := by decide +kernel
theorem dX8_takeJoin_16 : decode cX8_takeJoin 16 = .ok (.aload_n 0, 1) := by decide +kernel
theorem dX8_takeJoin_17 : decode cX8_takeJoin 17 = .ok (.getfield 47, 3) := by decide +kernel
theorem dX8_takeJoin_20 : decode cX8_takeJoin 20 = .ok (.iload_n 1, 1) := by decide +kernel
theorem dX8_takeJoin_21 : decode cX8_takeJoin 21 = .ok (.iconst 0, 1) := by decide +kernel
theorem dX8_takeJoin_22 : decode cX8_takeJoin 22 = .ok (.aload_n 0, 1) := by decide +kernel
theorem dX8_takeJoin_23 : decode cX8_takeJoin 23 = .ok (.getfield 148, 3) := by decide +kernel
theorem dX8_takeJoin_26 : decode cX8_takeJoin 26 = .ok (.iconst 1, 1) := by decide +kernel
theorem dX8_takeJoin_27 : decode cX8_takeJoin 27 = .ok (.isub, 1) := by decide +kernel
theorem dX8_takeJoin_28 : decode cX8_takeJoin 28 = .ok (.invokevirtual 144, 3) := by decide +kernel
theorem dX8_takeJoin_31 : decode cX8_takeJoin 31 = .ok (.istore_n 2, 1) := by decide +kernel
theorem dX8_takeJoin_32 : decode cX8_takeJoin 32 = .ok (.iload_n 2, 1) := by decide +kernel
theorem dX8_takeJoin_33 : decode cX8_takeJoin 33 = .ok (.ifCond .le 7, 3) := by decide +kernel
theorem dX8_takeJoin_36 : decode cX8_takeJoin 36 = .ok (.iload_n 2, 1) := by decide +kernel
theorem dX8_takeJoin_37 : decode cX8_takeJoin 37 = .ok (.goto 19, 3) := by decide +kernel
theorem dX8_takeJoin_40 : decode cX8_takeJoin 40 = .ok (.aload_n 0, 1) := by decide +kernel
theorem dX8_takeJoin_41 : decode cX8_takeJoin 41 = .ok (.aload_n 0, 1) := by decide +kernel
theorem dX8_takeJoin_42 : decode cX8_takeJoin 42 = .ok (.getfield 50, 3) := by decide +kernel
theorem dX8_takeJoin_45 : decode cX8_takeJoin 45 = .ok (.iload_n 1, 1) := by decide +kernel
theorem dX8_takeJoin_46 : decode cX8_takeJoin 46 = .ok (.iconst 0, 1) := by decide +kernel
theorem dX8_takeJoin_47 : decode cX8_takeJoin 47 = .ok (.aload_n 0, 1) := by decide +kernel
theorem dX8_takeJoin_48 : decode cX8_takeJoin 48 = .ok (.getfield 148, 3) := by decide +kernel
theorem dX8_takeJoin_51 : decode cX8_takeJoin 51 = .ok (.iconst 1, 1) := by decide +kernel
theorem dX8_takeJoin_52 : decode cX8_takeJoin 52 = .ok (.isub, 1) := by decide +kernel
theorem dX8_takeJoin_53 : decode cX8_takeJoin 53 = .ok (.invokevirtual 144, 3) := by decide +kernel
theorem dX8_takeJoin_56 : decode cX8_takeJoin 56 = .ok (.istore_n 2, 1) := by decide +kernel
theorem dX8_takeJoin_57 : decode cX8_takeJoin 57 = .ok (.iload_n 2, 1) := by decide +kernel
theorem dX8_takeJoin_58 : decode cX8_takeJoin 58 = .ok (.ifCond .le 7, 3) := by decide +kernel
theorem dX8_takeJoin_61 : decode cX8_takeJoin 61 = .ok (.iload_n 2, 1) := by decide +kernel
theorem dX8_takeJoin_62 : decode cX8_takeJoin 62 = .ok (.goto 19, 3) := by decide +kernel
theorem dX8_takeJoin_65 : decode cX8_takeJoin 65 = .ok (.aload_n 0, 1) := by decide +kernel
theorem dX8_takeJoin_66 : decode cX8_takeJoin 66 = .ok (.aload_n 0, 1) := by decide +kernel
theorem dX8_takeJoin_67 : decode cX8_takeJoin 67 = .ok (.getfield 53, 3) := by decide +kernel
theorem dX8_takeJoin_70 : decode cX8_takeJoin 70 = .ok (.iload_n 1, 1) := by decide +kernel
theorem dX8_takeJoin_71 : decode cX8_takeJoin 71 = .ok (.iconst 0, 1) := by decide +kernel
theorem dX8_takeJoin_72 : decode cX8_takeJoin 72 = .ok (.aload_n 0, 1) := by decide +kernel
theorem dX8_takeJoin_73 : decode cX8_takeJoin 73 = .ok (.getfield 148, 3) := by decide +kernel
theorem dX8_takeJoin_76 : decode cX8_takeJoin 76 = .ok (.iconst 1, 1) := by decide +kernel
theorem dX8_takeJoin_77 : decode cX8_takeJoin 77 = .ok (.isub, 1) := by decide +kernel
theorem dX8_takeJoin_78 : decode cX8_takeJoin 78 = .ok (.invokevirtual 144, 3) := by decide +kernel
theorem dX8_takeJoin_81 : decode cX8_takeJoin 81 = .ok (.istore_n 2, 1) := by decide +kernel
theorem dX8_takeJoin_82 : decode cX8_takeJoin 82 = .ok (.iload_n 2, 1) := by decide +kernel
theorem dX8_takeJoin_83 : decode cX8_takeJoin 83 = .ok (.ifCond .ne 43, 3) := by decide +kernel
theorem dX8_takeJoin_86 : decode cX8_takeJoin 86 = .ok (.aload_n 0, 1) := by decide +kernel
theorem dX8_takeJoin_87 : decode cX8_takeJoin 87 = .ok (.getfield 53, 3) := by decide +kernel
theorem dX8_takeJoin_90 : decode cX8_takeJoin 90 = .ok (.iload_n 1, 1) := by decide +kernel
theorem dX8_takeJoin_91 : decode cX8_takeJoin 91 = .ok (.iaload, 1) := by decide +kernel
theorem dX8_takeJoin_92 : decode cX8_takeJoin 92 = .ok (.aload_n 0, 1) := by decide +kernel
theorem dX8_takeJoin_93 : decode cX8_takeJoin 93 = .ok (.getfield 47, 3) := by decide +kernel
theorem dX8_takeJoin_96 : decode cX8_takeJoin 96 = .ok (.iload_n 1, 1) := by decide +kernel
theorem dX8_takeJoin_97 : decode cX8_takeJoin 97 = .ok (.iaload, 1) := by decide +kernel
theorem dX8_takeJoin_98 : decode cX8_takeJoin 98 = .ok (.if_icmp .eq 18, 3) := by decide +kernel
theorem dX8_takeJoin_101 : decode cX8_takeJoin 101 = .ok (.aload_n 0, 1) := by decide +kernel
theorem dX8_takeJoin_102 : decode cX8_takeJoin 102 = .ok (.getfield 53, 3) := by decide +kernel
theorem dX8_takeJoin_105 : decode cX8_takeJoin 105 = .ok (.iload_n 1, 1) := by decide +kernel
theorem dX8_takeJoin_106 : decode cX8_takeJoin 106 = .ok (.iaload, 1) := by decide +kernel
theorem dX8_takeJoin_107 : decode cX8_takeJoin 107 = .ok (.aload_n 0, 1) := by decide +kernel
theorem dX8_takeJoin_108 : decode cX8_takeJoin 108 = .ok (.getfield 50, 3) := by decide +kernel
theorem dX8_takeJoin_111 : decode cX8_takeJoin 111 = .ok (.iload_n 1, 1) := by decide +kernel
theorem dX8_takeJoin_112 : decode cX8_takeJoin 112 = .ok (.iaload, 1) := by decide +kernel
theorem dX8_takeJoin_113 : decode cX8_takeJoin 113 = .ok (.if_icmp .ne 13, 3) := by decide +kernel
theorem dX8_takeJoin_116 : decode cX8_takeJoin 116 = .ok (.aload_n 0, 1) := by decide +kernel
theorem dX8_takeJoin_117 : decode cX8_takeJoin 117 = .ok (.iconst 4, 1) := by decide +kernel
theorem dX8_takeJoin_118 : decode cX8_takeJoin 118 = .ok (.aload_n 0, 1) := by decide +kernel
theorem dX8_takeJoin_119 : decode cX8_takeJoin 119 = .ok (.getfield 135, 3) := by decide +kernel
theorem dX8_takeJoin_122 : decode cX8_takeJoin 122 = .ok (.invokevirtual 131, 3) := by decide +kernel
theorem dX8_takeJoin_125 : decode cX8_takeJoin 125 = .ok (.ireturn, 1) := by decide +kernel
theorem dX8_takeJoin_126 : decode cX8_takeJoin 126 = .ok (.iload_n 2, 1) := by decide +kernel
theorem dX8_takeJoin_127 : decode cX8_takeJoin 127 = .ok (.ireturn, 1) := by decide +kernel
theorem dX8_takeTalk_0 : decode cX8_takeTalk 0 = .ok (.aload_n 0, 1) := by decide +kernel
theorem dX8_takeTalk_1 : decode cX8_takeTalk 1 = .ok (.getfield 154, 3) := by decide +kernel
theorem dX8_takeTalk_4 : decode cX8_takeTalk 4 = .ok (.istore_n 1, 1) := by decide +kernel
theorem dX8_takeTalk_5 : decode cX8_takeTalk 5 = .ok (.aload_n 0, 1) := by decide +kernel
theorem dX8_takeTalk_6 : decode cX8_takeTalk 6 = .ok (.dup, 1) := by decide +kernel
theorem dX8_takeTalk_7 : decode cX8_takeTalk 7 = .ok (.getfield 154, 3) := by decide +kernel
theorem dX8_takeTalk_10 : decode cX8_takeTalk 10 = .ok (.iconst 1, 1) := by decide +kernel
theorem dX8_takeTalk_11 : decode cX8_takeTalk 11 = .ok (.iadd, 1) := by decide +kernel
theorem dX8_takeTalk_12 : decode cX8_takeTalk 12 = .ok (.putfield 154, 3) := by decide +kernel
theorem dX8_takeTalk_15 : decode cX8_takeTalk 15 = .ok (.aload_n 0, 1) := by decide +kernel
theorem dX8_takeTalk_16 : decode cX8_takeTalk 16 = .ok (.aload_n 0, 1) := by decide +kernel
theorem dX8_takeTalk_17 : decode cX8_takeTalk 17 = .ok (.getfield 56, 3) := by decide +kernel
theorem dX8_takeTalk_20 : decode cX8_takeTalk 20 = .ok (.iload_n 1, 1) := by decide +kernel
theorem dX8_takeTalk_21 : decode cX8_takeTalk 21 = .ok (.iconst 0, 1) := by decide +kernel
theorem dX8_takeTalk_22 : decode cX8_takeTalk 22 = .ok (.aload_n 0, 1) := by decide +kernel
theorem dX8_takeTalk_23 : decode cX8_takeTalk 23 = .ok (.getfield 148, 3) := by decide +kernel
theorem dX8_takeTalk_26 : decode cX8_takeTalk 26 = .ok (.iconst 1, 1) := by decide +kernel
theorem dX8_takeTalk_27 : decode cX8_takeTalk 27 = .ok (.isub, 1) := by decide +kernel
theorem dX8_takeTalk_28 : decode cX8_takeTalk 28 = .ok (.invokevirtual 144, 3) := by decide +kernel
theorem dX8_takeTalk_31 : decode cX8_takeTalk 31 = .ok (.istore_n 2, 1) := by decide +kernel
theorem dX8_takeTalk_32 : decode cX8_takeTalk 32 = .ok (.iload_n 2, 1) := by decide +kernel
theorem dX8_takeTalk_33 : decode cX8_takeTalk 33 = .ok (.ifCond .le 7, 3) := by decide +kernel
theorem dX8_takeTalk_36 : decode cX8_takeTalk 36 = .ok (.iload_n 2, 1) := by decide +kernel
theorem dX8_takeTalk_37 : decode cX8_takeTalk 37 = .ok (.goto 19, 3) := by decide +kernel
theorem dX8_takeTalk_40 : decode cX8_takeTalk 40 = .ok (.aload_n 0, 1) := by decide +kernel
theorem dX8_takeTalk_41 : decode cX8_takeTalk 41 = .ok (.aload_n 0, 1) := by decide +kernel
theorem dX8_takeTalk_42 : decode cX8_takeTalk 42 = .ok (.getfield 59, 3) := by decide +kernel
theorem dX8_takeTalk_45 : decode cX8_takeTalk 45 = .ok (.iload_n 1, 1) := by decide +kernel
theorem dX8_takeTalk_46 : decode cX8_takeTalk 46 = .ok (.iconst 0, 1) := by decide +kernel
theorem dX8_takeTalk_47 : decode cX8_takeTalk 47 = .ok (.aload_n 0, 1) := by decide +kernel
theorem dX8_takeTalk_48 : decode cX8_takeTalk 48 = .ok (.getfield 148, 3) := by decide +kernel
theorem dX8_takeTalk_51 : decode cX8_takeTalk 51 = .ok (.iconst 1, 1) := by decide +kernel
theorem dX8_takeTalk_52 : decode cX8_takeTalk 52 = .ok (.isub, 1) := by decide +kernel
theorem dX8_takeTalk_53 : decode cX8_takeTalk 53 = .ok (.invokevirtual 144, 3) := by decide +kernel
theorem dX8_takeTalk_56 : decode cX8_takeTalk 56 = .ok (.istore_n 2, 1) := by decide +kernel
theorem dX8_takeTalk_57 : decode cX8_takeTalk 57 = .ok (.iload_n 2, 1) := by decide +kernel
theorem dX8_takeTalk_58 : decode cX8_takeTalk 58 = .ok (.ifCond .ne 53, 3) := by decide +kernel
theorem dX8_takeTalk_61 : decode cX8_takeTalk 61 = .ok (.aload_n 0, 1) := by decide +kernel
theorem dX8_takeTalk_62 : decode cX8_takeTalk 62 = .ok (.getfield 59, 3) := by decide +kernel
theorem dX8_takeTalk_65 : decode cX8_takeTalk 65 = .ok (.iload_n 1, 1) := by decide +kernel
theorem dX8_takeTalk_66 : decode cX8_takeTalk 66 = .ok (.iaload, 1) := by decide +kernel
theorem dX8_takeTalk_67 : decode cX8_takeTalk 67 = .ok (.aload_n 0, 1) := by decide +kernel
theorem dX8_takeTalk_68 : decode cX8_takeTalk 68 = .ok (.getfield 56, 3) := by decide +kernel
theorem dX8_takeTalk_71 : decode cX8_takeTalk 71 = .ok (.iload_n 1, 1) := by decide +kernel
theorem dX8_takeTalk_72 : decode cX8_takeTalk 72 = .ok (.iaload, 1) := by decide +kernel
theorem dX8_takeTalk_73 : decode cX8_takeTalk 73 = .ok (.if_icmp .eq 28, 3) := by decide +kernel
theorem dX8_takeTalk_76 : decode cX8_takeTalk 76 = .ok (.aload_n 0, 1) := by decide +kernel
theorem dX8_takeTalk_77 : decode cX8_takeTalk 77 = .ok (.getfield 44, 3) := by decide +kernel
theorem dX8_takeTalk_80 : decode cX8_takeTalk 80 = .ok (.aload_n 0, 1) := by decide +kernel
theorem dX8_takeTalk_81 : decode cX8_takeTalk 81 = .ok (.getfield 59, 3) := by decide +kernel
theorem dX8_takeTalk_84 : decode cX8_takeTalk 84 = .ok (.iload_n 1, 1) := by decide +kernel
theorem dX8_takeTalk_85 : decode cX8_takeTalk 85 = .ok (.iaload, 1) := by decide +kernel
theorem dX8_takeTalk_86 : decode cX8_takeTalk 86 = .ok (.iaload, 1) := by decide +kernel
theorem dX8_takeTalk_87 : decode cX8_takeTalk 87 = .ok (.aload_n 0, 1) := by decide +kernel
theorem dX8_takeTalk_88 : decode cX8_takeTalk 88 = .ok (.getfield 44, 3) := by decide +kernel
theorem dX8_takeTalk_91 : decode cX8_takeTalk 91 = .ok (.aload_n 0, 1) := by decide +kernel
theorem dX8_takeTalk_92 : decode cX8_takeTalk 92 = .ok (.getfield 56, 3) := by decide +kernel
theorem dX8_takeTalk_95 : decode cX8_takeTalk 95 = .ok (.iload_n 1, 1) := by decide +kernel
theorem dX8_takeTalk_96 : decode cX8_takeTalk 96 = .ok (.iaload, 1) := by decide +kernel
theorem dX8_takeTalk_97 : decode cX8_takeTalk 97 = .ok (.iaload, 1) := by decide +kernel
theorem dX8_takeTalk_98 : decode cX8_takeTalk 98 = .ok (.if_icmp .le 13, 3) := by decide +kernel
theorem dX8_takeTalk_101 : decode cX8_takeTalk 101 = .ok (.aload_n 0, 1) := by decide +kernel
theorem dX8_takeTalk_102 : decode cX8_takeTalk 102 = .ok (.iconst 4, 1) := by decide +kernel
theorem dX8_takeTalk_103 : decode cX8_takeTalk 103 = .ok (.aload_n 0, 1) := by decide +kernel
theorem dX8_takeTalk_104 : decode cX8_takeTalk 104 = .ok (.getfield 135, 3) := by decide +kernel
theorem dX8_takeTalk_107 : decode cX8_takeTalk 107 = .ok (.invokevirtual 131, 3) := by decide +kernel
theorem dX8_takeTalk_110 : decode cX8_takeTalk 110 = .ok (.ireturn, 1) := by decide +kernel
theorem dX8_takeTalk_111 : decode cX8_takeTalk 111 = .ok (.iload_n 2, 1) := by decide +kernel
theorem dX8_takeTalk_112 : decode cX8_takeTalk 112 = .ok (.ifCond .le 7, 3) := by decide +kernel
theorem dX8_takeTalk_115 : decode cX8_takeTalk 115 = .ok (.iload_n 2, 1) := by decide +kernel
theorem dX8_takeTalk_116 : decode cX8_takeTalk 116 = .ok (.goto 15, 3) := by decide +kernel
theorem dX8_takeTalk_119 : decode cX8_takeTalk 119 = .ok (.aload_n 0, 1) := by decide +kernel
theorem dX8_takeTalk_120 : decode cX8_takeTalk 120 = .ok (.aload_n 0, 1) := by decide +kernel
theorem dX8_takeTalk_121 : decode cX8_takeTalk 121 = .ok (.getfield 62, 3) := by decide +kernel
theorem dX8_takeTalk_124 : decode cX8_takeTalk 124 = .ok (.iload_n 1, 1) := by decide +kernel
theorem dX8_takeTalk_125 : decode cX8_takeTalk 125 = .ok (.iconst 1, 1) := by decide +kernel
theorem dX8_takeTalk_126 : decode cX8_takeTalk 126 = .ok (.bipush 99, 2) := by decide +kernel
theorem dX8_takeTalk_128 : decode cX8_takeTalk 128 = .ok (.invokevirtual 144, 3) := by decide +kernel
theorem dX8_takeTalk_131 : decode cX8_takeTalk 131 = .ok (.ireturn, 1) := by decide +kernel
theorem dX8_takeRegistered_0 : decode cX8_takeRegistered 0 = .ok (.aload_n 0, 1) := by decide +kernel
theorem dX8_takeRegistered_1 : decode cX8_takeRegistered 1 = .ok (.iconst 0, 1) := by decide +kernel
theorem dX8_takeRegistered_2 : decode cX8_takeRegistered 2 = .ok (.aload_n 0, 1) := by decide +kernel
theorem dX8_takeRegistered_3 : decode cX8_takeRegistered 3 = .ok (.getfield 148, 3) := by decide +kernel
theorem dX8_takeRegistered_6 : decode cX8_takeRegistered 6 = .ok (.iconst 1, 1) := by decide +kernel
theorem dX8_takeRegistered_7 : decode cX8_takeRegistered 7 = .ok (.isub, 1) := by decide +kernel
theorem dX8_takeRegistered_8 : decode cX8_takeRegistered 8 = .ok (.invokevirtual 141, 3) := by decide +kernel
theorem dX8_takeRegistered_11 : decode cX8_takeRegistered 11 = .ok (.istore_n 1, 1) := by decide +kernel
theorem dX8_takeRegistered_12 : decode cX8_takeRegistered 12 = .ok (.iload_n 1, 1) := by decide +kernel
theorem dX8_takeRegistered_13 : decode cX8_takeRegistered 13 = .ok (.ifCond .ne 27, 3) := by decide +kernel
theorem dX8_takeRegistered_16 : decode cX8_takeRegistered 16 = .ok (.aload_n 0, 1) := by decide +kernel
theorem dX8_takeRegistered_17 : decode cX8_takeRegistered 17 = .ok (.getfield 157, 3) := by decide +kernel
theorem dX8_takeRegistered_20 : decode cX8_takeRegistered 20 = .ok (.aload_n 0, 1) := by decide +kernel
theorem dX8_takeRegistered_21 : decode cX8_takeRegistered 21 = .ok (.getfield 138, 3) := by decide +kernel
theorem dX8_takeRegistered_24 : decode cX8_takeRegistered 24 = .ok (.invokestatic 160, 3) := by decide +kernel
theorem dX8_takeRegistered_27 : decode cX8_takeRegistered 27 = .ok (.ifCond .eq 13, 3) := by decide +kernel
theorem dX8_takeRegistered_30 : decode cX8_takeRegistered 30 = .ok (.aload_n 0, 1) := by decide +kernel
theorem dX8_takeRegistered_31 : decode cX8_takeRegistered 31 = .ok (.iconst 4, 1) := by decide +kernel
theorem dX8_takeRegistered_32 : decode cX8_takeRegistered 32 = .ok (.aload_n 0, 1) := by decide +kernel
theorem dX8_takeRegistered_33 : decode cX8_takeRegistered 33 = .ok (.getfield 135, 3) := by decide +kernel
theorem dX8_takeRegistered_36 : decode cX8_takeRegistered 36 = .ok (.invokevirtual 131, 3) := by decide +kernel
theorem dX8_takeRegistered_39 : decode cX8_takeRegistered 39 = .ok (.ireturn, 1) := by decide +kernel
theorem dX8_takeRegistered_40 : decode cX8_takeRegistered 40 = .ok (.iload_n 1, 1) := by decide +kernel
theorem dX8_takeRegistered_41 : decode cX8_takeRegistered 41 = .ok (.ifCond .ne 18, 3) := by decide +kernel
theorem dX8_takeRegistered_44 : decode cX8_takeRegistered 44 = .ok (.aload_n 0, 1) := by decide +kernel
theorem dX8_takeRegistered_45 : decode cX8_takeRegistered 45 = .ok (.dup, 1) := by decide +kernel
theorem dX8_takeRegistered_46 : decode cX8_takeRegistered 46 = .ok (.getfield 157, 3) := by decide +kernel
theorem dX8_takeRegistered_49 : decode cX8_takeRegistered 49 = .ok (.iconst 1, 1) := by decide +kernel
theorem dX8_takeRegistered_50 : decode cX8_takeRegistered 50 = .ok (.aload_n 0, 1) := by decide +kernel
theorem dX8_takeRegistered_51 : decode cX8_takeRegistered 51 = .ok (.getfield 138, 3) := by decide +kernel
theorem dX8_takeRegistered_54 : decode cX8_takeRegistered 54 = .ok (.ishl, 1) := by decide +kernel
theorem dX8_takeRegistered_55 : decode cX8_takeRegistered 55 = .ok (.ior, 1) := by decide +kernel
theorem dX8_takeRegistered_56 : decode cX8_takeRegistered 56 = .ok (.putfield 157, 3) := by decide +kernel
theorem dX8_takeRegistered_59 : decode cX8_takeRegistered 59 = .ok (.iload_n 1, 1) := by decide +kernel
theorem dX8_takeRegistered_60 : decode cX8_takeRegistered 60 = .ok (.ireturn, 1) := by decide +kernel
theorem dX8_takeTraveller_0 : decode cX8_takeTraveller 0 = .ok (.aload_n 0, 1) := by decide +kernel
theorem dX8_takeTraveller_1 : decode cX8_takeTraveller 1 = .ok (.getfield 164, 3) := by decide +kernel
theorem dX8_takeTraveller_4 : decode cX8_takeTraveller 4 = .ok (.istore_n 1, 1) := by decide +kernel
theorem dX8_takeTraveller_5 : decode cX8_takeTraveller 5 = .ok (.aload_n 0, 1) := by decide +kernel
theorem dX8_takeTraveller_6 : decode cX8_takeTraveller 6 = .ok (.dup, 1) := by decide +kernel
theorem dX8_takeTraveller_7 : decode cX8_takeTraveller 7 = .ok (.getfield 164, 3) := by decide +kernel
theorem dX8_takeTraveller_10 : decode cX8_takeTraveller 10 = .ok (.iconst 1, 1) := by decide +kernel
theorem dX8_takeTraveller_11 : decode cX8_takeTraveller 11 = .ok (.iadd, 1) := by decide +kernel
theorem dX8_takeTraveller_12 : decode cX8_takeTraveller 12 = .ok (.putfield 164, 3) := by decide +kernel
theorem dX8_takeTraveller_15 : decode cX8_takeTraveller 15 = .ok (.aload_n 0, 1) := by decide +kernel
theorem dX8_takeTraveller_16 : decode cX8_takeTraveller 16 = .ok (.aload_n 0, 1) := by decide +kernel
theorem dX8_takeTraveller_17 : decode cX8_takeTraveller 17 = .ok (.getfield 65, 3) := by decide +kernel
theorem dX8_takeTraveller_20 : decode cX8_takeTraveller 20 = .ok (.iload_n 1, 1) := by decide +kernel
theorem dX8_takeTraveller_21 : decode cX8_takeTraveller 21 = .ok (.iconst 0, 1) := by decide +kernel
theorem dX8_takeTraveller_22 : decode cX8_takeTraveller 22 = .ok (.iconst 1, 1) := by decide +kernel
theorem dX8_takeTraveller_23 : decode cX8_takeTraveller 23 = .ok (.aload_n 0, 1) := by decide +kernel
theorem dX8_takeTraveller_24 : decode cX8_takeTraveller 24 = .ok (.getfield 148, 3) := by decide +kernel
theorem dX8_takeTraveller_27 : decode cX8_takeTraveller 27 = .ok (.ishl, 1) := by decide +kernel
theorem dX8_takeTraveller_28 : decode cX8_takeTraveller 28 = .ok (.iconst 1, 1) := by decide +kernel
theorem dX8_takeTraveller_29 : decode cX8_takeTraveller 29 = .ok (.isub, 1) := by decide +kernel
theorem dX8_takeTraveller_30 : decode cX8_takeTraveller 30 = .ok (.invokevirtual 144, 3) := by decide +kernel
theorem dX8_takeTraveller_33 : decode cX8_takeTraveller 33 = .ok (.ireturn, 1) := by decide +kernel
theorem dX8_whichClause_0 : decode cX8_whichClause 0 = .ok (.iload_n 1, 1) := by decide +kernel
theorem dX8_whichClause_1 : decode cX8_whichClause 1 = .ok (.bipush 103, 2) := by decide +kernel
theorem dX8_whichClause_3 : decode cX8_whichClause 3 = .ok (.if_icmp .ne 7, 3) := by decide +kernel
theorem dX8_whichClause_6 : decode cX8_whichClause 6 = .ok (.iconst 0, 1) := by decide +kernel
theorem dX8_whichClause_7 : decode cX8_whichClause 7 = .ok (.goto 54, 3) := by decide +kernel
theorem dX8_whichClause_10 : decode cX8_whichClause 10 = .ok (.iload_n 1, 1) := by decide +kernel
theorem dX8_whichClause_11 : decode cX8_whichClause 11 = .ok (.bipush 105, 2) := by decide +kernel
theorem dX8_whichClause_13 : decode cX8_whichClause 13 = .ok (.if_icmp .ne 7, 3) := by decide +kernel
theorem dX8_whichClause_16 : decode cX8_whichClause 16 = .ok (.iconst 1, 1) := by decide +kernel
theorem dX8_whichClause_17 : decode cX8_whichClause 17 = .ok (.goto 44, 3) := by decide +kernel
theorem dX8_whichClause_20 : decode cX8_whichClause 20 = .ok (.iload_n 1, 1) := by decide +kernel
theorem dX8_whichClause_21 : decode cX8_whichClause 21 = .ok (.bipush 106, 2) := by decide +kernel
theorem dX8_whichClause_23 : decode cX8_whichClause 23 = .ok (.if_icmp .ne 7, 3) := by decide +kernel
theorem dX8_whichClause_26 : decode cX8_whichClause 26 = .ok (.iconst 2, 1) := by decide +kernel
theorem dX8_whichClause_27 : decode cX8_whichClause 27 = .ok (.goto 34, 3) := by decide +kernel
theorem dX8_whichClause_30 : decode cX8_whichClause 30 = .ok (.iload_n 1, 1) := by decide +kernel
theorem dX8_whichClause_31 : decode cX8_whichClause 31 = .ok (.bipush 100, 2) := by decide +kernel
theorem dX8_whichClause_33 : decode cX8_whichClause 33 = .ok (.if_icmp .ne 7, 3) := by decide +kernel
theorem dX8_whichClause_36 : decode cX8_whichClause 36 = .ok (.iconst 3, 1) := by decide +kernel
theorem dX8_whichClause_37 : decode cX8_whichClause 37 = .ok (.goto 24, 3) := by decide +kernel
theorem dX8_whichClause_40 : decode cX8_whichClause 40 = .ok (.iload_n 1, 1) := by decide +kernel
theorem dX8_whichClause_41 : decode cX8_whichClause 41 = .ok (.bipush 114, 2) := by decide +kernel
theorem dX8_whichClause_43 : decode cX8_whichClause 43 = .ok (.if_icmp .ne 7, 3) := by decide +kernel
theorem dX8_whichClause_46 : decode cX8_whichClause 46 = .ok (.iconst 4, 1) := by decide +kernel
theorem dX8_whichClause_47 : decode cX8_whichClause 47 = .ok (.goto 14, 3) := by decide +kernel
theorem dX8_whichClause_50 : decode cX8_whichClause 50 = .ok (.iload_n 1, 1) := by decide +kernel
theorem dX8_whichClause_51 : decode cX8_whichClause 51 = .ok (.bipush 116, 2) := by decide +kernel
theorem dX8_whichClause_53 : decode cX8_whichClause 53 = .ok (.if_icmp .ne 7, 3) := by decide +kernel
theorem dX8_whichClause_56 : decode cX8_whichClause 56 = .ok (.iconst 5, 1) := by decide +kernel
theorem dX8_whichClause_57 : decode cX8_whichClause 57 = .ok (.goto 4, 3) := by decide +kernel
theorem dX8_whichClause_60 : decode cX8_whichClause 60 = .ok (.iconst (-1), 1) := by decide +kernel
theorem dX8_whichClause_61 : decode cX8_whichClause 61 = .ok (.ireturn, 1) := by decide +kernel
theorem dX8_isFull_0 : decode cX8_isFull 0 = .ok (.iload_n 1, 1) := by decide +kernel
theorem dX8_isFull_1 : decode cX8_isFull 1 = .ok (.tableswitch 97 0 4 #[35, 50, 65, 80, 95], 35) := by decide +kernel
theorem dX8_isFull_36 : decode cX8_isFull 36 = .ok (.aload_n 0, 1) := by decide +kernel
theorem dX8_isFull_37 : decode cX8_isFull 37 = .ok (.getfield 41, 3) := by decide +kernel
theorem dX8_isFull_40 : decode cX8_isFull 40 = .ok (.iconst 0, 1) := by decide +kernel
theorem dX8_isFull_41 : decode cX8_isFull 41 = .ok (.iaload, 1) := by decide +kernel
theorem dX8_isFull_42 : decode cX8_isFull 42 = .ok (.ifCond .le 7, 3) := by decide +kernel
theorem dX8_isFull_45 : decode cX8_isFull 45 = .ok (.iconst 1, 1) := by decide +kernel
theorem dX8_isFull_46 : decode cX8_isFull 46 = .ok (.goto 4, 3) := by decide +kernel
theorem dX8_isFull_49 : decode cX8_isFull 49 = .ok (.iconst 0, 1) := by decide +kernel
theorem dX8_isFull_50 : decode cX8_isFull 50 = .ok (.ireturn, 1) := by decide +kernel
theorem dX8_isFull_51 : decode cX8_isFull 51 = .ok (.aload_n 0, 1) := by decide +kernel
theorem dX8_isFull_52 : decode cX8_isFull 52 = .ok (.getfield 148, 3) := by decide +kernel
theorem dX8_isFull_55 : decode cX8_isFull 55 = .ok (.bipush 8, 2) := by decide +kernel
theorem dX8_isFull_57 : decode cX8_isFull 57 = .ok (.if_icmp .ne 7, 3) := by decide +kernel
theorem dX8_isFull_60 : decode cX8_isFull 60 = .ok (.iconst 1, 1) := by decide +kernel
theorem dX8_isFull_61 : decode cX8_isFull 61 = .ok (.goto 4, 3) := by decide +kernel
theorem dX8_isFull_64 : decode cX8_isFull 64 = .ok (.iconst 0, 1) := by decide +kernel
theorem dX8_isFull_65 : decode cX8_isFull 65 = .ok (.ireturn, 1) := by decide +kernel
theorem dX8_isFull_66 : decode cX8_isFull 66 = .ok (.aload_n 0, 1) := by decide +kernel
theorem dX8_isFull_67 : decode cX8_isFull 67 = .ok (.getfield 151, 3) := by decide +kernel
theorem dX8_isFull_70 : decode cX8_isFull 70 = .ok (.bipush 10, 2) := by decide +kernel
theorem dX8_isFull_72 : decode cX8_isFull 72 = .ok (.if_icmp .ne 7, 3) := by decide +kernel
theorem dX8_isFull_75 : decode cX8_isFull 75 = .ok (.iconst 1, 1) := by decide +kernel
theorem dX8_isFull_76 : decode cX8_isFull 76 = .ok (.goto 4, 3) := by decide +kernel
theorem dX8_isFull_79 : decode cX8_isFull 79 = .ok (.iconst 0, 1) := by decide +kernel
theorem dX8_isFull_80 : decode cX8_isFull 80 = .ok (.ireturn, 1) := by decide +kernel
theorem dX8_isFull_81 : decode cX8_isFull 81 = .ok (.aload_n 0, 1) := by decide +kernel
theorem dX8_isFull_82 : decode cX8_isFull 82 = .ok (.getfield 154, 3) := by decide +kernel
theorem dX8_isFull_85 : decode cX8_isFull 85 = .ok (.bipush 10, 2) := by decide +kernel
theorem dX8_isFull_87 : decode cX8_isFull 87 = .ok (.if_icmp .ne 7, 3) := by decide +kernel
theorem dX8_isFull_90 : decode cX8_isFull 90 = .ok (.iconst 1, 1) := by decide +kernel
theorem dX8_isFull_91 : decode cX8_isFull 91 = .ok (.goto 4, 3) := by decide +kernel
theorem dX8_isFull_94 : decode cX8_isFull 94 = .ok (.iconst 0, 1) := by decide +kernel
theorem dX8_isFull_95 : decode cX8_isFull 95 = .ok (.ireturn, 1) := by decide +kernel
theorem dX8_isFull_96 : decode cX8_isFull 96 = .ok (.iconst 0, 1) := by decide +kernel
theorem dX8_isFull_97 : decode cX8_isFull 97 = .ok (.ireturn, 1) := by decide +kernel
theorem dX8_isFull_98 : decode cX8_isFull 98 = .ok (.aload_n 0, 1) := by decide +kernel
theorem dX8_isFull_99 : decode cX8_isFull 99 = .ok (.getfield 164, 3) := by decide +kernel
theorem dX8_isFull_102 : decode cX8_isFull 102 = .ok (.iconst 5, 1) := by decide +kernel
theorem dX8_isFull_103 : decode cX8_isFull 103 = .ok (.if_icmp .ne 7, 3) := by decide +kernel
theorem dX8_isFull_106 : decode cX8_isFull 106 = .ok (.iconst 1, 1) := by decide +kernel
theorem dX8_isFull_107 : decode cX8_isFull 107 = .ok (.goto 4, 3) := by decide +kernel
theorem dX8_isFull_110 : decode cX8_isFull 110 = .ok (.iconst 0, 1) := by decide +kernel
theorem dX8_isFull_111 : decode cX8_isFull 111 = .ok (.ireturn, 1) := by decide +kernel
theorem dX8_takeBody_0 : decode cX8_takeBody 0 = .ok (.iload_n 1, 1) := by decide +kernel
theorem dX8_takeBody_1 : decode cX8_takeBody 1 = .ok (.tableswitch 60 0 4 #[35, 40, 45, 50, 55], 35) := by decide +kernel
theorem dX8_takeBody_36 : decode cX8_takeBody 36 = .ok (.aload_n 0, 1) := by decide +kernel
theorem dX8_takeBody_37 : decode cX8_takeBody 37 = .ok (.invokevirtual 167, 3) := by decide +kernel
theorem dX8_takeBody_40 : decode cX8_takeBody 40 = .ok (.ireturn, 1) := by decide +kernel
theorem dX8_takeBody_41 : decode cX8_takeBody 41 = .ok (.aload_n 0, 1) := by decide +kernel
theorem dX8_takeBody_42 : decode cX8_takeBody 42 = .ok (.invokevirtual 170, 3) := by decide +kernel
theorem dX8_takeBody_45 : decode cX8_takeBody 45 = .ok (.ireturn, 1) := by decide +kernel
theorem dX8_takeBody_46 : decode cX8_takeBody 46 = .ok (.aload_n 0, 1) := by decide +kernel
theorem dX8_takeBody_47 : decode cX8_takeBody 47 = .ok (.invokevirtual 173, 3) := by decide +kernel
theorem dX8_takeBody_50 : decode cX8_takeBody 50 = .ok (.ireturn, 1) := by decide +kernel
theorem dX8_takeBody_51 : decode cX8_takeBody 51 = .ok (.aload_n 0, 1) := by decide +kernel
theorem dX8_takeBody_52 : decode cX8_takeBody 52 = .ok (.invokevirtual 176, 3) := by decide +kernel
theorem dX8_takeBody_55 : decode cX8_takeBody 55 = .ok (.ireturn, 1) := by decide +kernel
theorem dX8_takeBody_56 : decode cX8_takeBody 56 = .ok (.aload_n 0, 1) := by decide +kernel
theorem dX8_takeBody_57 : decode cX8_takeBody 57 = .ok (.invokevirtual 179, 3) := by decide +kernel
theorem dX8_takeBody_60 : decode cX8_takeBody 60 = .ok (.ireturn, 1) := by decide +kernel
theorem dX8_takeBody_61 : decode cX8_takeBody 61 = .ok (.aload_n 0, 1) := by decide +kernel
theorem dX8_takeBody_62 : decode cX8_takeBody 62 = .ok (.invokevirtual 182, 3) := by decide +kernel
theorem dX8_takeBody_65 : decode cX8_takeBody 65 = .ok (.ireturn, 1) := by decide +kernel
theorem dX8_takeClause_0 : decode cX8_takeClause 0 = .ok (.aload_n 0, 1) := by decide +kernel
theorem dX8_takeClause_1 : decode cX8_takeClause 1 = .ok (.aload_n 0, 1) := by decide +kernel
theorem dX8_takeClause_2 : decode cX8_takeClause 2 = .ok (.invokevirtual 123, 3) := by decide +kernel
theorem dX8_takeClause_5 : decode cX8_takeClause 5 = .ok (.invokevirtual 185, 3) := by decide +kernel
theorem dX8_takeClause_8 : decode cX8_takeClause 8 = .ok (.istore_n 1, 1) := by decide +kernel
theorem dX8_takeClause_9 : decode cX8_takeClause 9 = .ok (.iload_n 1, 1) := by decide +kernel
theorem dX8_takeClause_10 : decode cX8_takeClause 10 = .ok (.ifCond .lt 16, 3) := by decide +kernel
theorem dX8_takeClause_13 : decode cX8_takeClause 13 = .ok (.iload_n 1, 1) := by decide +kernel
theorem dX8_takeClause_14 : decode cX8_takeClause 14 = .ok (.ifCond .le 22, 3) := by decide +kernel
theorem dX8_takeClause_17 : decode cX8_takeClause 17 = .ok (.aload_n 0, 1) := by decide +kernel
theorem dX8_takeClause_18 : decode cX8_takeClause 18 = .ok (.getfield 41, 3) := by decide +kernel
theorem dX8_takeClause_21 : decode cX8_takeClause 21 = .ok (.iconst 0, 1) := by decide +kernel
theorem dX8_takeClause_22 : decode cX8_takeClause 22 = .ok (.iaload, 1) := by decide +kernel
theorem dX8_takeClause_23 : decode cX8_takeClause 23 = .ok (.ifCond .ne 13, 3) := by decide +kernel
theorem dX8_takeClause_26 : decode cX8_takeClause 26 = .ok (.aload_n 0, 1) := by decide +kernel
theorem dX8_takeClause_27 : decode cX8_takeClause 27 = .ok (.iconst 1, 1) := by decide +kernel
theorem dX8_takeClause_28 : decode cX8_takeClause 28 = .ok (.aload_n 0, 1) := by decide +kernel
theorem dX8_takeClause_29 : decode cX8_takeClause 29 = .ok (.getfield 120, 3) := by decide +kernel
theorem dX8_takeClause_32 : decode cX8_takeClause 32 = .ok (.invokevirtual 131, 3) := by decide +kernel
theorem dX8_takeClause_35 : decode cX8_takeClause 35 = .ok (.ireturn, 1) := by decide +kernel
theorem dX8_takeClause_36 : decode cX8_takeClause 36 = .ok (.aload_n 0, 1) := by decide +kernel
theorem dX8_takeClause_37 : decode cX8_takeClause 37 = .ok (.iload_n 1, 1) := by decide +kernel
theorem dX8_takeClause_38 : decode cX8_takeClause 38 = .ok (.invokevirtual 189, 3) := by decide +kernel
theorem dX8_takeClause_41 : decode cX8_takeClause 41 = .ok (.ifCond .eq 13, 3) := by decide +kernel
theorem dX8_takeClause_44 : decode cX8_takeClause 44 = .ok (.aload_n 0, 1) := by decide +kernel
theorem dX8_takeClause_45 : decode cX8_takeClause 45 = .ok (.iconst 3, 1) := by decide +kernel
theorem dX8_takeClause_46 : decode cX8_takeClause 46 = .ok (.aload_n 0, 1) := by decide +kernel
theorem dX8_takeClause_47 : decode cX8_takeClause 47 = .ok (.getfield 120, 3) := by decide +kernel
theorem dX8_takeClause_50 : decode cX8_takeClause 50 = .ok (.invokevirtual 131, 3) := by decide +kernel
theorem dX8_takeClause_53 : decode cX8_takeClause 53 = .ok (.ireturn, 1) := by decide +kernel
theorem dX8_takeClause_54 : decode cX8_takeClause 54 = .ok (.aload_n 0, 1) := by decide +kernel
theorem dX8_takeClause_55 : decode cX8_takeClause 55 = .ok (.dup, 1) := by decide +kernel
theorem dX8_takeClause_56 : decode cX8_takeClause 56 = .ok (.getfield 120, 3) := by decide +kernel
theorem dX8_takeClause_59 : decode cX8_takeClause 59 = .ok (.iconst 1, 1) := by decide +kernel
theorem dX8_takeClause_60 : decode cX8_takeClause 60 = .ok (.iadd, 1) := by decide +kernel
theorem dX8_takeClause_61 : decode cX8_takeClause 61 = .ok (.putfield 120, 3) := by decide +kernel
theorem dX8_takeClause_64 : decode cX8_takeClause 64 = .ok (.aload_n 0, 1) := by decide +kernel
theorem dX8_takeClause_65 : decode cX8_takeClause 65 = .ok (.iload_n 1, 1) := by decide +kernel
theorem dX8_takeClause_66 : decode cX8_takeClause 66 = .ok (.invokevirtual 193, 3) := by decide +kernel
theorem dX8_takeClause_69 : decode cX8_takeClause 69 = .ok (.istore_n 2, 1) := by decide +kernel
theorem dX8_takeClause_70 : decode cX8_takeClause 70 = .ok (.iload_n 2, 1) := by decide +kernel
theorem dX8_takeClause_71 : decode cX8_takeClause 71 = .ok (.ifCond .ne 22, 3) := by decide +kernel
theorem dX8_takeClause_74 : decode cX8_takeClause 74 = .ok (.aload_n 0, 1) := by decide +kernel
theorem dX8_takeClause_75 : decode cX8_takeClause 75 = .ok (.invokevirtual 123, 3) := by decide +kernel
theorem dX8_takeClause_78 : decode cX8_takeClause 78 = .ok (.bipush 59, 2) := by decide +kernel
theorem dX8_takeClause_80 : decode cX8_takeClause 80 = .ok (.if_icmp .eq 13, 3) := by decide +kernel
theorem dX8_takeClause_83 : decode cX8_takeClause 83 = .ok (.aload_n 0, 1) := by decide +kernel
theorem dX8_takeClause_84 : decode cX8_takeClause 84 = .ok (.iconst 1, 1) := by decide +kernel
theorem dX8_takeClause_85 : decode cX8_takeClause 85 = .ok (.aload_n 0, 1) := by decide +kernel
theorem dX8_takeClause_86 : decode cX8_takeClause 86 = .ok (.getfield 120, 3) := by decide +kernel
theorem dX8_takeClause_89 : decode cX8_takeClause 89 = .ok (.invokevirtual 131, 3) := by decide +kernel
theorem dX8_takeClause_92 : decode cX8_takeClause 92 = .ok (.ireturn, 1) := by decide +kernel
theorem dX8_takeClause_93 : decode cX8_takeClause 93 = .ok (.aload_n 0, 1) := by decide +kernel
theorem dX8_takeClause_94 : decode cX8_takeClause 94 = .ok (.dup, 1) := by decide +kernel
theorem dX8_takeClause_95 : decode cX8_takeClause 95 = .ok (.getfield 120, 3) := by decide +kernel
theorem dX8_takeClause_98 : decode cX8_takeClause 98 = .ok (.iconst 1, 1) := by decide +kernel
theorem dX8_takeClause_99 : decode cX8_takeClause 99 = .ok (.iadd, 1) := by decide +kernel
theorem dX8_takeClause_100 : decode cX8_takeClause 100 = .ok (.putfield 120, 3) := by decide +kernel
theorem dX8_takeClause_103 : decode cX8_takeClause 103 = .ok (.iload_n 2, 1) := by decide +kernel
theorem dX8_takeClause_104 : decode cX8_takeClause 104 = .ok (.ireturn, 1) := by decide +kernel
theorem dX8_takeRead_0 : decode cX8_takeRead 0 = .ok (.aload_n 0, 1) := by decide +kernel
theorem dX8_takeRead_1 : decode cX8_takeRead 1 = .ok (.aload_n 0, 1) := by decide +kernel
theorem dX8_takeRead_2 : decode cX8_takeRead 2 = .ok (.getfield 41, 3) := by decide +kernel
theorem dX8_takeRead_5 : decode cX8_takeRead 5 = .ok (.iconst 0, 1) := by decide +kernel
theorem dX8_takeRead_6 : decode cX8_takeRead 6 = .ok (.iaload, 1) := by decide +kernel
theorem dX8_takeRead_7 : decode cX8_takeRead 7 = .ok (.putfield 99, 3) := by decide +kernel
theorem dX8_takeRead_10 : decode cX8_takeRead 10 = .ok (.aload_n 0, 1) := by decide +kernel
theorem dX8_takeRead_11 : decode cX8_takeRead 11 = .ok (.aload_n 0, 1) := by decide +kernel
theorem dX8_takeRead_12 : decode cX8_takeRead 12 = .ok (.getfield 41, 3) := by decide +kernel
theorem dX8_takeRead_15 : decode cX8_takeRead 15 = .ok (.iconst 1, 1) := by decide +kernel
theorem dX8_takeRead_16 : decode cX8_takeRead 16 = .ok (.iaload, 1) := by decide +kernel
theorem dX8_takeRead_17 : decode cX8_takeRead 17 = .ok (.putfield 196, 3) := by decide +kernel
theorem dX8_takeRead_20 : decode cX8_takeRead 20 = .ok (.aload_n 0, 1) := by decide +kernel
theorem dX8_takeRead_21 : decode cX8_takeRead 21 = .ok (.aload_n 0, 1) := by decide +kernel
theorem dX8_takeRead_22 : decode cX8_takeRead 22 = .ok (.getfield 148, 3) := by decide +kernel
theorem dX8_takeRead_25 : decode cX8_takeRead 25 = .ok (.putfield 103, 3) := by decide +kernel
theorem dX8_takeRead_28 : decode cX8_takeRead 28 = .ok (.aload_n 0, 1) := by decide +kernel
theorem dX8_takeRead_29 : decode cX8_takeRead 29 = .ok (.aload_n 0, 1) := by decide +kernel
theorem dX8_takeRead_30 : decode cX8_takeRead 30 = .ok (.getfield 151, 3) := by decide +kernel
theorem dX8_takeRead_33 : decode cX8_takeRead 33 = .ok (.putfield 199, 3) := by decide +kernel
theorem dX8_takeRead_36 : decode cX8_takeRead 36 = .ok (.aload_n 0, 1) := by decide +kernel
theorem dX8_takeRead_37 : decode cX8_takeRead 37 = .ok (.aload_n 0, 1) := by decide +kernel
theorem dX8_takeRead_38 : decode cX8_takeRead 38 = .ok (.getfield 154, 3) := by decide +kernel
theorem dX8_takeRead_41 : decode cX8_takeRead 41 = .ok (.putfield 202, 3) := by decide +kernel
theorem dX8_takeRead_44 : decode cX8_takeRead 44 = .ok (.aload_n 0, 1) := by decide +kernel
theorem dX8_takeRead_45 : decode cX8_takeRead 45 = .ok (.aload_n 0, 1) := by decide +kernel
theorem dX8_takeRead_46 : decode cX8_takeRead 46 = .ok (.getfield 164, 3) := by decide +kernel
theorem dX8_takeRead_49 : decode cX8_takeRead 49 = .ok (.putfield 110, 3) := by decide +kernel
theorem dX8_takeRead_52 : decode cX8_takeRead 52 = .ok (.iconst 0, 1) := by decide +kernel
theorem dX8_takeRead_53 : decode cX8_takeRead 53 = .ok (.istore_n 1, 1) := by decide +kernel
theorem dX8_takeRead_54 : decode cX8_takeRead 54 = .ok (.iload_n 1, 1) := by decide +kernel
theorem dX8_takeRead_55 : decode cX8_takeRead 55 = .ok (.aload_n 0, 1) := by decide +kernel
theorem dX8_takeRead_56 : decode cX8_takeRead 56 = .ok (.getfield 103, 3) := by decide +kernel
theorem dX8_takeRead_59 : decode cX8_takeRead 59 = .ok (.if_icmp .ge 21, 3) := by decide +kernel
theorem dX8_takeRead_62 : decode cX8_takeRead 62 = .ok (.aload_n 0, 1) := by decide +kernel
theorem dX8_takeRead_63 : decode cX8_takeRead 63 = .ok (.getfield 7, 3) := by decide +kernel
theorem dX8_takeRead_66 : decode cX8_takeRead 66 = .ok (.iload_n 1, 1) := by decide +kernel
theorem dX8_takeRead_67 : decode cX8_takeRead 67 = .ok (.aload_n 0, 1) := by decide +kernel
theorem dX8_takeRead_68 : decode cX8_takeRead 68 = .ok (.getfield 44, 3) := by decide +kernel
theorem dX8_takeRead_71 : decode cX8_takeRead 71 = .ok (.iload_n 1, 1) := by decide +kernel
theorem dX8_takeRead_72 : decode cX8_takeRead 72 = .ok (.iaload, 1) := by decide +kernel
theorem dX8_takeRead_73 : decode cX8_takeRead 73 = .ok (.iastore, 1) := by decide +kernel
theorem dX8_takeRead_74 : decode cX8_takeRead 74 = .ok (.iinc 1 1, 3) := by decide +kernel
theorem dX8_takeRead_77 : decode cX8_takeRead 77 = .ok (.goto (-23), 3) := by decide +kernel
theorem dX8_takeRead_80 : decode cX8_takeRead 80 = .ok (.iconst 0, 1) := by decide +kernel
theorem dX8_takeRead_81 : decode cX8_takeRead 81 = .ok (.istore_n 1, 1) := by decide +kernel
theorem dX8_takeRead_82 : decode cX8_takeRead 82 = .ok (.iload_n 1, 1) := by decide +kernel
theorem dX8_takeRead_83 : decode cX8_takeRead 83 = .ok (.bipush 10, 2) := by decide +kernel
theorem dX8_takeRead_85 : decode cX8_takeRead 85 = .ok (.if_icmp .ge 81, 3) := by decide +kernel
theorem dX8_takeRead_88 : decode cX8_takeRead 88 = .ok (.aload_n 0, 1) := by decide +kernel
theorem dX8_takeRead_89 : decode cX8_takeRead 89 = .ok (.getfield 13, 3) := by decide +kernel
theorem dX8_takeRead_92 : decode cX8_takeRead 92 = .ok (.iload_n 1, 1) := by decide +kernel
theorem dX8_takeRead_93 : decode cX8_takeRead 93 = .ok (.aload_n 0, 1) := by decide +kernel
theorem dX8_takeRead_94 : decode cX8_takeRead 94 = .ok (.getfield 47, 3) := by decide +kernel
theorem dX8_takeRead_97 : decode cX8_takeRead 97 = .ok (.iload_n 1, 1) := by decide +kernel
theorem dX8_takeRead_98 : decode cX8_takeRead 98 = .ok (.iaload, 1) := by decide +kernel
theorem dX8_takeRead_99 : decode cX8_takeRead 99 = .ok (.iastore, 1) := by decide +kernel
theorem dX8_takeRead_100 : decode cX8_takeRead 100 = .ok (.aload_n 0, 1) := by decide +kernel
theorem dX8_takeRead_101 : decode cX8_takeRead 101 = .ok (.getfield 16, 3) := by decide +kernel
theorem dX8_takeRead_104 : decode cX8_takeRead 104 = .ok (.iload_n 1, 1) := by decide +kernel
theorem dX8_takeRead_105 : decode cX8_takeRead 105 = .ok (.aload_n 0, 1) := by decide +kernel
theorem dX8_takeRead_106 : decode cX8_takeRead 106 = .ok (.getfield 50, 3) := by decide +kernel
theorem dX8_takeRead_109 : decode cX8_takeRead 109 = .ok (.iload_n 1, 1) := by decide +kernel
theorem dX8_takeRead_110 : decode cX8_takeRead 110 = .ok (.iaload, 1) := by decide +kernel
theorem dX8_takeRead_111 : decode cX8_takeRead 111 = .ok (.iastore, 1) := by decide +kernel
theorem dX8_takeRead_112 : decode cX8_takeRead 112 = .ok (.aload_n 0, 1) := by decide +kernel
theorem dX8_takeRead_113 : decode cX8_takeRead 113 = .ok (.getfield 19, 3) := by decide +kernel
theorem dX8_takeRead_116 : decode cX8_takeRead 116 = .ok (.iload_n 1, 1) := by decide +kernel
theorem dX8_takeRead_117 : decode cX8_takeRead 117 = .ok (.aload_n 0, 1) := by decide +kernel
theorem dX8_takeRead_118 : decode cX8_takeRead 118 = .ok (.getfield 53, 3) := by decide +kernel
theorem dX8_takeRead_121 : decode cX8_takeRead 121 = .ok (.iload_n 1, 1) := by decide +kernel
theorem dX8_takeRead_122 : decode cX8_takeRead 122 = .ok (.iaload, 1) := by decide +kernel
theorem dX8_takeRead_123 : decode cX8_takeRead 123 = .ok (.iastore, 1) := by decide +kernel
theorem dX8_takeRead_124 : decode cX8_takeRead 124 = .ok (.aload_n 0, 1) := by decide +kernel
theorem dX8_takeRead_125 : decode cX8_takeRead 125 = .ok (.getfield 22, 3) := by decide +kernel
theorem dX8_takeRead_128 : decode cX8_takeRead 128 = .ok (.iload_n 1, 1) := by decide +kernel
theorem dX8_takeRead_129 : decode cX8_takeRead 129 = .ok (.aload_n 0, 1) := by decide +kernel
theorem dX8_takeRead_130 : decode cX8_takeRead 130 = .ok (.getfield 56, 3) := by decide +kernel
theorem dX8_takeRead_133 : decode cX8_takeRead 133 = .ok (.iload_n 1, 1) := by decide +kernel
theorem dX8_takeRead_134 : decode cX8_takeRead 134 = .ok (.iaload, 1) := by decide +kernel
theorem dX8_takeRead_135 : decode cX8_takeRead 135 = .ok (.iastore, 1) := by decide +kernel
theorem dX8_takeRead_136 : decode cX8_takeRead 136 = .ok (.aload_n 0, 1) := by decide +kernel
theorem dX8_takeRead_137 : decode cX8_takeRead 137 = .ok (.getfield 25, 3) := by decide +kernel
theorem dX8_takeRead_140 : decode cX8_takeRead 140 = .ok (.iload_n 1, 1) := by decide +kernel
theorem dX8_takeRead_141 : decode cX8_takeRead 141 = .ok (.aload_n 0, 1) := by decide +kernel
theorem dX8_takeRead_142 : decode cX8_takeRead 142 = .ok (.getfield 59, 3) := by decide +kernel
theorem dX8_takeRead_145 : decode cX8_takeRead 145 = .ok (.iload_n 1, 1) := by decide +kernel
theorem dX8_takeRead_146 : decode cX8_takeRead 146 = .ok (.iaload, 1) := by decide +kernel
theorem dX8_takeRead_147 : decode cX8_takeRead 147 = .ok (.iastore, 1) := by decide +kernel
theorem dX8_takeRead_148 : decode cX8_takeRead 148 = .ok (.aload_n 0, 1) := by decide +kernel
theorem dX8_takeRead_149 : decode cX8_takeRead 149 = .ok (.getfield 28, 3) := by decide +kernel
theorem dX8_takeRead_152 : decode cX8_takeRead 152 = .ok (.iload_n 1, 1) := by decide +kernel
theorem dX8_takeRead_153 : decode cX8_takeRead 153 = .ok (.aload_n 0, 1) := by decide +kernel
theorem dX8_takeRead_154 : decode cX8_takeRead 154 = .ok (.getfield 62, 3) := by decide +kernel
theorem dX8_takeRead_157 : decode cX8_takeRead 157 = .ok (.iload_n 1, 1) := by decide +kernel
theorem dX8_takeRead_158 : decode cX8_takeRead 158 = .ok (.iaload, 1) := by decide +kernel
theorem dX8_takeRead_159 : decode cX8_takeRead 159 = .ok (.iastore, 1) := by decide +kernel
theorem dX8_takeRead_160 : decode cX8_takeRead 160 = .ok (.iinc 1 1, 3) := by decide +kernel
theorem dX8_takeRead_163 : decode cX8_takeRead 163 = .ok (.goto (-81), 3) := by decide +kernel
theorem dX8_takeRead_166 : decode cX8_takeRead 166 = .ok (.iconst 0, 1) := by decide +kernel
theorem dX8_takeRead_167 : decode cX8_takeRead 167 = .ok (.istore_n 1, 1) := by decide +kernel
theorem dX8_takeRead_168 : decode cX8_takeRead 168 = .ok (.iload_n 1, 1) := by decide +kernel
theorem dX8_takeRead_169 : decode cX8_takeRead 169 = .ok (.bipush 9, 2) := by decide +kernel
theorem dX8_takeRead_171 : decode cX8_takeRead 171 = .ok (.if_icmp .ge 16, 3) := by decide +kernel
theorem dX8_takeRead_174 : decode cX8_takeRead 174 = .ok (.aload_n 0, 1) := by decide +kernel
theorem dX8_takeRead_175 : decode cX8_takeRead 175 = .ok (.getfield 31, 3) := by decide +kernel
theorem dX8_takeRead_178 : decode cX8_takeRead 178 = .ok (.iload_n 1, 1) := by decide +kernel
theorem dX8_takeRead_179 : decode cX8_takeRead 179 = .ok (.iconst 0, 1) := by decide +kernel
theorem dX8_takeRead_180 : decode cX8_takeRead 180 = .ok (.iastore, 1) := by decide +kernel
theorem dX8_takeRead_181 : decode cX8_takeRead 181 = .ok (.iinc 1 1, 3) := by decide +kernel
theorem dX8_takeRead_184 : decode cX8_takeRead 184 = .ok (.goto (-16), 3) := by decide +kernel
theorem dX8_takeRead_187 : decode cX8_takeRead 187 = .ok (.aload_n 0, 1) := by decide +kernel
theorem dX8_takeRead_188 : decode cX8_takeRead 188 = .ok (.getfield 31, 3) := by decide +kernel
theorem dX8_takeRead_191 : decode cX8_takeRead 191 = .ok (.iconst 0, 1) := by decide +kernel
theorem dX8_takeRead_192 : decode cX8_takeRead 192 = .ok (.aload_n 0, 1) := by decide +kernel
theorem dX8_takeRead_193 : decode cX8_takeRead 193 = .ok (.getfield 157, 3) := by decide +kernel
theorem dX8_takeRead_196 : decode cX8_takeRead 196 = .ok (.iastore, 1) := by decide +kernel
theorem dX8_takeRead_197 : decode cX8_takeRead 197 = .ok (.iconst 0, 1) := by decide +kernel
theorem dX8_takeRead_198 : decode cX8_takeRead 198 = .ok (.istore_n 1, 1) := by decide +kernel
theorem dX8_takeRead_199 : decode cX8_takeRead 199 = .ok (.iload_n 1, 1) := by decide +kernel
theorem dX8_takeRead_200 : decode cX8_takeRead 200 = .ok (.aload_n 0, 1) := by decide +kernel
theorem dX8_takeRead_201 : decode cX8_takeRead 201 = .ok (.getfield 110, 3) := by decide +kernel
theorem dX8_takeRead_204 : decode cX8_takeRead 204 = .ok (.if_icmp .ge 23, 3) := by decide +kernel
theorem dX8_takeRead_207 : decode cX8_takeRead 207 = .ok (.aload_n 0, 1) := by decide +kernel
theorem dX8_takeRead_208 : decode cX8_takeRead 208 = .ok (.getfield 31, 3) := by decide +kernel
theorem dX8_takeRead_211 : decode cX8_takeRead 211 = .ok (.iconst 2, 1) := by decide +kernel
theorem dX8_takeRead_212 : decode cX8_takeRead 212 = .ok (.iload_n 1, 1) := by decide +kernel
theorem dX8_takeRead_213 : decode cX8_takeRead 213 = .ok (.iadd, 1) := by decide +kernel
theorem dX8_takeRead_214 : decode cX8_takeRead 214 = .ok (.aload_n 0, 1) := by decide +kernel
theorem dX8_takeRead_215 : decode cX8_takeRead 215 = .ok (.getfield 65, 3) := by decide +kernel
theorem dX8_takeRead_218 : decode cX8_takeRead 218 = .ok (.iload_n 1, 1) := by decide +kernel
theorem dX8_takeRead_219 : decode cX8_takeRead 219 = .ok (.iaload, 1) := by decide +kernel
theorem dX8_takeRead_220 : decode cX8_takeRead 220 = .ok (.iastore, 1) := by decide +kernel
theorem dX8_takeRead_221 : decode cX8_takeRead 221 = .ok (.iinc 1 1, 3) := by decide +kernel
theorem dX8_takeRead_224 : decode cX8_takeRead 224 = .ok (.goto (-25), 3) := by decide +kernel
theorem dX8_takeRead_227 : decode cX8_takeRead 227 = .ok (.return_, 1) := by decide +kernel
theorem dX8_thePass_0 : decode cX8_thePass 0 = .ok (.aload_n 0, 1) := by decide +kernel
theorem dX8_thePass_1 : decode cX8_thePass 1 = .ok (.iconst (-1), 1) := by decide +kernel
theorem dX8_thePass_2 : decode cX8_thePass 2 = .ok (.putfield 37, 3) := by decide +kernel
theorem dX8_thePass_5 : decode cX8_thePass 5 = .ok (.aload_n 0, 1) := by decide +kernel
theorem dX8_thePass_6 : decode cX8_thePass 6 = .ok (.iconst 0, 1) := by decide +kernel
theorem dX8_thePass_7 : decode cX8_thePass 7 = .ok (.putfield 120, 3) := by decide +kernel
theorem dX8_thePass_10 : decode cX8_thePass 10 = .ok (.aload_n 0, 1) := by decide +kernel
theorem dX8_thePass_11 : decode cX8_thePass 11 = .ok (.getfield 41, 3) := by decide +kernel
theorem dX8_thePass_14 : decode cX8_thePass 14 = .ok (.iconst 0, 1) := by decide +kernel
theorem dX8_thePass_15 : decode cX8_thePass 15 = .ok (.iconst 0, 1) := by decide +kernel
theorem dX8_thePass_16 : decode cX8_thePass 16 = .ok (.iastore, 1) := by decide +kernel
theorem dX8_thePass_17 : decode cX8_thePass 17 = .ok (.aload_n 0, 1) := by decide +kernel
theorem dX8_thePass_18 : decode cX8_thePass 18 = .ok (.getfield 41, 3) := by decide +kernel
theorem dX8_thePass_21 : decode cX8_thePass 21 = .ok (.iconst 1, 1) := by decide +kernel
theorem dX8_thePass_22 : decode cX8_thePass 22 = .ok (.iconst 0, 1) := by decide +kernel
theorem dX8_thePass_23 : decode cX8_thePass 23 = .ok (.iastore, 1) := by decide +kernel
theorem dX8_thePass_24 : decode cX8_thePass 24 = .ok (.aload_n 0, 1) := by decide +kernel
theorem dX8_thePass_25 : decode cX8_thePass 25 = .ok (.iconst 0, 1) := by decide +kernel
theorem dX8_thePass_26 : decode cX8_thePass 26 = .ok (.putfield 148, 3) := by decide +kernel
theorem dX8_thePass_29 : decode cX8_thePass 29 = .ok (.aload_n 0, 1) := by decide +kernel
theorem dX8_thePass_30 : decode cX8_thePass 30 = .ok (.iconst 0, 1) := by decide +kernel
theorem dX8_thePass_31 : decode cX8_thePass 31 = .ok (.putfield 151, 3) := by decide +kernel
theorem dX8_thePass_34 : decode cX8_thePass 34 = .ok (.aload_n 0, 1) := by decide +kernel
theorem dX8_thePass_35 : decode cX8_thePass 35 = .ok (.iconst 0, 1) := by decide +kernel
theorem dX8_thePass_36 : decode cX8_thePass 36 = .ok (.putfield 154, 3) := by decide +kernel
theorem dX8_thePass_39 : decode cX8_thePass 39 = .ok (.aload_n 0, 1) := by decide +kernel
theorem dX8_thePass_40 : decode cX8_thePass 40 = .ok (.iconst 0, 1) := by decide +kernel
theorem dX8_thePass_41 : decode cX8_thePass 41 = .ok (.putfield 157, 3) := by decide +kernel
theorem dX8_thePass_44 : decode cX8_thePass 44 = .ok (.aload_n 0, 1) := by decide +kernel
theorem dX8_thePass_45 : decode cX8_thePass 45 = .ok (.iconst 0, 1) := by decide +kernel
theorem dX8_thePass_46 : decode cX8_thePass 46 = .ok (.putfield 164, 3) := by decide +kernel
theorem dX8_thePass_49 : decode cX8_thePass 49 = .ok (.iconst 0, 1) := by decide +kernel
theorem dX8_thePass_50 : decode cX8_thePass 50 = .ok (.istore_n 1, 1) := by decide +kernel
theorem dX8_thePass_51 : decode cX8_thePass 51 = .ok (.iload_n 1, 1) := by decide +kernel
theorem dX8_thePass_52 : decode cX8_thePass 52 = .ok (.ifCond .ne 18, 3) := by decide +kernel
theorem dX8_thePass_55 : decode cX8_thePass 55 = .ok (.aload_n 0, 1) := by decide +kernel
theorem dX8_thePass_56 : decode cX8_thePass 56 = .ok (.invokevirtual 123, 3) := by decide +kernel
theorem dX8_thePass_59 : decode cX8_thePass 59 = .ok (.ifCond .lt 11, 3) := by decide +kernel
theorem dX8_thePass_62 : decode cX8_thePass 62 = .ok (.aload_n 0, 1) := by decide +kernel
theorem dX8_thePass_63 : decode cX8_thePass 63 = .ok (.invokevirtual 205, 3) := by decide +kernel
theorem dX8_thePass_66 : decode cX8_thePass 66 = .ok (.istore_n 1, 1) := by decide +kernel
theorem dX8_thePass_67 : decode cX8_thePass 67 = .ok (.goto (-16), 3) := by decide +kernel
theorem dX8_thePass_70 : decode cX8_thePass 70 = .ok (.aload_n 0, 1) := by decide +kernel
theorem dX8_thePass_71 : decode cX8_thePass 71 = .ok (.iconst 0, 1) := by decide +kernel
theorem dX8_thePass_72 : decode cX8_thePass 72 = .ok (.putfield 116, 3) := by decide +kernel
theorem dX8_thePass_75 : decode cX8_thePass 75 = .ok (.iload_n 1, 1) := by decide +kernel
theorem dX8_thePass_76 : decode cX8_thePass 76 = .ok (.ifCond .le 8, 3) := by decide +kernel
theorem dX8_thePass_79 : decode cX8_thePass 79 = .ok (.bipush (-10), 2) := by decide +kernel
theorem dX8_thePass_81 : decode cX8_thePass 81 = .ok (.iload_n 1, 1) := by decide +kernel
theorem dX8_thePass_82 : decode cX8_thePass 82 = .ok (.isub, 1) := by decide +kernel
theorem dX8_thePass_83 : decode cX8_thePass 83 = .ok (.ireturn, 1) := by decide +kernel
theorem dX8_thePass_84 : decode cX8_thePass 84 = .ok (.aload_n 0, 1) := by decide +kernel
theorem dX8_thePass_85 : decode cX8_thePass 85 = .ok (.invokevirtual 208, 3) := by decide +kernel
theorem dX8_thePass_88 : decode cX8_thePass 88 = .ok (.aload_n 0, 1) := by decide +kernel
theorem dX8_thePass_89 : decode cX8_thePass 89 = .ok (.iconst 0, 1) := by decide +kernel
theorem dX8_thePass_90 : decode cX8_thePass 90 = .ok (.putfield 211, 3) := by decide +kernel
theorem dX8_thePass_93 : decode cX8_thePass 93 = .ok (.aload_n 0, 1) := by decide +kernel
theorem dX8_thePass_94 : decode cX8_thePass 94 = .ok (.iconst 0, 1) := by decide +kernel
theorem dX8_thePass_95 : decode cX8_thePass 95 = .ok (.putfield 214, 3) := by decide +kernel
theorem dX8_thePass_98 : decode cX8_thePass 98 = .ok (.aload_n 0, 1) := by decide +kernel
theorem dX8_thePass_99 : decode cX8_thePass 99 = .ok (.iconst 0, 1) := by decide +kernel
theorem dX8_thePass_100 : decode cX8_thePass 100 = .ok (.putfield 217, 3) := by decide +kernel
theorem dX8_thePass_103 : decode cX8_thePass 103 = .ok (.aload_n 0, 1) := by decide +kernel
theorem dX8_thePass_104 : decode cX8_thePass 104 = .ok (.getfield 96, 3) := by decide +kernel
theorem dX8_thePass_107 : decode cX8_thePass 107 = .ok (.iconst 0, 1) := by decide +kernel
theorem dX8_thePass_108 : decode cX8_thePass 108 = .ok (.iconst 0, 1) := by decide +kernel
theorem dX8_thePass_109 : decode cX8_thePass 109 = .ok (.bastore, 1) := by decide +kernel
theorem dX8_thePass_110 : decode cX8_thePass 110 = .ok (.aload_n 0, 1) := by decide +kernel
theorem dX8_thePass_111 : decode cX8_thePass 111 = .ok (.getfield 96, 3) := by decide +kernel
theorem dX8_thePass_114 : decode cX8_thePass 114 = .ok (.iconst 1, 1) := by decide +kernel
theorem dX8_thePass_115 : decode cX8_thePass 115 = .ok (.iconst 0, 1) := by decide +kernel
theorem dX8_thePass_116 : decode cX8_thePass 116 = .ok (.bastore, 1) := by decide +kernel
theorem dX8_thePass_117 : decode cX8_thePass 117 = .ok (.aload_n 0, 1) := by decide +kernel
theorem dX8_thePass_118 : decode cX8_thePass 118 = .ok (.getfield 103, 3) := by decide +kernel
theorem dX8_thePass_121 : decode cX8_thePass 121 = .ok (.ireturn, 1) := by decide +kernel
theorem dX8_fault_0 : decode cX8_fault 0 = .ok (.aload_n 0, 1) := by decide +kernel
theorem dX8_fault_1 : decode cX8_fault 1 = .ok (.getfield 37, 3) := by decide +kernel
theorem dX8_fault_4 : decode cX8_fault 4 = .ok (.ireturn, 1) := by decide +kernel
theorem dX8_close_0 : decode cX8_close 0 = .ok (.iload_n 1, 1) := by decide +kernel
theorem dX8_close_1 : decode cX8_close 1 = .ok (.istore_n 2, 1) := by decide +kernel
theorem dX8_close_2 : decode cX8_close 2 = .ok (.iconst 1, 1) := by decide +kernel
theorem dX8_close_3 : decode cX8_close 3 = .ok (.istore_n 3, 1) := by decide +kernel
theorem dX8_close_4 : decode cX8_close 4 = .ok (.iload_n 3, 1) := by decide +kernel
theorem dX8_close_5 : decode cX8_close 5 = .ok (.ifCond .eq 82, 3) := by decide +kernel
theorem dX8_close_8 : decode cX8_close 8 = .ok (.iconst 0, 1) := by decide +kernel
theorem dX8_close_9 : decode cX8_close 9 = .ok (.istore_n 3, 1) := by decide +kernel
theorem dX8_close_10 : decode cX8_close 10 = .ok (.iconst 0, 1) := by decide +kernel
theorem dX8_close_11 : decode cX8_close 11 = .ok (.istore 4, 2) := by decide +kernel
theorem dX8_close_13 : decode cX8_close 13 = .ok (.iload 4, 2) := by decide +kernel
theorem dX8_close_15 : decode cX8_close 15 = .ok (.aload_n 0, 1) := by decide +kernel
theorem dX8_close_16 : decode cX8_close 16 = .ok (.getfield 199, 3) := by decide +kernel
theorem dX8_close_19 : decode cX8_close 19 = .ok (.if_icmp .ge 65, 3) := by decide +kernel
theorem dX8_close_22 : decode cX8_close 22 = .ok (.iload_n 2, 1) := by decide +kernel
theorem dX8_close_23 : decode cX8_close 23 = .ok (.aload_n 0, 1) := by decide +kernel
theorem dX8_close_24 : decode cX8_close 24 = .ok (.getfield 13, 3) := by decide +kernel
theorem dX8_close_27 : decode cX8_close 27 = .ok (.iload 4, 2) := by decide +kernel
theorem dX8_close_29 : decode cX8_close 29 = .ok (.iaload, 1) := by decide +kernel
theorem dX8_close_30 : decode cX8_close 30 = .ok (.invokestatic 160, 3) := by decide +kernel
theorem dX8_close_33 : decode cX8_close 33 = .ok (.ifCond .eq 45, 3) := by decide +kernel
theorem dX8_close_36 : decode cX8_close 36 = .ok (.iload_n 2, 1) := by decide +kernel
theorem dX8_close_37 : decode cX8_close 37 = .ok (.aload_n 0, 1) := by decide +kernel
theorem dX8_close_38 : decode cX8_close 38 = .ok (.getfield 16, 3) := by decide +kernel
theorem dX8_close_41 : decode cX8_close 41 = .ok (.iload 4, 2) := by decide +kernel
theorem dX8_close_43 : decode cX8_close 43 = .ok (.iaload, 1) := by decide +kernel
theorem dX8_close_44 : decode cX8_close 44 = .ok (.invokestatic 160, 3) := by decide +kernel
theorem dX8_close_47 : decode cX8_close 47 = .ok (.ifCond .eq 31, 3) := by decide +kernel
theorem dX8_close_50 : decode cX8_close 50 = .ok (.iload_n 2, 1) := by decide +kernel
theorem dX8_close_51 : decode cX8_close 51 = .ok (.aload_n 0, 1) := by decide +kernel
theorem dX8_close_52 : decode cX8_close 52 = .ok (.getfield 19, 3) := by decide +kernel
theorem dX8_close_55 : decode cX8_close 55 = .ok (.iload 4, 2) := by decide +kernel
theorem dX8_close_57 : decode cX8_close 57 = .ok (.iaload, 1) := by decide +kernel
theorem dX8_close_58 : decode cX8_close 58 = .ok (.invokestatic 160, 3) := by decide +kernel
theorem dX8_close_61 : decode cX8_close 61 = .ok (.ifCond .ne 17, 3) := by decide +kernel
theorem dX8_close_64 : decode cX8_close 64 = .ok (.iload_n 2, 1) := by decide +kernel
theorem dX8_close_65 : decode cX8_close 65 = .ok (.iconst 1, 1) := by decide +kernel
theorem dX8_close_66 : decode cX8_close 66 = .ok (.aload_n 0, 1) := by decide +kernel
theorem dX8_close_67 : decode cX8_close 67 = .ok (.getfield 19, 3) := by decide +kernel
theorem dX8_close_70 : decode cX8_close 70 = .ok (.iload 4, 2) := by decide +kernel
theorem dX8_close_72 : decode cX8_close 72 = .ok (.iaload, 1) := by decide +kernel
theorem dX8_close_73 : decode cX8_close 73 = .ok (.ishl, 1) := by decide +kernel
theorem dX8_close_74 : decode cX8_close 74 = .ok (.ior, 1) := by decide +kernel
theorem dX8_close_75 : decode cX8_close 75 = .ok (.istore_n 2, 1) := by decide +kernel
theorem dX8_close_76 : decode cX8_close 76 = .ok (.iconst 1, 1) := by decide +kernel
theorem dX8_close_77 : decode cX8_close 77 = .ok (.istore_n 3, 1) := by decide +kernel
theorem dX8_close_78 : decode cX8_close 78 = .ok (.iinc 4 1, 3) := by decide +kernel
theorem dX8_close_81 : decode cX8_close 81 = .ok (.goto (-68), 3) := by decide +kernel
theorem dX8_close_84 : decode cX8_close 84 = .ok (.goto (-80), 3) := by decide +kernel
theorem dX8_close_87 : decode cX8_close 87 = .ok (.iload_n 2, 1) := by decide +kernel
theorem dX8_close_88 : decode cX8_close 88 = .ok (.ireturn, 1) := by decide +kernel
theorem dX8_sizeOf_0 : decode cX8_sizeOf 0 = .ok (.iconst 0, 1) := by decide +kernel
theorem dX8_sizeOf_1 : decode cX8_sizeOf 1 = .ok (.istore_n 2, 1) := by decide +kernel
theorem dX8_sizeOf_2 : decode cX8_sizeOf 2 = .ok (.iconst 0, 1) := by decide +kernel
theorem dX8_sizeOf_3 : decode cX8_sizeOf 3 = .ok (.istore_n 3, 1) := by decide +kernel
theorem dX8_sizeOf_4 : decode cX8_sizeOf 4 = .ok (.iload_n 3, 1) := by decide +kernel
theorem dX8_sizeOf_5 : decode cX8_sizeOf 5 = .ok (.aload_n 0, 1) := by decide +kernel
theorem dX8_sizeOf_6 : decode cX8_sizeOf 6 = .ok (.getfield 103, 3) := by decide +kernel
theorem dX8_sizeOf_9 : decode cX8_sizeOf 9 = .ok (.if_icmp .ge 30, 3) := by decide +kernel
theorem dX8_sizeOf_12 : decode cX8_sizeOf 12 = .ok (.iload_n 2, 1) := by decide +kernel
theorem dX8_sizeOf_13 : decode cX8_sizeOf 13 = .ok (.iload_n 1, 1) := by decide +kernel
theorem dX8_sizeOf_14 : decode cX8_sizeOf 14 = .ok (.iload_n 3, 1) := by decide +kernel
theorem dX8_sizeOf_15 : decode cX8_sizeOf 15 = .ok (.invokestatic 160, 3) := by decide +kernel
theorem dX8_sizeOf_18 : decode cX8_sizeOf 18 = .ok (.ifCond .eq 12, 3) := by decide +kernel
theorem dX8_sizeOf_21 : decode cX8_sizeOf 21 = .ok (.aload_n 0, 1) := by decide +kernel
theorem dX8_sizeOf_22 : decode cX8_sizeOf 22 = .ok (.getfield 7, 3) := by decide +kernel
theorem dX8_sizeOf_25 : decode cX8_sizeOf 25 = .ok (.iload_n 3, 1) := by decide +kernel
theorem dX8_sizeOf_26 : decode cX8_sizeOf 26 = .ok (.iaload, 1) := by decide +kernel
theorem dX8_sizeOf_27 : decode cX8_sizeOf 27 = .ok (.goto 4, 3) := by decide +kernel
theorem dX8_sizeOf_30 : decode cX8_sizeOf 30 = .ok (.iconst 0, 1) := by decide +kernel
theorem dX8_sizeOf_31 : decode cX8_sizeOf 31 = .ok (.iadd, 1) := by decide +kernel
theorem dX8_sizeOf_32 : decode cX8_sizeOf 32 = .ok (.istore_n 2, 1) := by decide +kernel
theorem dX8_sizeOf_33 : decode cX8_sizeOf 33 = .ok (.iinc 3 1, 3) := by decide +kernel
theorem dX8_sizeOf_36 : decode cX8_sizeOf 36 = .ok (.goto (-32), 3) := by decide +kernel
theorem dX8_sizeOf_39 : decode cX8_sizeOf 39 = .ok (.iload_n 2, 1) := by decide +kernel
theorem dX8_sizeOf_40 : decode cX8_sizeOf 40 = .ok (.ireturn, 1) := by decide +kernel
theorem dX8_owedWhere_0 : decode cX8_owedWhere 0 = .ok (.iconst 0, 1) := by decide +kernel
theorem dX8_owedWhere_1 : decode cX8_owedWhere 1 = .ok (.istore_n 3, 1) := by decide +kernel
theorem dX8_owedWhere_2 : decode cX8_owedWhere 2 = .ok (.iconst 0, 1) := by decide +kernel
theorem dX8_owedWhere_3 : decode cX8_owedWhere 3 = .ok (.istore 4, 2) := by decide +kernel
theorem dX8_owedWhere_5 : decode cX8_owedWhere 5 = .ok (.iload 4, 2) := by decide +kernel
theorem dX8_owedWhere_7 : decode cX8_owedWhere 7 = .ok (.aload_n 0, 1) := by decide +kernel
theorem dX8_owedWhere_8 : decode cX8_owedWhere 8 = .ok (.getfield 103, 3) := by decide +kernel
theorem dX8_owedWhere_11 : decode cX8_owedWhere 11 = .ok (.if_icmp .ge 69, 3) := by decide +kernel
theorem dX8_owedWhere_14 : decode cX8_owedWhere 14 = .ok (.iload_n 1, 1) := by decide +kernel
theorem dX8_owedWhere_15 : decode cX8_owedWhere 15 = .ok (.iload 4, 2) := by decide +kernel
theorem dX8_owedWhere_17 : decode cX8_owedWhere 17 = .ok (.invokestatic 160, 3) := by decide +kernel
theorem dX8_owedWhere_20 : decode cX8_owedWhere 20 = .ok (.ifCond .eq 54, 3) := by decide +kernel
theorem dX8_owedWhere_23 : decode cX8_owedWhere 23 = .ok (.iload_n 2, 1) := by decide +kernel
theorem dX8_owedWhere_24 : decode cX8_owedWhere 24 = .ok (.iload 4, 2) := by decide +kernel
theorem dX8_owedWhere_26 : decode cX8_owedWhere 26 = .ok (.invokestatic 160, 3) := by decide +kernel
theorem dX8_owedWhere_29 : decode cX8_owedWhere 29 = .ok (.ifCond .ne 45, 3) := by decide +kernel
theorem dX8_owedWhere_32 : decode cX8_owedWhere 32 = .ok (.iload_n 3, 1) := by decide +kernel
theorem dX8_owedWhere_33 : decode cX8_owedWhere 33 = .ok (.aload_n 0, 1) := by decide +kernel
theorem dX8_owedWhere_34 : decode cX8_owedWhere 34 = .ok (.iload_n 1, 1) := by decide +kernel
theorem dX8_owedWhere_35 : decode cX8_owedWhere 35 = .ok (.iconst 1, 1) := by decide +kernel
theorem dX8_owedWhere_36 : decode cX8_owedWhere 36 = .ok (.iload 4, 2) := by decide +kernel
theorem dX8_owedWhere_38 : decode cX8_owedWhere 38 = .ok (.ishl, 1) := by decide +kernel
theorem dX8_owedWhere_39 : decode cX8_owedWhere 39 = .ok (.iconst (-1), 1) := by decide +kernel
theorem dX8_owedWhere_40 : decode cX8_owedWhere 40 = .ok (.ixor, 1) := by decide +kernel
theorem dX8_owedWhere_41 : decode cX8_owedWhere 41 = .ok (.iand, 1) := by decide +kernel
theorem dX8_owedWhere_42 : decode cX8_owedWhere 42 = .ok (.invokevirtual 220, 3) := by decide +kernel
theorem dX8_owedWhere_45 : decode cX8_owedWhere 45 = .ok (.iload 4, 2) := by decide +kernel
theorem dX8_owedWhere_47 : decode cX8_owedWhere 47 = .ok (.invokestatic 160, 3) := by decide +kernel
theorem dX8_owedWhere_50 : decode cX8_owedWhere 50 = .ok (.ifCond .eq 15, 3) := by decide +kernel
theorem dX8_owedWhere_53 : decode cX8_owedWhere 53 = .ok (.aload_n 0, 1) := by decide +kernel
theorem dX8_owedWhere_54 : decode cX8_owedWhere 54 = .ok (.getfield 7, 3) := by decide +kernel
theorem dX8_owedWhere_57 : decode cX8_owedWhere 57 = .ok (.iload 4, 2) := by decide +kernel
theorem dX8_owedWhere_59 : decode cX8_owedWhere 59 = .ok (.iaload, 1) := by decide +kernel
theorem dX8_owedWhere_60 : decode cX8_owedWhere 60 = .ok (.iconst 2, 1) := by decide +kernel
theorem dX8_owedWhere_61 : decode cX8_owedWhere 61 = .ok (.idiv, 1) := by decide +kernel
theorem dX8_owedWhere_62 : decode cX8_owedWhere 62 = .ok (.goto 10, 3) := by decide +kernel
theorem dX8_owedWhere_65 : decode cX8_owedWhere 65 = .ok (.aload_n 0, 1) := by decide +kernel
theorem dX8_owedWhere_66 : decode cX8_owedWhere 66 = .ok (.getfield 7, 3) := by decide +kernel
theorem dX8_owedWhere_69 : decode cX8_owedWhere 69 = .ok (.iload 4, 2) := by decide +kernel
theorem dX8_owedWhere_71 : decode cX8_owedWhere 71 = .ok (.iaload, 1) := by decide +kernel
theorem dX8_owedWhere_72 : decode cX8_owedWhere 72 = .ok (.iadd, 1) := by decide +kernel
theorem dX8_owedWhere_73 : decode cX8_owedWhere 73 = .ok (.istore_n 3, 1) := by decide +kernel
theorem dX8_owedWhere_74 : decode cX8_owedWhere 74 = .ok (.iinc 4 1, 3) := by decide +kernel
theorem dX8_owedWhere_77 : decode cX8_owedWhere 77 = .ok (.goto (-72), 3) := by decide +kernel
theorem dX8_owedWhere_80 : decode cX8_owedWhere 80 = .ok (.iload_n 3, 1) := by decide +kernel
theorem dX8_owedWhere_81 : decode cX8_owedWhere 81 = .ok (.ireturn, 1) := by decide +kernel
theorem dX8_owedFor_0 : decode cX8_owedFor 0 = .ok (.aload_n 0, 1) := by decide +kernel
theorem dX8_owedFor_1 : decode cX8_owedFor 1 = .ok (.iload_n 1, 1) := by decide +kernel
theorem dX8_owedFor_2 : decode cX8_owedFor 2 = .ok (.aload_n 0, 1) := by decide +kernel
theorem dX8_owedFor_3 : decode cX8_owedFor 3 = .ok (.aload_n 0, 1) := by decide +kernel
theorem dX8_owedFor_4 : decode cX8_owedFor 4 = .ok (.getfield 31, 3) := by decide +kernel
theorem dX8_owedFor_7 : decode cX8_owedFor 7 = .ok (.iconst 0, 1) := by decide +kernel
theorem dX8_owedFor_8 : decode cX8_owedFor 8 = .ok (.iaload, 1) := by decide +kernel
theorem dX8_owedFor_9 : decode cX8_owedFor 9 = .ok (.invokevirtual 220, 3) := by decide +kernel
theorem dX8_owedFor_12 : decode cX8_owedFor 12 = .ok (.invokevirtual 223, 3) := by decide +kernel
theorem dX8_owedFor_15 : decode cX8_owedFor 15 = .ok (.ireturn, 1) := by decide +kernel
theorem dX8_isGone_0 : decode cX8_isGone 0 = .ok (.aload_n 0, 1) := by decide +kernel
theorem dX8_isGone_1 : decode cX8_isGone 1 = .ok (.getfield 31, 3) := by decide +kernel
theorem dX8_isGone_4 : decode cX8_isGone 4 = .ok (.iconst 1, 1) := by decide +kernel
theorem dX8_isGone_5 : decode cX8_isGone 5 = .ok (.iaload, 1) := by decide +kernel
theorem dX8_isGone_6 : decode cX8_isGone 6 = .ok (.iload_n 1, 1) := by decide +kernel
theorem dX8_isGone_7 : decode cX8_isGone 7 = .ok (.invokestatic 160, 3) := by decide +kernel
theorem dX8_isGone_10 : decode cX8_isGone 10 = .ok (.ireturn, 1) := by decide +kernel
theorem dX8_isStuck_0 : decode cX8_isStuck 0 = .ok (.aload_n 0, 1) := by decide +kernel
theorem dX8_isStuck_1 : decode cX8_isStuck 1 = .ok (.aload_n 0, 1) := by decide +kernel
theorem dX8_isStuck_2 : decode cX8_isStuck 2 = .ok (.getfield 31, 3) := by decide +kernel
theorem dX8_isStuck_5 : decode cX8_isStuck 5 = .ok (.iconst 2, 1) := by decide +kernel
theorem dX8_isStuck_6 : decode cX8_isStuck 6 = .ok (.iload_n 1, 1) := by decide +kernel
theorem dX8_isStuck_7 : decode cX8_isStuck 7 = .ok (.iadd, 1) := by decide +kernel
theorem dX8_isStuck_8 : decode cX8_isStuck 8 = .ok (.iaload, 1) := by decide +kernel
theorem dX8_isStuck_9 : decode cX8_isStuck 9 = .ok (.invokevirtual 226, 3) := by decide +kernel
theorem dX8_isStuck_12 : decode cX8_isStuck 12 = .ok (.aload_n 0, 1) := by decide +kernel
theorem dX8_isStuck_13 : decode cX8_isStuck 13 = .ok (.getfield 99, 3) := by decide +kernel
theorem dX8_isStuck_16 : decode cX8_isStuck 16 = .ok (.if_icmp .le 7, 3) := by decide +kernel
theorem dX8_isStuck_19 : decode cX8_isStuck 19 = .ok (.iconst 1, 1) := by decide +kernel
theorem dX8_isStuck_20 : decode cX8_isStuck 20 = .ok (.goto 4, 3) := by decide +kernel
theorem dX8_isStuck_23 : decode cX8_isStuck 23 = .ok (.iconst 0, 1) := by decide +kernel
theorem dX8_isStuck_24 : decode cX8_isStuck 24 = .ok (.ireturn, 1) := by decide +kernel
theorem dX8_stuckOnes_0 : decode cX8_stuckOnes 0 = .ok (.iconst 0, 1) := by decide +kernel
theorem dX8_stuckOnes_1 : decode cX8_stuckOnes 1 = .ok (.istore_n 1, 1) := by decide +kernel
theorem dX8_stuckOnes_2 : decode cX8_stuckOnes 2 = .ok (.iconst 0, 1) := by decide +kernel
theorem dX8_stuckOnes_3 : decode cX8_stuckOnes 3 = .ok (.istore_n 2, 1) := by decide +kernel
theorem dX8_stuckOnes_4 : decode cX8_stuckOnes 4 = .ok (.iload_n 2, 1) := by decide +kernel
theorem dX8_stuckOnes_5 : decode cX8_stuckOnes 5 = .ok (.aload_n 0, 1) := by decide +kernel
theorem dX8_stuckOnes_6 : decode cX8_stuckOnes 6 = .ok (.getfield 110, 3) := by decide +kernel
theorem dX8_stuckOnes_9 : decode cX8_stuckOnes 9 = .ok (.if_icmp .ge 35, 3) := by decide +kernel
theorem dX8_stuckOnes_12 : decode cX8_stuckOnes 12 = .ok (.iload_n 1, 1) := by decide +kernel
theorem dX8_stuckOnes_13 : decode cX8_stuckOnes 13 = .ok (.aload_n 0, 1) := by decide +kernel
theorem dX8_stuckOnes_14 : decode cX8_stuckOnes 14 = .ok (.iload_n 2, 1) := by decide +kernel
theorem dX8_stuckOnes_15 : decode cX8_stuckOnes 15 = .ok (.invokevirtual 229, 3) := by decide +kernel
theorem dX8_stuckOnes_18 : decode cX8_stuckOnes 18 = .ok (.ifCond .ne 17, 3) := by decide +kernel
theorem dX8_stuckOnes_21 : decode cX8_stuckOnes 21 = .ok (.aload_n 0, 1) := by decide +kernel
theorem dX8_stuckOnes_22 : decode cX8_stuckOnes 22 = .ok (.iload_n 2, 1) := by decide +kernel
theorem dX8_stuckOnes_23 : decode cX8_stuckOnes 23 = .ok (.invokevirtual 232, 3) := by decide +kernel
theorem dX8_stuckOnes_26 : decode cX8_stuckOnes 26 = .ok (.ifCond .eq 9, 3) := by decide +kernel
theorem dX8_stuckOnes_29 : decode cX8_stuckOnes 29 = .ok (.iconst 1, 1) := by decide +kernel
theorem dX8_stuckOnes_30 : decode cX8_stuckOnes 30 = .ok (.iload_n 2, 1) := by decide +kernel
theorem dX8_stuckOnes_31 : decode cX8_stuckOnes 31 = .ok (.ishl, 1) := by decide +kernel
theorem dX8_stuckOnes_32 : decode cX8_stuckOnes 32 = .ok (.goto 4, 3) := by decide +kernel
theorem dX8_stuckOnes_35 : decode cX8_stuckOnes 35 = .ok (.iconst 0, 1) := by decide +kernel
theorem dX8_stuckOnes_36 : decode cX8_stuckOnes 36 = .ok (.ior, 1) := by decide +kernel
theorem dX8_stuckOnes_37 : decode cX8_stuckOnes 37 = .ok (.istore_n 1, 1) := by decide +kernel
theorem dX8_stuckOnes_38 : decode cX8_stuckOnes 38 = .ok (.iinc 2 1, 3) := by decide +kernel
theorem dX8_stuckOnes_41 : decode cX8_stuckOnes 41 = .ok (.goto (-37), 3) := by decide +kernel
theorem dX8_stuckOnes_44 : decode cX8_stuckOnes 44 = .ok (.iload_n 1, 1) := by decide +kernel
theorem dX8_stuckOnes_45 : decode cX8_stuckOnes 45 = .ok (.ireturn, 1) := by decide +kernel
theorem dX8_told_0 : decode cX8_told 0 = .ok (.iload_n 1, 1) := by decide +kernel
theorem dX8_told_1 : decode cX8_told 1 = .ok (.tableswitch 175 0 15 #[79, 84, 89, 94, 99, 104, 109, 114, 121, 132, 139, 144, 152, 160, 165, 170], 79) := by decide +kernel
theorem dX8_told_80 : decode cX8_told 80 = .ok (.aload_n 0, 1) := by decide +kernel
theorem dX8_told_81 : decode cX8_told 81 = .ok (.getfield 99, 3) := by decide +kernel
theorem dX8_told_84 : decode cX8_told 84 = .ok (.ireturn, 1) := by decide +kernel
theorem dX8_told_85 : decode cX8_told 85 = .ok (.aload_n 0, 1) := by decide +kernel
theorem dX8_told_86 : decode cX8_told 86 = .ok (.getfield 196, 3) := by decide +kernel
theorem dX8_told_89 : decode cX8_told 89 = .ok (.ireturn, 1) := by decide +kernel
theorem dX8_told_90 : decode cX8_told 90 = .ok (.aload_n 0, 1) := by decide +kernel
theorem dX8_told_91 : decode cX8_told 91 = .ok (.getfield 103, 3) := by decide +kernel
theorem dX8_told_94 : decode cX8_told 94 = .ok (.ireturn, 1) := by decide +kernel
theorem dX8_told_95 : decode cX8_told 95 = .ok (.aload_n 0, 1) := by decide +kernel
theorem dX8_told_96 : decode cX8_told 96 = .ok (.getfield 199, 3) := by decide +kernel
theorem dX8_told_99 : decode cX8_told 99 = .ok (.ireturn, 1) := by decide +kernel
theorem dX8_told_100 : decode cX8_told 100 = .ok (.aload_n 0, 1) := by decide +kernel
theorem dX8_told_101 : decode cX8_told 101 = .ok (.getfield 202, 3) := by decide +kernel
theorem dX8_told_104 : decode cX8_told 104 = .ok (.ireturn, 1) := by decide +kernel
theorem dX8_told_105 : decode cX8_told 105 = .ok (.aload_n 0, 1) := by decide +kernel
theorem dX8_told_106 : decode cX8_told 106 = .ok (.getfield 110, 3) := by decide +kernel
theorem dX8_told_109 : decode cX8_told 109 = .ok (.ireturn, 1) := by decide +kernel
theorem dX8_told_110 : decode cX8_told 110 = .ok (.aload_n 0, 1) := by decide +kernel
theorem dX8_told_111 : decode cX8_told 111 = .ok (.getfield 116, 3) := by decide +kernel
theorem dX8_told_114 : decode cX8_told 114 = .ok (.ireturn, 1) := by decide +kernel
theorem dX8_told_115 : decode cX8_told 115 = .ok (.aload_n 0, 1) := by decide +kernel
theorem dX8_told_116 : decode cX8_told 116 = .ok (.getfield 31, 3) := by decide +kernel
theorem dX8_told_119 : decode cX8_told 119 = .ok (.iconst 0, 1) := by decide +kernel
theorem dX8_told_120 : decode cX8_told 120 = .ok (.iaload, 1) := by decide +kernel
theorem dX8_told_121 : decode cX8_told 121 = .ok (.ireturn, 1) := by decide +kernel
theorem dX8_told_122 : decode cX8_told 122 = .ok (.aload_n 0, 1) := by decide +kernel
theorem dX8_told_123 : decode cX8_told 123 = .ok (.aload_n 0, 1) := by decide +kernel
theorem dX8_told_124 : decode cX8_told 124 = .ok (.getfield 31, 3) := by decide +kernel
theorem dX8_told_127 : decode cX8_told 127 = .ok (.iconst 0, 1) := by decide +kernel
theorem dX8_told_128 : decode cX8_told 128 = .ok (.iaload, 1) := by decide +kernel
theorem dX8_told_129 : decode cX8_told 129 = .ok (.invokevirtual 220, 3) := by decide +kernel
theorem dX8_told_132 : decode cX8_told 132 = .ok (.ireturn, 1) := by decide +kernel
theorem dX8_told_133 : decode cX8_told 133 = .ok (.aload_n 0, 1) := by decide +kernel
theorem dX8_told_134 : decode cX8_told 134 = .ok (.getfield 31, 3) := by decide +kernel
theorem dX8_told_137 : decode cX8_told 137 = .ok (.iconst 1, 1) := by decide +kernel
theorem dX8_told_138 : decode cX8_told 138 = .ok (.iaload, 1) := by decide +kernel
theorem dX8_told_139 : decode cX8_told 139 = .ok (.ireturn, 1) := by decide +kernel
theorem dX8_told_140 : decode cX8_told 140 = .ok (.aload_n 0, 1) := by decide +kernel
theorem dX8_told_141 : decode cX8_told 141 = .ok (.invokevirtual 235, 3) := by decide +kernel
theorem dX8_told_144 : decode cX8_told 144 = .ok (.ireturn, 1) := by decide +kernel
theorem dX8_told_145 : decode cX8_told 145 = .ok (.aload_n 0, 1) := by decide +kernel
theorem dX8_told_146 : decode cX8_told 146 = .ok (.getfield 31, 3) := by decide +kernel
theorem dX8_told_149 : decode cX8_told 149 = .ok (.bipush 7, 2) := by decide +kernel
theorem dX8_told_151 : decode cX8_told 151 = .ok (.iaload, 1) := by decide +kernel
theorem dX8_told_152 : decode cX8_told 152 = .ok (.ireturn, 1) := by decide +kernel
theorem dX8_told_153 : decode cX8_told 153 = .ok (.aload_n 0, 1) := by decide +kernel
theorem dX8_told_154 : decode cX8_told 154 = .ok (.getfield 31, 3) := by decide +kernel
theorem dX8_told_157 : decode cX8_told 157 = .ok (.bipush 8, 2) := by decide +kernel
theorem dX8_told_159 : decode cX8_told 159 = .ok (.iaload, 1) := by decide +kernel
theorem dX8_told_160 : decode cX8_told 160 = .ok (.ireturn, 1) := by decide +kernel
theorem dX8_told_161 : decode cX8_told 161 = .ok (.aload_n 0, 1) := by decide +kernel
theorem dX8_told_162 : decode cX8_told 162 = .ok (.getfield 211, 3) := by decide +kernel
theorem dX8_told_165 : decode cX8_told 165 = .ok (.ireturn, 1) := by decide +kernel
theorem dX8_told_166 : decode cX8_told 166 = .ok (.aload_n 0, 1) := by decide +kernel
theorem dX8_told_167 : decode cX8_told 167 = .ok (.getfield 214, 3) := by decide +kernel
theorem dX8_told_170 : decode cX8_told 170 = .ok (.ireturn, 1) := by decide +kernel
theorem dX8_told_171 : decode cX8_told 171 = .ok (.aload_n 0, 1) := by decide +kernel
theorem dX8_told_172 : decode cX8_told 172 = .ok (.getfield 217, 3) := by decide +kernel
theorem dX8_told_175 : decode cX8_told 175 = .ok (.ireturn, 1) := by decide +kernel
theorem dX8_told_176 : decode cX8_told 176 = .ok (.ldc 115, 2) := by decide +kernel
theorem dX8_told_178 : decode cX8_told 178 = .ok (.ireturn, 1) := by decide +kernel
theorem dX8_size_0 : decode cX8_size 0 = .ok (.aload_n 0, 1) := by decide +kernel
theorem dX8_size_1 : decode cX8_size 1 = .ok (.iload_n 1, 1) := by decide +kernel
theorem dX8_size_2 : decode cX8_size 2 = .ok (.invokevirtual 238, 3) := by decide +kernel
theorem dX8_size_5 : decode cX8_size 5 = .ok (.ifCond .eq 12, 3) := by decide +kernel
theorem dX8_size_8 : decode cX8_size 8 = .ok (.aload_n 0, 1) := by decide +kernel
theorem dX8_size_9 : decode cX8_size 9 = .ok (.getfield 7, 3) := by decide +kernel
theorem dX8_size_12 : decode cX8_size 12 = .ok (.iload_n 1, 1) := by decide +kernel
theorem dX8_size_13 : decode cX8_size 13 = .ok (.iaload, 1) := by decide +kernel
theorem dX8_size_14 : decode cX8_size 14 = .ok (.goto 5, 3) := by decide +kernel
theorem dX8_size_17 : decode cX8_size 17 = .ok (.ldc 241, 2) := by decide +kernel
theorem dX8_size_19 : decode cX8_size 19 = .ok (.ireturn, 1) := by decide +kernel
theorem dX8_traveller_0 : decode cX8_traveller 0 = .ok (.aload_n 0, 1) := by decide +kernel
theorem dX8_traveller_1 : decode cX8_traveller 1 = .ok (.iload_n 1, 1) := by decide +kernel
theorem dX8_traveller_2 : decode cX8_traveller 2 = .ok (.invokevirtual 242, 3) := by decide +kernel
theorem dX8_traveller_5 : decode cX8_traveller 5 = .ok (.ifCond .ne 6, 3) := by decide +kernel
theorem dX8_traveller_8 : decode cX8_traveller 8 = .ok (.ldc 241, 2) := by decide +kernel
theorem dX8_traveller_10 : decode cX8_traveller 10 = .ok (.ireturn, 1) := by decide +kernel
theorem dX8_traveller_11 : decode cX8_traveller 11 = .ok (.iload_n 2, 1) := by decide +kernel
theorem dX8_traveller_12 : decode cX8_traveller 12 = .ok (.tableswitch 81 0 3 #[32, 41, 54, 67], 32) := by decide +kernel
theorem dX8_traveller_44 : decode cX8_traveller 44 = .ok (.aload_n 0, 1) := by decide +kernel
theorem dX8_traveller_45 : decode cX8_traveller 45 = .ok (.getfield 31, 3) := by decide +kernel
theorem dX8_traveller_48 : decode cX8_traveller 48 = .ok (.iconst 2, 1) := by decide +kernel
theorem dX8_traveller_49 : decode cX8_traveller 49 = .ok (.iload_n 1, 1) := by decide +kernel
theorem dX8_traveller_50 : decode cX8_traveller 50 = .ok (.iadd, 1) := by decide +kernel
theorem dX8_traveller_51 : decode cX8_traveller 51 = .ok (.iaload, 1) := by decide +kernel
theorem dX8_traveller_52 : decode cX8_traveller 52 = .ok (.ireturn, 1) := by decide +kernel
theorem dX8_traveller_53 : decode cX8_traveller 53 = .ok (.aload_n 0, 1) := by decide +kernel
theorem dX8_traveller_54 : decode cX8_traveller 54 = .ok (.aload_n 0, 1) := by decide +kernel
theorem dX8_traveller_55 : decode cX8_traveller 55 = .ok (.getfield 31, 3) := by decide +kernel
theorem dX8_traveller_58 : decode cX8_traveller 58 = .ok (.iconst 2, 1) := by decide +kernel
theorem dX8_traveller_59 : decode cX8_traveller 59 = .ok (.iload_n 1, 1) := by decide +kernel
theorem dX8_traveller_60 : decode cX8_traveller 60 = .ok (.iadd, 1) := by decide +kernel
theorem dX8_traveller_61 : decode cX8_traveller 61 = .ok (.iaload, 1) := by decide +kernel
theorem dX8_traveller_62 : decode cX8_traveller 62 = .ok (.invokevirtual 226, 3) := by decide +kernel
theorem dX8_traveller_65 : decode cX8_traveller 65 = .ok (.ireturn, 1) := by decide +kernel
theorem dX8_traveller_66 : decode cX8_traveller 66 = .ok (.aload_n 0, 1) := by decide +kernel
theorem dX8_traveller_67 : decode cX8_traveller 67 = .ok (.aload_n 0, 1) := by decide +kernel
theorem dX8_traveller_68 : decode cX8_traveller 68 = .ok (.getfield 31, 3) := by decide +kernel
theorem dX8_traveller_71 : decode cX8_traveller 71 = .ok (.iconst 2, 1) := by decide +kernel
theorem dX8_traveller_72 : decode cX8_traveller 72 = .ok (.iload_n 1, 1) := by decide +kernel
theorem dX8_traveller_73 : decode cX8_traveller 73 = .ok (.iadd, 1) := by decide +kernel
theorem dX8_traveller_74 : decode cX8_traveller 74 = .ok (.iaload, 1) := by decide +kernel
theorem dX8_traveller_75 : decode cX8_traveller 75 = .ok (.invokevirtual 245, 3) := by decide +kernel
theorem dX8_traveller_78 : decode cX8_traveller 78 = .ok (.ireturn, 1) := by decide +kernel
theorem dX8_traveller_79 : decode cX8_traveller 79 = .ok (.aload_n 0, 1) := by decide +kernel
theorem dX8_traveller_80 : decode cX8_traveller 80 = .ok (.iload_n 1, 1) := by decide +kernel
theorem dX8_traveller_81 : decode cX8_traveller 81 = .ok (.invokevirtual 229, 3) := by decide +kernel
theorem dX8_traveller_84 : decode cX8_traveller 84 = .ok (.ifCond .eq 7, 3) := by decide +kernel
theorem dX8_traveller_87 : decode cX8_traveller 87 = .ok (.iconst 1, 1) := by decide +kernel
theorem dX8_traveller_88 : decode cX8_traveller 88 = .ok (.goto 4, 3) := by decide +kernel
theorem dX8_traveller_91 : decode cX8_traveller 91 = .ok (.iconst 0, 1) := by decide +kernel
theorem dX8_traveller_92 : decode cX8_traveller 92 = .ok (.ireturn, 1) := by decide +kernel
theorem dX8_traveller_93 : decode cX8_traveller 93 = .ok (.ldc 115, 2) := by decide +kernel
theorem dX8_traveller_95 : decode cX8_traveller 95 = .ok (.ireturn, 1) := by decide +kernel
theorem dX8_remember_0 : decode cX8_remember 0 = .ok (.aload_n 0, 1) := by decide +kernel
theorem dX8_remember_1 : decode cX8_remember 1 = .ok (.getfield 217, 3) := by decide +kernel
theorem dX8_remember_4 : decode cX8_remember 4 = .ok (.bipush 20, 2) := by decide +kernel
theorem dX8_remember_6 : decode cX8_remember 6 = .ok (.if_icmp .ne 44, 3) := by decide +kernel
theorem dX8_remember_9 : decode cX8_remember 9 = .ok (.bipush 9, 2) := by decide +kernel
theorem dX8_remember_11 : decode cX8_remember 11 = .ok (.istore_n 1, 1) := by decide +kernel
theorem dX8_remember_12 : decode cX8_remember 12 = .ok (.iload_n 1, 1) := by decide +kernel
theorem dX8_remember_13 : decode cX8_remember 13 = .ok (.sipush 180, 3) := by decide +kernel
theorem dX8_remember_16 : decode cX8_remember 16 = .ok (.if_icmp .ge 24, 3) := by decide +kernel
theorem dX8_remember_19 : decode cX8_remember 19 = .ok (.aload_n 0, 1) := by decide +kernel
theorem dX8_remember_20 : decode cX8_remember 20 = .ok (.getfield 68, 3) := by decide +kernel
theorem dX8_remember_23 : decode cX8_remember 23 = .ok (.iload_n 1, 1) := by decide +kernel
theorem dX8_remember_24 : decode cX8_remember 24 = .ok (.bipush 9, 2) := by decide +kernel
theorem dX8_remember_26 : decode cX8_remember 26 = .ok (.isub, 1) := by decide +kernel
theorem dX8_remember_27 : decode cX8_remember 27 = .ok (.aload_n 0, 1) := by decide +kernel
theorem dX8_remember_28 : decode cX8_remember 28 = .ok (.getfield 68, 3) := by decide +kernel
theorem dX8_remember_31 : decode cX8_remember 31 = .ok (.iload_n 1, 1) := by decide +kernel
theorem dX8_remember_32 : decode cX8_remember 32 = .ok (.iaload, 1) := by decide +kernel
theorem dX8_remember_33 : decode cX8_remember 33 = .ok (.iastore, 1) := by decide +kernel
theorem dX8_remember_34 : decode cX8_remember 34 = .ok (.iinc 1 1, 3) := by decide +kernel
theorem dX8_remember_37 : decode cX8_remember 37 = .ok (.goto (-25), 3) := by decide +kernel
theorem dX8_remember_40 : decode cX8_remember 40 = .ok (.aload_n 0, 1) := by decide +kernel
theorem dX8_remember_41 : decode cX8_remember 41 = .ok (.dup, 1) := by decide +kernel
theorem dX8_remember_42 : decode cX8_remember 42 = .ok (.getfield 217, 3) := by decide +kernel
theorem dX8_remember_45 : decode cX8_remember 45 = .ok (.iconst 1, 1) := by decide +kernel
theorem dX8_remember_46 : decode cX8_remember 46 = .ok (.isub, 1) := by decide +kernel
theorem dX8_remember_47 : decode cX8_remember 47 = .ok (.putfield 217, 3) := by decide +kernel
theorem dX8_remember_50 : decode cX8_remember 50 = .ok (.iconst 0, 1) := by decide +kernel
theorem dX8_remember_51 : decode cX8_remember 51 = .ok (.istore_n 1, 1) := by decide +kernel
theorem dX8_remember_52 : decode cX8_remember 52 = .ok (.iload_n 1, 1) := by decide +kernel
theorem dX8_remember_53 : decode cX8_remember 53 = .ok (.bipush 9, 2) := by decide +kernel
theorem dX8_remember_55 : decode cX8_remember 55 = .ok (.if_icmp .ge 29, 3) := by decide +kernel
theorem dX8_remember_58 : decode cX8_remember 58 = .ok (.aload_n 0, 1) := by decide +kernel
theorem dX8_remember_59 : decode cX8_remember 59 = .ok (.getfield 68, 3) := by decide +kernel
theorem dX8_remember_62 : decode cX8_remember 62 = .ok (.bipush 9, 2) := by decide +kernel
theorem dX8_remember_64 : decode cX8_remember 64 = .ok (.aload_n 0, 1) := by decide +kernel
theorem dX8_remember_65 : decode cX8_remember 65 = .ok (.getfield 217, 3) := by decide +kernel
theorem dX8_remember_68 : decode cX8_remember 68 = .ok (.imul, 1) := by decide +kernel
theorem dX8_remember_69 : decode cX8_remember 69 = .ok (.iload_n 1, 1) := by decide +kernel
theorem dX8_remember_70 : decode cX8_remember 70 = .ok (.iadd, 1) := by decide +kernel
theorem dX8_remember_71 : decode cX8_remember 71 = .ok (.aload_n 0, 1) := by decide +kernel
theorem dX8_remember_72 : decode cX8_remember 72 = .ok (.getfield 31, 3) := by decide +kernel
theorem dX8_remember_75 : decode cX8_remember 75 = .ok (.iload_n 1, 1) := by decide +kernel
theorem dX8_remember_76 : decode cX8_remember 76 = .ok (.iaload, 1) := by decide +kernel
theorem dX8_remember_77 : decode cX8_remember 77 = .ok (.iastore, 1) := by decide +kernel
theorem dX8_remember_78 : decode cX8_remember 78 = .ok (.iinc 1 1, 3) := by decide +kernel
theorem dX8_remember_81 : decode cX8_remember 81 = .ok (.goto (-29), 3) := by decide +kernel
theorem dX8_remember_84 : decode cX8_remember 84 = .ok (.aload_n 0, 1) := by decide +kernel
theorem dX8_remember_85 : decode cX8_remember 85 = .ok (.dup, 1) := by decide +kernel
theorem dX8_remember_86 : decode cX8_remember 86 = .ok (.getfield 217, 3) := by decide +kernel
theorem dX8_remember_89 : decode cX8_remember 89 = .ok (.iconst 1, 1) := by decide +kernel
theorem dX8_remember_90 : decode cX8_remember 90 = .ok (.iadd, 1) := by decide +kernel
theorem dX8_remember_91 : decode cX8_remember 91 = .ok (.putfield 217, 3) := by decide +kernel
theorem dX8_remember_94 : decode cX8_remember 94 = .ok (.return_, 1) := by decide +kernel
theorem dX8_passNow_0 : decode cX8_passNow 0 = .ok (.aload_n 0, 1) := by decide +kernel
theorem dX8_passNow_1 : decode cX8_passNow 1 = .ok (.aload_n 0, 1) := by decide +kernel
theorem dX8_passNow_2 : decode cX8_passNow 2 = .ok (.getfield 31, 3) := by decide +kernel
theorem dX8_passNow_5 : decode cX8_passNow 5 = .ok (.iconst 2, 1) := by decide +kernel
theorem dX8_passNow_6 : decode cX8_passNow 6 = .ok (.iload_n 1, 1) := by decide +kernel
theorem dX8_passNow_7 : decode cX8_passNow 7 = .ok (.iadd, 1) := by decide +kernel
theorem dX8_passNow_8 : decode cX8_passNow 8 = .ok (.iaload, 1) := by decide +kernel
theorem dX8_passNow_9 : decode cX8_passNow 9 = .ok (.invokevirtual 245, 3) := by decide +kernel
theorem dX8_passNow_12 : decode cX8_passNow 12 = .ok (.istore_n 2, 1) := by decide +kernel
theorem dX8_passNow_13 : decode cX8_passNow 13 = .ok (.aload_n 0, 1) := by decide +kernel
theorem dX8_passNow_14 : decode cX8_passNow 14 = .ok (.getfield 31, 3) := by decide +kernel
theorem dX8_passNow_17 : decode cX8_passNow 17 = .ok (.bipush 7, 2) := by decide +kernel
theorem dX8_passNow_19 : decode cX8_passNow 19 = .ok (.aload_n 0, 1) := by decide +kernel
theorem dX8_passNow_20 : decode cX8_passNow 20 = .ok (.getfield 31, 3) := by decide +kernel
theorem dX8_passNow_23 : decode cX8_passNow 23 = .ok (.bipush 7, 2) := by decide +kernel
theorem dX8_passNow_25 : decode cX8_passNow 25 = .ok (.iaload, 1) := by decide +kernel
theorem dX8_passNow_26 : decode cX8_passNow 26 = .ok (.iload_n 2, 1) := by decide +kernel
theorem dX8_passNow_27 : decode cX8_passNow 27 = .ok (.iadd, 1) := by decide +kernel
theorem dX8_passNow_28 : decode cX8_passNow 28 = .ok (.invokestatic 248, 3) := by decide +kernel
theorem dX8_passNow_31 : decode cX8_passNow 31 = .ok (.iastore, 1) := by decide +kernel
theorem dX8_passNow_32 : decode cX8_passNow 32 = .ok (.aload_n 0, 1) := by decide +kernel
theorem dX8_passNow_33 : decode cX8_passNow 33 = .ok (.getfield 31, 3) := by decide +kernel
theorem dX8_passNow_36 : decode cX8_passNow 36 = .ok (.iconst 0, 1) := by decide +kernel
theorem dX8_passNow_37 : decode cX8_passNow 37 = .ok (.dup2, 1) := by decide +kernel
theorem dX8_passNow_38 : decode cX8_passNow 38 = .ok (.iaload, 1) := by decide +kernel
theorem dX8_passNow_39 : decode cX8_passNow 39 = .ok (.aload_n 0, 1) := by decide +kernel
theorem dX8_passNow_40 : decode cX8_passNow 40 = .ok (.getfield 31, 3) := by decide +kernel
theorem dX8_passNow_43 : decode cX8_passNow 43 = .ok (.iconst 2, 1) := by decide +kernel
theorem dX8_passNow_44 : decode cX8_passNow 44 = .ok (.iload_n 1, 1) := by decide +kernel
theorem dX8_passNow_45 : decode cX8_passNow 45 = .ok (.iadd, 1) := by decide +kernel
theorem dX8_passNow_46 : decode cX8_passNow 46 = .ok (.iaload, 1) := by decide +kernel
theorem dX8_passNow_47 : decode cX8_passNow 47 = .ok (.ior, 1) := by decide +kernel
theorem dX8_passNow_48 : decode cX8_passNow 48 = .ok (.iastore, 1) := by decide +kernel
theorem dX8_passNow_49 : decode cX8_passNow 49 = .ok (.aload_n 0, 1) := by decide +kernel
theorem dX8_passNow_50 : decode cX8_passNow 50 = .ok (.getfield 31, 3) := by decide +kernel
theorem dX8_passNow_53 : decode cX8_passNow 53 = .ok (.iconst 1, 1) := by decide +kernel
theorem dX8_passNow_54 : decode cX8_passNow 54 = .ok (.dup2, 1) := by decide +kernel
theorem dX8_passNow_55 : decode cX8_passNow 55 = .ok (.iaload, 1) := by decide +kernel
theorem dX8_passNow_56 : decode cX8_passNow 56 = .ok (.iconst 1, 1) := by decide +kernel
theorem dX8_passNow_57 : decode cX8_passNow 57 = .ok (.iload_n 1, 1) := by decide +kernel
theorem dX8_passNow_58 : decode cX8_passNow 58 = .ok (.ishl, 1) := by decide +kernel
theorem dX8_passNow_59 : decode cX8_passNow 59 = .ok (.ior, 1) := by decide +kernel
theorem dX8_passNow_60 : decode cX8_passNow 60 = .ok (.iastore, 1) := by decide +kernel
theorem dX8_passNow_61 : decode cX8_passNow 61 = .ok (.iload_n 2, 1) := by decide +kernel
theorem dX8_passNow_62 : decode cX8_passNow 62 = .ok (.ireturn, 1) := by decide +kernel
theorem dX8_pass_0 : decode cX8_pass 0 = .ok (.aload_n 0, 1) := by decide +kernel
theorem dX8_pass_1 : decode cX8_pass 1 = .ok (.iload_n 1, 1) := by decide +kernel
theorem dX8_pass_2 : decode cX8_pass 2 = .ok (.invokevirtual 242, 3) := by decide +kernel
theorem dX8_pass_5 : decode cX8_pass 5 = .ok (.ifCond .ne 6, 3) := by decide +kernel
theorem dX8_pass_8 : decode cX8_pass 8 = .ok (.ldc 241, 2) := by decide +kernel
theorem dX8_pass_10 : decode cX8_pass 10 = .ok (.ireturn, 1) := by decide +kernel
theorem dX8_pass_11 : decode cX8_pass 11 = .ok (.aload_n 0, 1) := by decide +kernel
theorem dX8_pass_12 : decode cX8_pass 12 = .ok (.iload_n 1, 1) := by decide +kernel
theorem dX8_pass_13 : decode cX8_pass 13 = .ok (.invokevirtual 229, 3) := by decide +kernel
theorem dX8_pass_16 : decode cX8_pass 16 = .ok (.ifCond .ne 11, 3) := by decide +kernel
theorem dX8_pass_19 : decode cX8_pass 19 = .ok (.aload_n 0, 1) := by decide +kernel
theorem dX8_pass_20 : decode cX8_pass 20 = .ok (.iload_n 1, 1) := by decide +kernel
theorem dX8_pass_21 : decode cX8_pass 21 = .ok (.invokevirtual 232, 3) := by decide +kernel
theorem dX8_pass_24 : decode cX8_pass 24 = .ok (.ifCond .eq 6, 3) := by decide +kernel
theorem dX8_pass_27 : decode cX8_pass 27 = .ok (.ldc 251, 2) := by decide +kernel
theorem dX8_pass_29 : decode cX8_pass 29 = .ok (.ireturn, 1) := by decide +kernel
theorem dX8_pass_30 : decode cX8_pass 30 = .ok (.aload_n 0, 1) := by decide +kernel
theorem dX8_pass_31 : decode cX8_pass 31 = .ok (.invokevirtual 252, 3) := by decide +kernel
theorem dX8_pass_34 : decode cX8_pass 34 = .ok (.aload_n 0, 1) := by decide +kernel
theorem dX8_pass_35 : decode cX8_pass 35 = .ok (.iload_n 1, 1) := by decide +kernel
theorem dX8_pass_36 : decode cX8_pass 36 = .ok (.invokevirtual 255, 3) := by decide +kernel
theorem dX8_pass_39 : decode cX8_pass 39 = .ok (.ireturn, 1) := by decide +kernel
theorem dX8_roundNow_0 : decode cX8_roundNow 0 = .ok (.iload_n 2, 1) := by decide +kernel
theorem dX8_roundNow_1 : decode cX8_roundNow 1 = .ok (.ifCond .eq 31, 3) := by decide +kernel
theorem dX8_roundNow_4 : decode cX8_roundNow 4 = .ok (.aload_n 0, 1) := by decide +kernel
theorem dX8_roundNow_5 : decode cX8_roundNow 5 = .ok (.getfield 31, 3) := by decide +kernel
theorem dX8_roundNow_8 : decode cX8_roundNow 8 = .ok (.iconst 2, 1) := by decide +kernel
theorem dX8_roundNow_9 : decode cX8_roundNow 9 = .ok (.iload_n 1, 1) := by decide +kernel
theorem dX8_roundNow_10 : decode cX8_roundNow 10 = .ok (.iadd, 1) := by decide +kernel
theorem dX8_roundNow_11 : decode cX8_roundNow 11 = .ok (.iaload, 1) := by decide +kernel
theorem dX8_roundNow_12 : decode cX8_roundNow 12 = .ok (.aload_n 0, 1) := by decide +kernel
theorem dX8_roundNow_13 : decode cX8_roundNow 13 = .ok (.aload_n 0, 1) := by decide +kernel
theorem dX8_roundNow_14 : decode cX8_roundNow 14 = .ok (.getfield 31, 3) := by decide +kernel
theorem dX8_roundNow_17 : decode cX8_roundNow 17 = .ok (.iconst 0, 1) := by decide +kernel
theorem dX8_roundNow_18 : decode cX8_roundNow 18 = .ok (.iaload, 1) := by decide +kernel
theorem dX8_roundNow_19 : decode cX8_roundNow 19 = .ok (.invokevirtual 220, 3) := by decide +kernel
theorem dX8_roundNow_22 : decode cX8_roundNow 22 = .ok (.iconst (-1), 1) := by decide +kernel
theorem dX8_roundNow_23 : decode cX8_roundNow 23 = .ok (.ixor, 1) := by decide +kernel
theorem dX8_roundNow_24 : decode cX8_roundNow 24 = .ok (.iand, 1) := by decide +kernel
theorem dX8_roundNow_25 : decode cX8_roundNow 25 = .ok (.ifCond .eq 7, 3) := by decide +kernel
theorem dX8_roundNow_28 : decode cX8_roundNow 28 = .ok (.iconst 1, 1) := by decide +kernel
theorem dX8_roundNow_29 : decode cX8_roundNow 29 = .ok (.goto 4, 3) := by decide +kernel
theorem dX8_roundNow_32 : decode cX8_roundNow 32 = .ok (.iconst 0, 1) := by decide +kernel
theorem dX8_roundNow_33 : decode cX8_roundNow 33 = .ok (.istore_n 3, 1) := by decide +kernel
theorem dX8_roundNow_34 : decode cX8_roundNow 34 = .ok (.aload_n 0, 1) := by decide +kernel
theorem dX8_roundNow_35 : decode cX8_roundNow 35 = .ok (.getfield 31, 3) := by decide +kernel
theorem dX8_roundNow_38 : decode cX8_roundNow 38 = .ok (.iconst 0, 1) := by decide +kernel
theorem dX8_roundNow_39 : decode cX8_roundNow 39 = .ok (.dup2, 1) := by decide +kernel
theorem dX8_roundNow_40 : decode cX8_roundNow 40 = .ok (.iaload, 1) := by decide +kernel
theorem dX8_roundNow_41 : decode cX8_roundNow 41 = .ok (.iload_n 2, 1) := by decide +kernel
theorem dX8_roundNow_42 : decode cX8_roundNow 42 = .ok (.ifCond .eq 14, 3) := by decide +kernel
theorem dX8_roundNow_45 : decode cX8_roundNow 45 = .ok (.aload_n 0, 1) := by decide +kernel
theorem dX8_roundNow_46 : decode cX8_roundNow 46 = .ok (.getfield 31, 3) := by decide +kernel
theorem dX8_roundNow_49 : decode cX8_roundNow 49 = .ok (.iconst 2, 1) := by decide +kernel
theorem dX8_roundNow_50 : decode cX8_roundNow 50 = .ok (.iload_n 1, 1) := by decide +kernel
theorem dX8_roundNow_51 : decode cX8_roundNow 51 = .ok (.iadd, 1) := by decide +kernel
theorem dX8_roundNow_52 : decode cX8_roundNow 52 = .ok (.iaload, 1) := by decide +kernel
theorem dX8_roundNow_53 : decode cX8_roundNow 53 = .ok (.goto 4, 3) := by decide +kernel
theorem dX8_roundNow_56 : decode cX8_roundNow 56 = .ok (.iconst 0, 1) := by decide +kernel
theorem dX8_roundNow_57 : decode cX8_roundNow 57 = .ok (.ior, 1) := by decide +kernel
theorem dX8_roundNow_58 : decode cX8_roundNow 58 = .ok (.iastore, 1) := by decide +kernel
theorem dX8_roundNow_59 : decode cX8_roundNow 59 = .ok (.aload_n 0, 1) := by decide +kernel
theorem dX8_roundNow_60 : decode cX8_roundNow 60 = .ok (.getfield 31, 3) := by decide +kernel
theorem dX8_roundNow_63 : decode cX8_roundNow 63 = .ok (.iconst 1, 1) := by decide +kernel
theorem dX8_roundNow_64 : decode cX8_roundNow 64 = .ok (.dup2, 1) := by decide +kernel
theorem dX8_roundNow_65 : decode cX8_roundNow 65 = .ok (.iaload, 1) := by decide +kernel
theorem dX8_roundNow_66 : decode cX8_roundNow 66 = .ok (.iconst 1, 1) := by decide +kernel
theorem dX8_roundNow_67 : decode cX8_roundNow 67 = .ok (.iload_n 1, 1) := by decide +kernel
theorem dX8_roundNow_68 : decode cX8_roundNow 68 = .ok (.ishl, 1) := by decide +kernel
theorem dX8_roundNow_69 : decode cX8_roundNow 69 = .ok (.ior, 1) := by decide +kernel
theorem dX8_roundNow_70 : decode cX8_roundNow 70 = .ok (.iastore, 1) := by decide +kernel
theorem dX8_roundNow_71 : decode cX8_roundNow 71 = .ok (.iload_n 3, 1) := by decide +kernel
theorem dX8_roundNow_72 : decode cX8_roundNow 72 = .ok (.ifCond .eq 7, 3) := by decide +kernel
theorem dX8_roundNow_75 : decode cX8_roundNow 75 = .ok (.iconst 1, 1) := by decide +kernel
theorem dX8_roundNow_76 : decode cX8_roundNow 76 = .ok (.goto 4, 3) := by decide +kernel
theorem dX8_roundNow_79 : decode cX8_roundNow 79 = .ok (.iconst 0, 1) := by decide +kernel
theorem dX8_roundNow_80 : decode cX8_roundNow 80 = .ok (.ireturn, 1) := by decide +kernel
theorem dX8_goRound_0 : decode cX8_goRound 0 = .ok (.aload_n 0, 1) := by decide +kernel
theorem dX8_goRound_1 : decode cX8_goRound 1 = .ok (.iload_n 1, 1) := by decide +kernel
theorem dX8_goRound_2 : decode cX8_goRound 2 = .ok (.invokevirtual 242, 3) := by decide +kernel
theorem dX8_goRound_5 : decode cX8_goRound 5 = .ok (.ifCond .ne 6, 3) := by decide +kernel
theorem dX8_goRound_8 : decode cX8_goRound 8 = .ok (.ldc 241, 2) := by decide +kernel
theorem dX8_goRound_10 : decode cX8_goRound 10 = .ok (.ireturn, 1) := by decide +kernel
theorem dX8_goRound_11 : decode cX8_goRound 11 = .ok (.aload_n 0, 1) := by decide +kernel
theorem dX8_goRound_12 : decode cX8_goRound 12 = .ok (.iload_n 1, 1) := by decide +kernel
theorem dX8_goRound_13 : decode cX8_goRound 13 = .ok (.invokevirtual 229, 3) := by decide +kernel
theorem dX8_goRound_16 : decode cX8_goRound 16 = .ok (.ifCond .eq 6, 3) := by decide +kernel
theorem dX8_goRound_19 : decode cX8_goRound 19 = .ok (.ldc 251, 2) := by decide +kernel
theorem dX8_goRound_21 : decode cX8_goRound 21 = .ok (.ireturn, 1) := by decide +kernel
theorem dX8_goRound_22 : decode cX8_goRound 22 = .ok (.aload_n 0, 1) := by decide +kernel
theorem dX8_goRound_23 : decode cX8_goRound 23 = .ok (.invokevirtual 252, 3) := by decide +kernel
theorem dX8_goRound_26 : decode cX8_goRound 26 = .ok (.aload_n 0, 1) := by decide +kernel
theorem dX8_goRound_27 : decode cX8_goRound 27 = .ok (.iload_n 1, 1) := by decide +kernel
theorem dX8_goRound_28 : decode cX8_goRound 28 = .ok (.iload_n 2, 1) := by decide +kernel
theorem dX8_goRound_29 : decode cX8_goRound 29 = .ok (.invokevirtual 258, 3) := by decide +kernel
theorem dX8_goRound_32 : decode cX8_goRound 32 = .ok (.ireturn, 1) := by decide +kernel
theorem dX8_quickest_0 : decode cX8_quickest 0 = .ok (.ldc_w 262, 3) := by decide +kernel
theorem dX8_quickest_3 : decode cX8_quickest 3 = .ok (.istore_n 3, 1) := by decide +kernel
theorem dX8_quickest_4 : decode cX8_quickest 4 = .ok (.iconst 0, 1) := by decide +kernel
theorem dX8_quickest_5 : decode cX8_quickest 5 = .ok (.istore 4, 2) := by decide +kernel
theorem dX8_quickest_7 : decode cX8_quickest 7 = .ok (.iload 4, 2) := by decide +kernel
theorem dX8_quickest_9 : decode cX8_quickest 9 = .ok (.aload_n 0, 1) := by decide +kernel
theorem dX8_quickest_10 : decode cX8_quickest 10 = .ok (.getfield 202, 3) := by decide +kernel
theorem dX8_quickest_13 : decode cX8_quickest 13 = .ok (.if_icmp .ge 66, 3) := by decide +kernel
theorem dX8_quickest_16 : decode cX8_quickest 16 = .ok (.aload_n 0, 1) := by decide +kernel
theorem dX8_quickest_17 : decode cX8_quickest 17 = .ok (.getfield 22, 3) := by decide +kernel
theorem dX8_quickest_20 : decode cX8_quickest 20 = .ok (.iload 4, 2) := by decide +kernel
theorem dX8_quickest_22 : decode cX8_quickest 22 = .ok (.iaload, 1) := by decide +kernel
theorem dX8_quickest_23 : decode cX8_quickest 23 = .ok (.iload_n 1, 1) := by decide +kernel
theorem dX8_quickest_24 : decode cX8_quickest 24 = .ok (.if_icmp .ne 18, 3) := by decide +kernel
theorem dX8_quickest_27 : decode cX8_quickest 27 = .ok (.aload_n 0, 1) := by decide +kernel
theorem dX8_quickest_28 : decode cX8_quickest 28 = .ok (.getfield 25, 3) := by decide +kernel
theorem dX8_quickest_31 : decode cX8_quickest 31 = .ok (.iload 4, 2) := by decide +kernel
theorem dX8_quickest_33 : decode cX8_quickest 33 = .ok (.iaload, 1) := by decide +kernel
theorem dX8_quickest_34 : decode cX8_quickest 34 = .ok (.iload_n 2, 1) := by decide +kernel
theorem dX8_quickest_35 : decode cX8_quickest 35 = .ok (.if_icmp .ne 7, 3) := by decide +kernel
theorem dX8_quickest_38 : decode cX8_quickest 38 = .ok (.iconst 1, 1) := by decide +kernel
theorem dX8_quickest_39 : decode cX8_quickest 39 = .ok (.goto 4, 3) := by decide +kernel
theorem dX8_quickest_42 : decode cX8_quickest 42 = .ok (.iconst 0, 1) := by decide +kernel
theorem dX8_quickest_43 : decode cX8_quickest 43 = .ok (.istore 5, 2) := by decide +kernel
theorem dX8_quickest_45 : decode cX8_quickest 45 = .ok (.iload 5, 2) := by decide +kernel
theorem dX8_quickest_47 : decode cX8_quickest 47 = .ok (.ifCond .eq 24, 3) := by decide +kernel
theorem dX8_quickest_50 : decode cX8_quickest 50 = .ok (.aload_n 0, 1) := by decide +kernel
theorem dX8_quickest_51 : decode cX8_quickest 51 = .ok (.getfield 28, 3) := by decide +kernel
theorem dX8_quickest_54 : decode cX8_quickest 54 = .ok (.iload 4, 2) := by decide +kernel
theorem dX8_quickest_56 : decode cX8_quickest 56 = .ok (.iaload, 1) := by decide +kernel
theorem dX8_quickest_57 : decode cX8_quickest 57 = .ok (.iload_n 3, 1) := by decide +kernel
theorem dX8_quickest_58 : decode cX8_quickest 58 = .ok (.if_icmp .ge 13, 3) := by decide +kernel
theorem dX8_quickest_61 : decode cX8_quickest 61 = .ok (.aload_n 0, 1) := by decide +kernel
theorem dX8_quickest_62 : decode cX8_quickest 62 = .ok (.getfield 28, 3) := by decide +kernel
theorem dX8_quickest_65 : decode cX8_quickest 65 = .ok (.iload 4, 2) := by decide +kernel
theorem dX8_quickest_67 : decode cX8_quickest 67 = .ok (.iaload, 1) := by decide +kernel
theorem dX8_quickest_68 : decode cX8_quickest 68 = .ok (.goto 4, 3) := by decide +kernel
theorem dX8_quickest_71 : decode cX8_quickest 71 = .ok (.iload_n 3, 1) := by decide +kernel
theorem dX8_quickest_72 : decode cX8_quickest 72 = .ok (.istore_n 3, 1) := by decide +kernel
theorem dX8_quickest_73 : decode cX8_quickest 73 = .ok (.iinc 4 1, 3) := by decide +kernel
theorem dX8_quickest_76 : decode cX8_quickest 76 = .ok (.goto (-69), 3) := by decide +kernel
theorem dX8_quickest_79 : decode cX8_quickest 79 = .ok (.iload_n 3, 1) := by decide +kernel
theorem dX8_quickest_80 : decode cX8_quickest 80 = .ok (.ireturn, 1) := by decide +kernel
theorem dX8_talked_0 : decode cX8_talked 0 = .ok (.iload_n 0, 1) := by decide +kernel
theorem dX8_talked_1 : decode cX8_talked 1 = .ok (.iconst 1, 1) := by decide +kernel
theorem dX8_talked_2 : decode cX8_talked 2 = .ok (.iload_n 1, 1) := by decide +kernel
theorem dX8_talked_3 : decode cX8_talked 3 = .ok (.ishl, 1) := by decide +kernel
theorem dX8_talked_4 : decode cX8_talked 4 = .ok (.iconst (-1), 1) := by decide +kernel
theorem dX8_talked_5 : decode cX8_talked 5 = .ok (.ixor, 1) := by decide +kernel
theorem dX8_talked_6 : decode cX8_talked 6 = .ok (.iand, 1) := by decide +kernel
theorem dX8_talked_7 : decode cX8_talked 7 = .ok (.iconst 1, 1) := by decide +kernel
theorem dX8_talked_8 : decode cX8_talked 8 = .ok (.iload_n 2, 1) := by decide +kernel
theorem dX8_talked_9 : decode cX8_talked 9 = .ok (.ishl, 1) := by decide +kernel
theorem dX8_talked_10 : decode cX8_talked 10 = .ok (.ior, 1) := by decide +kernel
theorem dX8_talked_11 : decode cX8_talked 11 = .ok (.ireturn, 1) := by decide +kernel
theorem dX8_talk_0 : decode cX8_talk 0 = .ok (.aload_n 0, 1) := by decide +kernel
theorem dX8_talk_1 : decode cX8_talk 1 = .ok (.iload_n 1, 1) := by decide +kernel
theorem dX8_talk_2 : decode cX8_talk 2 = .ok (.invokevirtual 242, 3) := by decide +kernel
theorem dX8_talk_5 : decode cX8_talk 5 = .ok (.ifCond .eq 19, 3) := by decide +kernel
theorem dX8_talk_8 : decode cX8_talk 8 = .ok (.aload_n 0, 1) := by decide +kernel
theorem dX8_talk_9 : decode cX8_talk 9 = .ok (.iload_n 2, 1) := by decide +kernel
theorem dX8_talk_10 : decode cX8_talk 10 = .ok (.invokevirtual 238, 3) := by decide +kernel
theorem dX8_talk_13 : decode cX8_talk 13 = .ok (.ifCond .eq 11, 3) := by decide +kernel
theorem dX8_talk_16 : decode cX8_talk 16 = .ok (.aload_n 0, 1) := by decide +kernel
theorem dX8_talk_17 : decode cX8_talk 17 = .ok (.iload_n 3, 1) := by decide +kernel
theorem dX8_talk_18 : decode cX8_talk 18 = .ok (.invokevirtual 238, 3) := by decide +kernel
theorem dX8_talk_21 : decode cX8_talk 21 = .ok (.ifCond .ne 6, 3) := by decide +kernel
theorem dX8_talk_24 : decode cX8_talk 24 = .ok (.ldc 241, 2) := by decide +kernel
theorem dX8_talk_26 : decode cX8_talk 26 = .ok (.ireturn, 1) := by decide +kernel
theorem dX8_talk_27 : decode cX8_talk 27 = .ok (.aload_n 0, 1) := by decide +kernel
theorem dX8_talk_28 : decode cX8_talk 28 = .ok (.iload_n 2, 1) := by decide +kernel
theorem dX8_talk_29 : decode cX8_talk 29 = .ok (.iload_n 3, 1) := by decide +kernel
theorem dX8_talk_30 : decode cX8_talk 30 = .ok (.invokevirtual 263, 3) := by decide +kernel
theorem dX8_talk_33 : decode cX8_talk 33 = .ok (.istore 4, 2) := by decide +kernel
theorem dX8_talk_35 : decode cX8_talk 35 = .ok (.aload_n 0, 1) := by decide +kernel
theorem dX8_talk_36 : decode cX8_talk 36 = .ok (.iload_n 1, 1) := by decide +kernel
theorem dX8_talk_37 : decode cX8_talk 37 = .ok (.invokevirtual 229, 3) := by decide +kernel
theorem dX8_talk_40 : decode cX8_talk 40 = .ok (.ifCond .ne 26, 3) := by decide +kernel
theorem dX8_talk_43 : decode cX8_talk 43 = .ok (.aload_n 0, 1) := by decide +kernel
theorem dX8_talk_44 : decode cX8_talk 44 = .ok (.getfield 31, 3) := by decide +kernel
theorem dX8_talk_47 : decode cX8_talk 47 = .ok (.iconst 2, 1) := by decide +kernel
theorem dX8_talk_48 : decode cX8_talk 48 = .ok (.iload_n 1, 1) := by decide +kernel
theorem dX8_talk_49 : decode cX8_talk 49 = .ok (.iadd, 1) := by decide +kernel
theorem dX8_talk_50 : decode cX8_talk 50 = .ok (.iaload, 1) := by decide +kernel
theorem dX8_talk_51 : decode cX8_talk 51 = .ok (.iload_n 2, 1) := by decide +kernel
theorem dX8_talk_52 : decode cX8_talk 52 = .ok (.invokestatic 160, 3) := by decide +kernel
theorem dX8_talk_55 : decode cX8_talk 55 = .ok (.ifCond .eq 11, 3) := by decide +kernel
theorem dX8_talk_58 : decode cX8_talk 58 = .ok (.iload 4, 2) := by decide +kernel
theorem dX8_talk_60 : decode cX8_talk 60 = .ok (.ldc_w 262, 3) := by decide +kernel
theorem dX8_talk_63 : decode cX8_talk 63 = .ok (.if_icmp .ne 6, 3) := by decide +kernel
theorem dX8_talk_66 : decode cX8_talk 66 = .ok (.ldc 251, 2) := by decide +kernel
theorem dX8_talk_68 : decode cX8_talk 68 = .ok (.ireturn, 1) := by decide +kernel
theorem dX8_talk_69 : decode cX8_talk 69 = .ok (.aload_n 0, 1) := by decide +kernel
theorem dX8_talk_70 : decode cX8_talk 70 = .ok (.invokevirtual 252, 3) := by decide +kernel
theorem dX8_talk_73 : decode cX8_talk 73 = .ok (.aload_n 0, 1) := by decide +kernel
theorem dX8_talk_74 : decode cX8_talk 74 = .ok (.getfield 31, 3) := by decide +kernel
theorem dX8_talk_77 : decode cX8_talk 77 = .ok (.iconst 2, 1) := by decide +kernel
theorem dX8_talk_78 : decode cX8_talk 78 = .ok (.iload_n 1, 1) := by decide +kernel
theorem dX8_talk_79 : decode cX8_talk 79 = .ok (.iadd, 1) := by decide +kernel
theorem dX8_talk_80 : decode cX8_talk 80 = .ok (.aload_n 0, 1) := by decide +kernel
theorem dX8_talk_81 : decode cX8_talk 81 = .ok (.getfield 31, 3) := by decide +kernel
theorem dX8_talk_84 : decode cX8_talk 84 = .ok (.iconst 2, 1) := by decide +kernel
theorem dX8_talk_85 : decode cX8_talk 85 = .ok (.iload_n 1, 1) := by decide +kernel
theorem dX8_talk_86 : decode cX8_talk 86 = .ok (.iadd, 1) := by decide +kernel
theorem dX8_talk_87 : decode cX8_talk 87 = .ok (.iaload, 1) := by decide +kernel
theorem dX8_talk_88 : decode cX8_talk 88 = .ok (.iload_n 2, 1) := by decide +kernel
theorem dX8_talk_89 : decode cX8_talk 89 = .ok (.iload_n 3, 1) := by decide +kernel
theorem dX8_talk_90 : decode cX8_talk 90 = .ok (.invokestatic 266, 3) := by decide +kernel
theorem dX8_talk_93 : decode cX8_talk 93 = .ok (.iastore, 1) := by decide +kernel
theorem dX8_talk_94 : decode cX8_talk 94 = .ok (.aload_n 0, 1) := by decide +kernel
theorem dX8_talk_95 : decode cX8_talk 95 = .ok (.getfield 31, 3) := by decide +kernel
theorem dX8_talk_98 : decode cX8_talk 98 = .ok (.bipush 8, 2) := by decide +kernel
theorem dX8_talk_100 : decode cX8_talk 100 = .ok (.aload_n 0, 1) := by decide +kernel
theorem dX8_talk_101 : decode cX8_talk 101 = .ok (.getfield 31, 3) := by decide +kernel
theorem dX8_talk_104 : decode cX8_talk 104 = .ok (.bipush 8, 2) := by decide +kernel
theorem dX8_talk_106 : decode cX8_talk 106 = .ok (.iaload, 1) := by decide +kernel
theorem dX8_talk_107 : decode cX8_talk 107 = .ok (.iload 4, 2) := by decide +kernel
theorem dX8_talk_109 : decode cX8_talk 109 = .ok (.iadd, 1) := by decide +kernel
theorem dX8_talk_110 : decode cX8_talk 110 = .ok (.invokestatic 248, 3) := by decide +kernel
theorem dX8_talk_113 : decode cX8_talk 113 = .ok (.iastore, 1) := by decide +kernel
theorem dX8_talk_114 : decode cX8_talk 114 = .ok (.iload 4, 2) := by decide +kernel
theorem dX8_talk_116 : decode cX8_talk 116 = .ok (.ireturn, 1) := by decide +kernel
theorem dX8_come_0 : decode cX8_come 0 = .ok (.aload_n 0, 1) := by decide +kernel
theorem dX8_come_1 : decode cX8_come 1 = .ok (.iload_n 1, 1) := by decide +kernel
theorem dX8_come_2 : decode cX8_come 2 = .ok (.invokevirtual 242, 3) := by decide +kernel
theorem dX8_come_5 : decode cX8_come 5 = .ok (.ifCond .eq 11, 3) := by decide +kernel
theorem dX8_come_8 : decode cX8_come 8 = .ok (.aload_n 0, 1) := by decide +kernel
theorem dX8_come_9 : decode cX8_come 9 = .ok (.iload_n 2, 1) := by decide +kernel
theorem dX8_come_10 : decode cX8_come 10 = .ok (.invokevirtual 270, 3) := by decide +kernel
theorem dX8_come_13 : decode cX8_come 13 = .ok (.ifCond .ne 6, 3) := by decide +kernel
theorem dX8_come_16 : decode cX8_come 16 = .ok (.ldc 241, 2) := by decide +kernel
theorem dX8_come_18 : decode cX8_come 18 = .ok (.ireturn, 1) := by decide +kernel
theorem dX8_come_19 : decode cX8_come 19 = .ok (.aload_n 0, 1) := by decide +kernel
theorem dX8_come_20 : decode cX8_come 20 = .ok (.iload_n 1, 1) := by decide +kernel
theorem dX8_come_21 : decode cX8_come 21 = .ok (.invokevirtual 229, 3) := by decide +kernel
theorem dX8_come_24 : decode cX8_come 24 = .ok (.ifCond .ne 6, 3) := by decide +kernel
theorem dX8_come_27 : decode cX8_come 27 = .ok (.ldc 251, 2) := by decide +kernel
theorem dX8_come_29 : decode cX8_come 29 = .ok (.ireturn, 1) := by decide +kernel
theorem dX8_come_30 : decode cX8_come 30 = .ok (.aload_n 0, 1) := by decide +kernel
theorem dX8_come_31 : decode cX8_come 31 = .ok (.invokevirtual 252, 3) := by decide +kernel
theorem dX8_come_34 : decode cX8_come 34 = .ok (.aload_n 0, 1) := by decide +kernel
theorem dX8_come_35 : decode cX8_come 35 = .ok (.getfield 31, 3) := by decide +kernel
theorem dX8_come_38 : decode cX8_come 38 = .ok (.iconst 2, 1) := by decide +kernel
theorem dX8_come_39 : decode cX8_come 39 = .ok (.iload_n 1, 1) := by decide +kernel
theorem dX8_come_40 : decode cX8_come 40 = .ok (.iadd, 1) := by decide +kernel
theorem dX8_come_41 : decode cX8_come 41 = .ok (.iload_n 2, 1) := by decide +kernel
theorem dX8_come_42 : decode cX8_come 42 = .ok (.iastore, 1) := by decide +kernel
theorem dX8_come_43 : decode cX8_come 43 = .ok (.aload_n 0, 1) := by decide +kernel
theorem dX8_come_44 : decode cX8_come 44 = .ok (.getfield 31, 3) := by decide +kernel
theorem dX8_come_47 : decode cX8_come 47 = .ok (.iconst 1, 1) := by decide +kernel
theorem dX8_come_48 : decode cX8_come 48 = .ok (.dup2, 1) := by decide +kernel
theorem dX8_come_49 : decode cX8_come 49 = .ok (.iaload, 1) := by decide +kernel
theorem dX8_come_50 : decode cX8_come 50 = .ok (.iconst 1, 1) := by decide +kernel
theorem dX8_come_51 : decode cX8_come 51 = .ok (.iload_n 1, 1) := by decide +kernel
theorem dX8_come_52 : decode cX8_come 52 = .ok (.ishl, 1) := by decide +kernel
theorem dX8_come_53 : decode cX8_come 53 = .ok (.iconst (-1), 1) := by decide +kernel
theorem dX8_come_54 : decode cX8_come 54 = .ok (.ixor, 1) := by decide +kernel
theorem dX8_come_55 : decode cX8_come 55 = .ok (.iand, 1) := by decide +kernel
theorem dX8_come_56 : decode cX8_come 56 = .ok (.iastore, 1) := by decide +kernel
theorem dX8_come_57 : decode cX8_come 57 = .ok (.aload_n 0, 1) := by decide +kernel
theorem dX8_come_58 : decode cX8_come 58 = .ok (.iload_n 2, 1) := by decide +kernel
theorem dX8_come_59 : decode cX8_come 59 = .ok (.invokevirtual 245, 3) := by decide +kernel
theorem dX8_come_62 : decode cX8_come 62 = .ok (.ireturn, 1) := by decide +kernel
theorem dX8_register_0 : decode cX8_register 0 = .ok (.aload_n 0, 1) := by decide +kernel
theorem dX8_register_1 : decode cX8_register 1 = .ok (.iload_n 1, 1) := by decide +kernel
theorem dX8_register_2 : decode cX8_register 2 = .ok (.invokevirtual 238, 3) := by decide +kernel
theorem dX8_register_5 : decode cX8_register 5 = .ok (.ifCond .ne 6, 3) := by decide +kernel
theorem dX8_register_8 : decode cX8_register 8 = .ok (.ldc 241, 2) := by decide +kernel
theorem dX8_register_10 : decode cX8_register 10 = .ok (.ireturn, 1) := by decide +kernel
theorem dX8_register_11 : decode cX8_register 11 = .ok (.aload_n 0, 1) := by decide +kernel
theorem dX8_register_12 : decode cX8_register 12 = .ok (.invokevirtual 252, 3) := by decide +kernel
theorem dX8_register_15 : decode cX8_register 15 = .ok (.aload_n 0, 1) := by decide +kernel
theorem dX8_register_16 : decode cX8_register 16 = .ok (.getfield 31, 3) := by decide +kernel
theorem dX8_register_19 : decode cX8_register 19 = .ok (.iconst 0, 1) := by decide +kernel
theorem dX8_register_20 : decode cX8_register 20 = .ok (.iaload, 1) := by decide +kernel
theorem dX8_register_21 : decode cX8_register 21 = .ok (.iload_n 1, 1) := by decide +kernel
theorem dX8_register_22 : decode cX8_register 22 = .ok (.ishr, 1) := by decide +kernel
theorem dX8_register_23 : decode cX8_register 23 = .ok (.iconst 1, 1) := by decide +kernel
theorem dX8_register_24 : decode cX8_register 24 = .ok (.iand, 1) := by decide +kernel
theorem dX8_register_25 : decode cX8_register 25 = .ok (.istore_n 3, 1) := by decide +kernel
theorem dX8_register_26 : decode cX8_register 26 = .ok (.aload_n 0, 1) := by decide +kernel
theorem dX8_register_27 : decode cX8_register 27 = .ok (.getfield 31, 3) := by decide +kernel
theorem dX8_register_30 : decode cX8_register 30 = .ok (.iconst 0, 1) := by decide +kernel
theorem dX8_register_31 : decode cX8_register 31 = .ok (.iload_n 2, 1) := by decide +kernel
theorem dX8_register_32 : decode cX8_register 32 = .ok (.ifCond .eq 16, 3) := by decide +kernel
theorem dX8_register_35 : decode cX8_register 35 = .ok (.aload_n 0, 1) := by decide +kernel
theorem dX8_register_36 : decode cX8_register 36 = .ok (.getfield 31, 3) := by decide +kernel
theorem dX8_register_39 : decode cX8_register 39 = .ok (.iconst 0, 1) := by decide +kernel
theorem dX8_register_40 : decode cX8_register 40 = .ok (.iaload, 1) := by decide +kernel
theorem dX8_register_41 : decode cX8_register 41 = .ok (.iconst 1, 1) := by decide +kernel
theorem dX8_register_42 : decode cX8_register 42 = .ok (.iload_n 1, 1) := by decide +kernel
theorem dX8_register_43 : decode cX8_register 43 = .ok (.ishl, 1) := by decide +kernel
theorem dX8_register_44 : decode cX8_register 44 = .ok (.ior, 1) := by decide +kernel
theorem dX8_register_45 : decode cX8_register 45 = .ok (.goto 15, 3) := by decide +kernel
theorem dX8_register_48 : decode cX8_register 48 = .ok (.aload_n 0, 1) := by decide +kernel
theorem dX8_register_49 : decode cX8_register 49 = .ok (.getfield 31, 3) := by decide +kernel
theorem dX8_register_52 : decode cX8_register 52 = .ok (.iconst 0, 1) := by decide +kernel
theorem dX8_register_53 : decode cX8_register 53 = .ok (.iaload, 1) := by decide +kernel
theorem dX8_register_54 : decode cX8_register 54 = .ok (.iconst 1, 1) := by decide +kernel
theorem dX8_register_55 : decode cX8_register 55 = .ok (.iload_n 1, 1) := by decide +kernel
theorem dX8_register_56 : decode cX8_register 56 = .ok (.ishl, 1) := by decide +kernel
theorem dX8_register_57 : decode cX8_register 57 = .ok (.iconst (-1), 1) := by decide +kernel
theorem dX8_register_58 : decode cX8_register 58 = .ok (.ixor, 1) := by decide +kernel
theorem dX8_register_59 : decode cX8_register 59 = .ok (.iand, 1) := by decide +kernel
theorem dX8_register_60 : decode cX8_register 60 = .ok (.iastore, 1) := by decide +kernel
theorem dX8_register_61 : decode cX8_register 61 = .ok (.iload_n 3, 1) := by decide +kernel
theorem dX8_register_62 : decode cX8_register 62 = .ok (.ireturn, 1) := by decide +kernel
theorem dX8_draw_0 : decode cX8_draw 0 = .ok (.aload_n 0, 1) := by decide +kernel
theorem dX8_draw_1 : decode cX8_draw 1 = .ok (.aload_n 0, 1) := by decide +kernel
theorem dX8_draw_2 : decode cX8_draw 2 = .ok (.getfield 273, 3) := by decide +kernel
theorem dX8_draw_5 : decode cX8_draw 5 = .ok (.i2l, 1) := by decide +kernel
theorem dX8_draw_6 : decode cX8_draw 6 = .ok (.ldc2_w 276, 3) := by decide +kernel
theorem dX8_draw_9 : decode cX8_draw 9 = .ok (.lmul, 1) := by decide +kernel
theorem dX8_draw_10 : decode cX8_draw 10 = .ok (.ldc2_w 278, 3) := by decide +kernel
theorem dX8_draw_13 : decode cX8_draw 13 = .ok (.ladd, 1) := by decide +kernel
theorem dX8_draw_14 : decode cX8_draw 14 = .ok (.ldc2_w 280, 3) := by decide +kernel
theorem dX8_draw_17 : decode cX8_draw 17 = .ok (.lrem, 1) := by decide +kernel
theorem dX8_draw_18 : decode cX8_draw 18 = .ok (.l2i, 1) := by decide +kernel
theorem dX8_draw_19 : decode cX8_draw 19 = .ok (.putfield 273, 3) := by decide +kernel
theorem dX8_draw_22 : decode cX8_draw 22 = .ok (.aload_n 0, 1) := by decide +kernel
theorem dX8_draw_23 : decode cX8_draw 23 = .ok (.getfield 273, 3) := by decide +kernel
theorem dX8_draw_26 : decode cX8_draw 26 = .ok (.ldc_w 282, 3) := by decide +kernel
theorem dX8_draw_29 : decode cX8_draw 29 = .ok (.idiv, 1) := by decide +kernel
theorem dX8_draw_30 : decode cX8_draw 30 = .ok (.iload_n 1, 1) := by decide +kernel
theorem dX8_draw_31 : decode cX8_draw 31 = .ok (.irem, 1) := by decide +kernel
theorem dX8_draw_32 : decode cX8_draw 32 = .ok (.ireturn, 1) := by decide +kernel
theorem dX8_dayByDraws_0 : decode cX8_dayByDraws 0 = .ok (.aload_n 0, 1) := by decide +kernel
theorem dX8_dayByDraws_1 : decode cX8_dayByDraws 1 = .ok (.aload_n 0, 1) := by decide +kernel
theorem dX8_dayByDraws_2 : decode cX8_dayByDraws 2 = .ok (.getfield 110, 3) := by decide +kernel
theorem dX8_dayByDraws_5 : decode cX8_dayByDraws 5 = .ok (.invokevirtual 283, 3) := by decide +kernel
theorem dX8_dayByDraws_8 : decode cX8_dayByDraws 8 = .ok (.istore_n 1, 1) := by decide +kernel
theorem dX8_dayByDraws_9 : decode cX8_dayByDraws 9 = .ok (.aload_n 0, 1) := by decide +kernel
theorem dX8_dayByDraws_10 : decode cX8_dayByDraws 10 = .ok (.getfield 31, 3) := by decide +kernel
theorem dX8_dayByDraws_13 : decode cX8_dayByDraws 13 = .ok (.iconst 2, 1) := by decide +kernel
theorem dX8_dayByDraws_14 : decode cX8_dayByDraws 14 = .ok (.iload_n 1, 1) := by decide +kernel
theorem dX8_dayByDraws_15 : decode cX8_dayByDraws 15 = .ok (.iadd, 1) := by decide +kernel
theorem dX8_dayByDraws_16 : decode cX8_dayByDraws 16 = .ok (.aload_n 0, 1) := by decide +kernel
theorem dX8_dayByDraws_17 : decode cX8_dayByDraws 17 = .ok (.iconst 1, 1) := by decide +kernel
theorem dX8_dayByDraws_18 : decode cX8_dayByDraws 18 = .ok (.aload_n 0, 1) := by decide +kernel
theorem dX8_dayByDraws_19 : decode cX8_dayByDraws 19 = .ok (.getfield 103, 3) := by decide +kernel
theorem dX8_dayByDraws_22 : decode cX8_dayByDraws 22 = .ok (.ishl, 1) := by decide +kernel
theorem dX8_dayByDraws_23 : decode cX8_dayByDraws 23 = .ok (.invokevirtual 283, 3) := by decide +kernel
theorem dX8_dayByDraws_26 : decode cX8_dayByDraws 26 = .ok (.iastore, 1) := by decide +kernel
theorem dX8_dayByDraws_27 : decode cX8_dayByDraws 27 = .ok (.aload_n 0, 1) := by decide +kernel
theorem dX8_dayByDraws_28 : decode cX8_dayByDraws 28 = .ok (.iload_n 1, 1) := by decide +kernel
theorem dX8_dayByDraws_29 : decode cX8_dayByDraws 29 = .ok (.invokevirtual 232, 3) := by decide +kernel
theorem dX8_dayByDraws_32 : decode cX8_dayByDraws 32 = .ok (.ifCond .eq 29, 3) := by decide +kernel
theorem dX8_dayByDraws_35 : decode cX8_dayByDraws 35 = .ok (.aload_n 0, 1) := by decide +kernel
theorem dX8_dayByDraws_36 : decode cX8_dayByDraws 36 = .ok (.iload_n 1, 1) := by decide +kernel
theorem dX8_dayByDraws_37 : decode cX8_dayByDraws 37 = .ok (.aload_n 0, 1) := by decide +kernel
theorem dX8_dayByDraws_38 : decode cX8_dayByDraws 38 = .ok (.bipush 100, 2) := by decide +kernel
theorem dX8_dayByDraws_40 : decode cX8_dayByDraws 40 = .ok (.invokevirtual 283, 3) := by decide +kernel
theorem dX8_dayByDraws_43 : decode cX8_dayByDraws 43 = .ok (.aload_n 0, 1) := by decide +kernel
theorem dX8_dayByDraws_44 : decode cX8_dayByDraws 44 = .ok (.getfield 196, 3) := by decide +kernel
theorem dX8_dayByDraws_47 : decode cX8_dayByDraws 47 = .ok (.if_icmp .lt 7, 3) := by decide +kernel
theorem dX8_dayByDraws_50 : decode cX8_dayByDraws 50 = .ok (.iconst 1, 1) := by decide +kernel
theorem dX8_dayByDraws_51 : decode cX8_dayByDraws 51 = .ok (.goto 4, 3) := by decide +kernel
theorem dX8_dayByDraws_54 : decode cX8_dayByDraws 54 = .ok (.iconst 0, 1) := by decide +kernel
theorem dX8_dayByDraws_55 : decode cX8_dayByDraws 55 = .ok (.invokevirtual 258, 3) := by decide +kernel
theorem dX8_dayByDraws_58 : decode cX8_dayByDraws 58 = .ok (.goto 8, 3) := by decide +kernel
theorem dX8_dayByDraws_61 : decode cX8_dayByDraws 61 = .ok (.aload_n 0, 1) := by decide +kernel
theorem dX8_dayByDraws_62 : decode cX8_dayByDraws 62 = .ok (.iload_n 1, 1) := by decide +kernel
theorem dX8_dayByDraws_63 : decode cX8_dayByDraws 63 = .ok (.invokevirtual 255, 3) := by decide +kernel
theorem dX8_dayByDraws_66 : decode cX8_dayByDraws 66 = .ok (.istore_n 2, 1) := by decide +kernel
theorem dX8_dayByDraws_67 : decode cX8_dayByDraws 67 = .ok (.aload_n 0, 1) := by decide +kernel
theorem dX8_dayByDraws_68 : decode cX8_dayByDraws 68 = .ok (.getfield 31, 3) := by decide +kernel
theorem dX8_dayByDraws_71 : decode cX8_dayByDraws 71 = .ok (.iconst 1, 1) := by decide +kernel
theorem dX8_dayByDraws_72 : decode cX8_dayByDraws 72 = .ok (.dup2, 1) := by decide +kernel
theorem dX8_dayByDraws_73 : decode cX8_dayByDraws 73 = .ok (.iaload, 1) := by decide +kernel
theorem dX8_dayByDraws_74 : decode cX8_dayByDraws 74 = .ok (.iload_n 2, 1) := by decide +kernel
theorem dX8_dayByDraws_75 : decode cX8_dayByDraws 75 = .ok (.ifCond .lt 9, 3) := by decide +kernel
theorem dX8_dayByDraws_78 : decode cX8_dayByDraws 78 = .ok (.iconst 1, 1) := by decide +kernel
theorem dX8_dayByDraws_79 : decode cX8_dayByDraws 79 = .ok (.iload_n 1, 1) := by decide +kernel
theorem dX8_dayByDraws_80 : decode cX8_dayByDraws 80 = .ok (.ishl, 1) := by decide +kernel
theorem dX8_dayByDraws_81 : decode cX8_dayByDraws 81 = .ok (.goto 4, 3) := by decide +kernel
theorem dX8_dayByDraws_84 : decode cX8_dayByDraws 84 = .ok (.iconst 0, 1) := by decide +kernel
theorem dX8_dayByDraws_85 : decode cX8_dayByDraws 85 = .ok (.ior, 1) := by decide +kernel
theorem dX8_dayByDraws_86 : decode cX8_dayByDraws 86 = .ok (.iastore, 1) := by decide +kernel
theorem dX8_dayByDraws_87 : decode cX8_dayByDraws 87 = .ok (.return_, 1) := by decide +kernel
theorem dX8_drift_0 : decode cX8_drift 0 = .ok (.iload_n 1, 1) := by decide +kernel
theorem dX8_drift_1 : decode cX8_drift 1 = .ok (.i2l, 1) := by decide +kernel
theorem dX8_drift_2 : decode cX8_drift 2 = .ok (.lconst 1, 1) := by decide +kernel
theorem dX8_drift_3 : decode cX8_drift 3 = .ok (.ldc2_w 286, 3) := by decide +kernel
theorem dX8_drift_6 : decode cX8_drift 6 = .ok (.invokestatic 106, 3) := by decide +kernel
theorem dX8_drift_9 : decode cX8_drift 9 = .ok (.ifCond .ne 6, 3) := by decide +kernel
theorem dX8_drift_12 : decode cX8_drift 12 = .ok (.ldc 115, 2) := by decide +kernel
theorem dX8_drift_14 : decode cX8_drift 14 = .ok (.ireturn, 1) := by decide +kernel
theorem dX8_drift_15 : decode cX8_drift 15 = .ok (.aload_n 0, 1) := by decide +kernel
theorem dX8_drift_16 : decode cX8_drift 16 = .ok (.getfield 99, 3) := by decide +kernel
theorem dX8_drift_19 : decode cX8_drift 19 = .ok (.ifCond .ne 6, 3) := by decide +kernel
theorem dX8_drift_22 : decode cX8_drift 22 = .ok (.ldc 251, 2) := by decide +kernel
theorem dX8_drift_24 : decode cX8_drift 24 = .ok (.ireturn, 1) := by decide +kernel
theorem dX8_drift_25 : decode cX8_drift 25 = .ok (.aload_n 0, 1) := by decide +kernel
theorem dX8_drift_26 : decode cX8_drift 26 = .ok (.invokevirtual 252, 3) := by decide +kernel
theorem dX8_drift_29 : decode cX8_drift 29 = .ok (.iconst 0, 1) := by decide +kernel
theorem dX8_drift_30 : decode cX8_drift 30 = .ok (.istore_n 2, 1) := by decide +kernel
theorem dX8_drift_31 : decode cX8_drift 31 = .ok (.iload_n 2, 1) := by decide +kernel
theorem dX8_drift_32 : decode cX8_drift 32 = .ok (.iload_n 1, 1) := by decide +kernel
theorem dX8_drift_33 : decode cX8_drift 33 = .ok (.if_icmp .ge 27, 3) := by decide +kernel
theorem dX8_drift_36 : decode cX8_drift 36 = .ok (.aload_n 0, 1) := by decide +kernel
theorem dX8_drift_37 : decode cX8_drift 37 = .ok (.getfield 110, 3) := by decide +kernel
theorem dX8_drift_40 : decode cX8_drift 40 = .ok (.ifCond .le 20, 3) := by decide +kernel
theorem dX8_drift_43 : decode cX8_drift 43 = .ok (.aload_n 0, 1) := by decide +kernel
theorem dX8_drift_44 : decode cX8_drift 44 = .ok (.getfield 103, 3) := by decide +kernel
theorem dX8_drift_47 : decode cX8_drift 47 = .ok (.ifCond .le 13, 3) := by decide +kernel
theorem dX8_drift_50 : decode cX8_drift 50 = .ok (.aload_n 0, 1) := by decide +kernel
theorem dX8_drift_51 : decode cX8_drift 51 = .ok (.invokevirtual 288, 3) := by decide +kernel
theorem dX8_drift_54 : decode cX8_drift 54 = .ok (.iinc 2 1, 3) := by decide +kernel
theorem dX8_drift_57 : decode cX8_drift 57 = .ok (.goto (-26), 3) := by decide +kernel
theorem dX8_drift_60 : decode cX8_drift 60 = .ok (.aload_n 0, 1) := by decide +kernel
theorem dX8_drift_61 : decode cX8_drift 61 = .ok (.getfield 31, 3) := by decide +kernel
theorem dX8_drift_64 : decode cX8_drift 64 = .ok (.bipush 7, 2) := by decide +kernel
theorem dX8_drift_66 : decode cX8_drift 66 = .ok (.iaload, 1) := by decide +kernel
theorem dX8_drift_67 : decode cX8_drift 67 = .ok (.ireturn, 1) := by decide +kernel
theorem dX8_undo_0 : decode cX8_undo 0 = .ok (.aload_n 0, 1) := by decide +kernel
theorem dX8_undo_1 : decode cX8_undo 1 = .ok (.getfield 217, 3) := by decide +kernel
theorem dX8_undo_4 : decode cX8_undo 4 = .ok (.ifCond .ne 6, 3) := by decide +kernel
theorem dX8_undo_7 : decode cX8_undo 7 = .ok (.ldc 251, 2) := by decide +kernel
theorem dX8_undo_9 : decode cX8_undo 9 = .ok (.ireturn, 1) := by decide +kernel
theorem dX8_undo_10 : decode cX8_undo 10 = .ok (.aload_n 0, 1) := by decide +kernel
theorem dX8_undo_11 : decode cX8_undo 11 = .ok (.dup, 1) := by decide +kernel
theorem dX8_undo_12 : decode cX8_undo 12 = .ok (.getfield 217, 3) := by decide +kernel
theorem dX8_undo_15 : decode cX8_undo 15 = .ok (.iconst 1, 1) := by decide +kernel
theorem dX8_undo_16 : decode cX8_undo 16 = .ok (.isub, 1) := by decide +kernel
theorem dX8_undo_17 : decode cX8_undo 17 = .ok (.putfield 217, 3) := by decide +kernel
theorem dX8_undo_20 : decode cX8_undo 20 = .ok (.iconst 0, 1) := by decide +kernel
theorem dX8_undo_21 : decode cX8_undo 21 = .ok (.istore_n 1, 1) := by decide +kernel
theorem dX8_undo_22 : decode cX8_undo 22 = .ok (.iload_n 1, 1) := by decide +kernel
theorem dX8_undo_23 : decode cX8_undo 23 = .ok (.bipush 9, 2) := by decide +kernel
theorem dX8_undo_25 : decode cX8_undo 25 = .ok (.if_icmp .ge 29, 3) := by decide +kernel
theorem dX8_undo_28 : decode cX8_undo 28 = .ok (.aload_n 0, 1) := by decide +kernel
theorem dX8_undo_29 : decode cX8_undo 29 = .ok (.getfield 31, 3) := by decide +kernel
theorem dX8_undo_32 : decode cX8_undo 32 = .ok (.iload_n 1, 1) := by decide +kernel
theorem dX8_undo_33 : decode cX8_undo 33 = .ok (.aload_n 0, 1) := by decide +kernel
theorem dX8_undo_34 : decode cX8_undo 34 = .ok (.getfield 68, 3) := by decide +kernel
theorem dX8_undo_37 : decode cX8_undo 37 = .ok (.bipush 9, 2) := by decide +kernel
theorem dX8_undo_39 : decode cX8_undo 39 = .ok (.aload_n 0, 1) := by decide +kernel
theorem dX8_undo_40 : decode cX8_undo 40 = .ok (.getfield 217, 3) := by decide +kernel
theorem dX8_undo_43 : decode cX8_undo 43 = .ok (.imul, 1) := by decide +kernel
theorem dX8_undo_44 : decode cX8_undo 44 = .ok (.iload_n 1, 1) := by decide +kernel
theorem dX8_undo_45 : decode cX8_undo 45 = .ok (.iadd, 1) := by decide +kernel
theorem dX8_undo_46 : decode cX8_undo 46 = .ok (.iaload, 1) := by decide +kernel
theorem dX8_undo_47 : decode cX8_undo 47 = .ok (.iastore, 1) := by decide +kernel
theorem dX8_undo_48 : decode cX8_undo 48 = .ok (.iinc 1 1, 3) := by decide +kernel
theorem dX8_undo_51 : decode cX8_undo 51 = .ok (.goto (-29), 3) := by decide +kernel
theorem dX8_undo_54 : decode cX8_undo 54 = .ok (.aload_n 0, 1) := by decide +kernel
theorem dX8_undo_55 : decode cX8_undo 55 = .ok (.getfield 217, 3) := by decide +kernel
theorem dX8_undo_58 : decode cX8_undo 58 = .ok (.ireturn, 1) := by decide +kernel
theorem dX8_follows_0 : decode cX8_follows 0 = .ok (.aload_n 0, 1) := by decide +kernel
theorem dX8_follows_1 : decode cX8_follows 1 = .ok (.iload_n 1, 1) := by decide +kernel
theorem dX8_follows_2 : decode cX8_follows 2 = .ok (.invokevirtual 270, 3) := by decide +kernel
theorem dX8_follows_5 : decode cX8_follows 5 = .ok (.ifCond .eq 11, 3) := by decide +kernel
theorem dX8_follows_8 : decode cX8_follows 8 = .ok (.aload_n 0, 1) := by decide +kernel
theorem dX8_follows_9 : decode cX8_follows 9 = .ok (.iload_n 1, 1) := by decide +kernel
theorem dX8_follows_10 : decode cX8_follows 10 = .ok (.invokevirtual 220, 3) := by decide +kernel
theorem dX8_follows_13 : decode cX8_follows 13 = .ok (.goto 5, 3) := by decide +kernel
theorem dX8_follows_16 : decode cX8_follows 16 = .ok (.ldc 241, 2) := by decide +kernel
theorem dX8_follows_18 : decode cX8_follows 18 = .ok (.ireturn, 1) := by decide +kernel
theorem dX8_owed_0 : decode cX8_owed 0 = .ok (.aload_n 0, 1) := by decide +kernel
theorem dX8_owed_1 : decode cX8_owed 1 = .ok (.iload_n 1, 1) := by decide +kernel
theorem dX8_owed_2 : decode cX8_owed 2 = .ok (.invokevirtual 270, 3) := by decide +kernel
theorem dX8_owed_5 : decode cX8_owed 5 = .ok (.ifCond .eq 11, 3) := by decide +kernel
theorem dX8_owed_8 : decode cX8_owed 8 = .ok (.aload_n 0, 1) := by decide +kernel
theorem dX8_owed_9 : decode cX8_owed 9 = .ok (.iload_n 1, 1) := by decide +kernel
theorem dX8_owed_10 : decode cX8_owed 10 = .ok (.invokevirtual 245, 3) := by decide +kernel
theorem dX8_owed_13 : decode cX8_owed 13 = .ok (.goto 5, 3) := by decide +kernel
theorem dX8_owed_16 : decode cX8_owed 16 = .ok (.ldc 241, 2) := by decide +kernel
theorem dX8_owed_18 : decode cX8_owed 18 = .ok (.ireturn, 1) := by decide +kernel
theorem dX8_parts_0 : decode cX8_parts 0 = .ok (.aload_n 0, 1) := by decide +kernel
theorem dX8_parts_1 : decode cX8_parts 1 = .ok (.iload_n 1, 1) := by decide +kernel
theorem dX8_parts_2 : decode cX8_parts 2 = .ok (.invokevirtual 238, 3) := by decide +kernel
theorem dX8_parts_5 : decode cX8_parts 5 = .ok (.ifCond .ne 6, 3) := by decide +kernel
theorem dX8_parts_8 : decode cX8_parts 8 = .ok (.ldc 241, 2) := by decide +kernel
theorem dX8_parts_10 : decode cX8_parts 10 = .ok (.ireturn, 1) := by decide +kernel
theorem dX8_parts_11 : decode cX8_parts 11 = .ok (.iload_n 2, 1) := by decide +kernel
theorem dX8_parts_12 : decode cX8_parts 12 = .ok (.i2l, 1) := by decide +kernel
theorem dX8_parts_13 : decode cX8_parts 13 = .ok (.lconst 0, 1) := by decide +kernel
theorem dX8_parts_14 : decode cX8_parts 14 = .ok (.lconst 1, 1) := by decide +kernel
theorem dX8_parts_15 : decode cX8_parts 15 = .ok (.invokestatic 106, 3) := by decide +kernel
theorem dX8_parts_18 : decode cX8_parts 18 = .ok (.ifCond .ne 6, 3) := by decide +kernel
theorem dX8_parts_21 : decode cX8_parts 21 = .ok (.ldc 115, 2) := by decide +kernel
theorem dX8_parts_23 : decode cX8_parts 23 = .ok (.ireturn, 1) := by decide +kernel
theorem dX8_parts_24 : decode cX8_parts 24 = .ok (.iconst (-1), 1) := by decide +kernel
theorem dX8_parts_25 : decode cX8_parts 25 = .ok (.istore_n 3, 1) := by decide +kernel
theorem dX8_parts_26 : decode cX8_parts 26 = .ok (.iconst 0, 1) := by decide +kernel
theorem dX8_parts_27 : decode cX8_parts 27 = .ok (.istore 4, 2) := by decide +kernel
theorem dX8_parts_29 : decode cX8_parts 29 = .ok (.iload 4, 2) := by decide +kernel
theorem dX8_parts_31 : decode cX8_parts 31 = .ok (.iconst 1, 1) := by decide +kernel
theorem dX8_parts_32 : decode cX8_parts 32 = .ok (.aload_n 0, 1) := by decide +kernel
theorem dX8_parts_33 : decode cX8_parts 33 = .ok (.getfield 103, 3) := by decide +kernel
theorem dX8_parts_36 : decode cX8_parts 36 = .ok (.ishl, 1) := by decide +kernel
theorem dX8_parts_37 : decode cX8_parts 37 = .ok (.if_icmp .ge 75, 3) := by decide +kernel
theorem dX8_parts_40 : decode cX8_parts 40 = .ok (.iload 4, 2) := by decide +kernel
theorem dX8_parts_42 : decode cX8_parts 42 = .ok (.iload_n 1, 1) := by decide +kernel
theorem dX8_parts_43 : decode cX8_parts 43 = .ok (.invokestatic 160, 3) := by decide +kernel
theorem dX8_parts_46 : decode cX8_parts 46 = .ok (.ifCond .ne 25, 3) := by decide +kernel
theorem dX8_parts_49 : decode cX8_parts 49 = .ok (.iload_n 3, 1) := by decide +kernel
theorem dX8_parts_50 : decode cX8_parts 50 = .ok (.ifCond .lt 17, 3) := by decide +kernel
theorem dX8_parts_53 : decode cX8_parts 53 = .ok (.aload_n 0, 1) := by decide +kernel
theorem dX8_parts_54 : decode cX8_parts 54 = .ok (.iload 4, 2) := by decide +kernel
theorem dX8_parts_56 : decode cX8_parts 56 = .ok (.invokevirtual 226, 3) := by decide +kernel
theorem dX8_parts_59 : decode cX8_parts 59 = .ok (.aload_n 0, 1) := by decide +kernel
theorem dX8_parts_60 : decode cX8_parts 60 = .ok (.iload_n 3, 1) := by decide +kernel
theorem dX8_parts_61 : decode cX8_parts 61 = .ok (.invokevirtual 226, 3) := by decide +kernel
theorem dX8_parts_64 : decode cX8_parts 64 = .ok (.if_icmp .ge 7, 3) := by decide +kernel
theorem dX8_parts_67 : decode cX8_parts 67 = .ok (.iconst 1, 1) := by decide +kernel
theorem dX8_parts_68 : decode cX8_parts 68 = .ok (.goto 4, 3) := by decide +kernel
theorem dX8_parts_71 : decode cX8_parts 71 = .ok (.iconst 0, 1) := by decide +kernel
theorem dX8_parts_72 : decode cX8_parts 72 = .ok (.istore 5, 2) := by decide +kernel
theorem dX8_parts_74 : decode cX8_parts 74 = .ok (.iload 5, 2) := by decide +kernel
theorem dX8_parts_76 : decode cX8_parts 76 = .ok (.ifCond .eq 28, 3) := by decide +kernel
theorem dX8_parts_79 : decode cX8_parts 79 = .ok (.aload_n 0, 1) := by decide +kernel
theorem dX8_parts_80 : decode cX8_parts 80 = .ok (.aload_n 0, 1) := by decide +kernel
theorem dX8_parts_81 : decode cX8_parts 81 = .ok (.getfield 31, 3) := by decide +kernel
theorem dX8_parts_84 : decode cX8_parts 84 = .ok (.iconst 0, 1) := by decide +kernel
theorem dX8_parts_85 : decode cX8_parts 85 = .ok (.iaload, 1) := by decide +kernel
theorem dX8_parts_86 : decode cX8_parts 86 = .ok (.iload 4, 2) := by decide +kernel
theorem dX8_parts_88 : decode cX8_parts 88 = .ok (.ior, 1) := by decide +kernel
theorem dX8_parts_89 : decode cX8_parts 89 = .ok (.invokevirtual 220, 3) := by decide +kernel
theorem dX8_parts_92 : decode cX8_parts 92 = .ok (.iload_n 1, 1) := by decide +kernel
theorem dX8_parts_93 : decode cX8_parts 93 = .ok (.invokestatic 160, 3) := by decide +kernel
theorem dX8_parts_96 : decode cX8_parts 96 = .ok (.ifCond .eq 8, 3) := by decide +kernel
theorem dX8_parts_99 : decode cX8_parts 99 = .ok (.iload 4, 2) := by decide +kernel
theorem dX8_parts_101 : decode cX8_parts 101 = .ok (.goto 4, 3) := by decide +kernel
theorem dX8_parts_104 : decode cX8_parts 104 = .ok (.iload_n 3, 1) := by decide +kernel
theorem dX8_parts_105 : decode cX8_parts 105 = .ok (.istore_n 3, 1) := by decide +kernel
theorem dX8_parts_106 : decode cX8_parts 106 = .ok (.iinc 4 1, 3) := by decide +kernel
theorem dX8_parts_109 : decode cX8_parts 109 = .ok (.goto (-80), 3) := by decide +kernel
theorem dX8_parts_112 : decode cX8_parts 112 = .ok (.iload_n 3, 1) := by decide +kernel
theorem dX8_parts_113 : decode cX8_parts 113 = .ok (.ifCond .lt 7, 3) := by decide +kernel
theorem dX8_parts_116 : decode cX8_parts 116 = .ok (.iload_n 2, 1) := by decide +kernel
theorem dX8_parts_117 : decode cX8_parts 117 = .ok (.ifCond .ne 7, 3) := by decide +kernel
theorem dX8_parts_120 : decode cX8_parts 120 = .ok (.iload_n 3, 1) := by decide +kernel
theorem dX8_parts_121 : decode cX8_parts 121 = .ok (.goto 8, 3) := by decide +kernel
theorem dX8_parts_124 : decode cX8_parts 124 = .ok (.aload_n 0, 1) := by decide +kernel
theorem dX8_parts_125 : decode cX8_parts 125 = .ok (.iload_n 3, 1) := by decide +kernel
theorem dX8_parts_126 : decode cX8_parts 126 = .ok (.invokevirtual 226, 3) := by decide +kernel
theorem dX8_parts_129 : decode cX8_parts 129 = .ok (.ireturn, 1) := by decide +kernel
theorem dX8_findMinutes_0 : decode cX8_findMinutes 0 = .ok (.iconst 0, 1) := by decide +kernel
theorem dX8_findMinutes_1 : decode cX8_findMinutes 1 = .ok (.istore_n 2, 1) := by decide +kernel
theorem dX8_findMinutes_2 : decode cX8_findMinutes 2 = .ok (.iload_n 2, 1) := by decide +kernel
theorem dX8_findMinutes_3 : decode cX8_findMinutes 3 = .ok (.bipush 8, 2) := by decide +kernel
theorem dX8_findMinutes_5 : decode cX8_findMinutes 5 = .ok (.if_icmp .ge 27, 3) := by decide +kernel
theorem dX8_findMinutes_8 : decode cX8_findMinutes 8 = .ok (.aload_n 0, 1) := by decide +kernel
theorem dX8_findMinutes_9 : decode cX8_findMinutes 9 = .ok (.getfield 71, 3) := by decide +kernel
theorem dX8_findMinutes_12 : decode cX8_findMinutes 12 = .ok (.iload_n 2, 1) := by decide +kernel
theorem dX8_findMinutes_13 : decode cX8_findMinutes 13 = .ok (.iload_n 2, 1) := by decide +kernel
theorem dX8_findMinutes_14 : decode cX8_findMinutes 14 = .ok (.iload_n 1, 1) := by decide +kernel
theorem dX8_findMinutes_15 : decode cX8_findMinutes 15 = .ok (.if_icmp .ne 7, 3) := by decide +kernel
theorem dX8_findMinutes_18 : decode cX8_findMinutes 18 = .ok (.iconst 0, 1) := by decide +kernel
theorem dX8_findMinutes_19 : decode cX8_findMinutes 19 = .ok (.goto 6, 3) := by decide +kernel
theorem dX8_findMinutes_22 : decode cX8_findMinutes 22 = .ok (.ldc_w 262, 3) := by decide +kernel
theorem dX8_findMinutes_25 : decode cX8_findMinutes 25 = .ok (.iastore, 1) := by decide +kernel
theorem dX8_findMinutes_26 : decode cX8_findMinutes 26 = .ok (.iinc 2 1, 3) := by decide +kernel
theorem dX8_findMinutes_29 : decode cX8_findMinutes 29 = .ok (.goto (-27), 3) := by decide +kernel
theorem dX8_findMinutes_32 : decode cX8_findMinutes 32 = .ok (.iconst 1, 1) := by decide +kernel
theorem dX8_findMinutes_33 : decode cX8_findMinutes 33 = .ok (.istore_n 2, 1) := by decide +kernel
theorem dX8_findMinutes_34 : decode cX8_findMinutes 34 = .ok (.iload_n 2, 1) := by decide +kernel
theorem dX8_findMinutes_35 : decode cX8_findMinutes 35 = .ok (.ifCond .eq 75, 3) := by decide +kernel
theorem dX8_findMinutes_38 : decode cX8_findMinutes 38 = .ok (.iconst 0, 1) := by decide +kernel
theorem dX8_findMinutes_39 : decode cX8_findMinutes 39 = .ok (.istore_n 2, 1) := by decide +kernel
theorem dX8_findMinutes_40 : decode cX8_findMinutes 40 = .ok (.iconst 0, 1) := by decide +kernel
theorem dX8_findMinutes_41 : decode cX8_findMinutes 41 = .ok (.istore_n 3, 1) := by decide +kernel
theorem dX8_findMinutes_42 : decode cX8_findMinutes 42 = .ok (.iload_n 3, 1) := by decide +kernel
theorem dX8_findMinutes_43 : decode cX8_findMinutes 43 = .ok (.aload_n 0, 1) := by decide +kernel
theorem dX8_findMinutes_44 : decode cX8_findMinutes 44 = .ok (.getfield 202, 3) := by decide +kernel
theorem dX8_findMinutes_47 : decode cX8_findMinutes 47 = .ok (.if_icmp .ge 60, 3) := by decide +kernel
theorem dX8_findMinutes_50 : decode cX8_findMinutes 50 = .ok (.aload_n 0, 1) := by decide +kernel
theorem dX8_findMinutes_51 : decode cX8_findMinutes 51 = .ok (.getfield 28, 3) := by decide +kernel
theorem dX8_findMinutes_54 : decode cX8_findMinutes 54 = .ok (.iload_n 3, 1) := by decide +kernel
theorem dX8_findMinutes_55 : decode cX8_findMinutes 55 = .ok (.iaload, 1) := by decide +kernel
theorem dX8_findMinutes_56 : decode cX8_findMinutes 56 = .ok (.aload_n 0, 1) := by decide +kernel
theorem dX8_findMinutes_57 : decode cX8_findMinutes 57 = .ok (.getfield 71, 3) := by decide +kernel
theorem dX8_findMinutes_60 : decode cX8_findMinutes 60 = .ok (.aload_n 0, 1) := by decide +kernel
theorem dX8_findMinutes_61 : decode cX8_findMinutes 61 = .ok (.getfield 25, 3) := by decide +kernel
theorem dX8_findMinutes_64 : decode cX8_findMinutes 64 = .ok (.iload_n 3, 1) := by decide +kernel
theorem dX8_findMinutes_65 : decode cX8_findMinutes 65 = .ok (.iaload, 1) := by decide +kernel
theorem dX8_findMinutes_66 : decode cX8_findMinutes 66 = .ok (.iaload, 1) := by decide +kernel
theorem dX8_findMinutes_67 : decode cX8_findMinutes 67 = .ok (.iadd, 1) := by decide +kernel
theorem dX8_findMinutes_68 : decode cX8_findMinutes 68 = .ok (.istore 4, 2) := by decide +kernel
theorem dX8_findMinutes_70 : decode cX8_findMinutes 70 = .ok (.iload 4, 2) := by decide +kernel
theorem dX8_findMinutes_72 : decode cX8_findMinutes 72 = .ok (.aload_n 0, 1) := by decide +kernel
theorem dX8_findMinutes_73 : decode cX8_findMinutes 73 = .ok (.getfield 71, 3) := by decide +kernel
theorem dX8_findMinutes_76 : decode cX8_findMinutes 76 = .ok (.aload_n 0, 1) := by decide +kernel
theorem dX8_findMinutes_77 : decode cX8_findMinutes 77 = .ok (.getfield 22, 3) := by decide +kernel
theorem dX8_findMinutes_80 : decode cX8_findMinutes 80 = .ok (.iload_n 3, 1) := by decide +kernel
theorem dX8_findMinutes_81 : decode cX8_findMinutes 81 = .ok (.iaload, 1) := by decide +kernel
theorem dX8_findMinutes_82 : decode cX8_findMinutes 82 = .ok (.iaload, 1) := by decide +kernel
theorem dX8_findMinutes_83 : decode cX8_findMinutes 83 = .ok (.if_icmp .ge 18, 3) := by decide +kernel
theorem dX8_findMinutes_86 : decode cX8_findMinutes 86 = .ok (.aload_n 0, 1) := by decide +kernel
theorem dX8_findMinutes_87 : decode cX8_findMinutes 87 = .ok (.getfield 71, 3) := by decide +kernel
theorem dX8_findMinutes_90 : decode cX8_findMinutes 90 = .ok (.aload_n 0, 1) := by decide +kernel
theorem dX8_findMinutes_91 : decode cX8_findMinutes 91 = .ok (.getfield 22, 3) := by decide +kernel
theorem dX8_findMinutes_94 : decode cX8_findMinutes 94 = .ok (.iload_n 3, 1) := by decide +kernel
theorem dX8_findMinutes_95 : decode cX8_findMinutes 95 = .ok (.iaload, 1) := by decide +kernel
theorem dX8_findMinutes_96 : decode cX8_findMinutes 96 = .ok (.iload 4, 2) := by decide +kernel
theorem dX8_findMinutes_98 : decode cX8_findMinutes 98 = .ok (.iastore, 1) := by decide +kernel
theorem dX8_findMinutes_99 : decode cX8_findMinutes 99 = .ok (.iconst 1, 1) := by decide +kernel
theorem dX8_findMinutes_100 : decode cX8_findMinutes 100 = .ok (.istore_n 2, 1) := by decide +kernel
theorem dX8_findMinutes_101 : decode cX8_findMinutes 101 = .ok (.iinc 3 1, 3) := by decide +kernel
theorem dX8_findMinutes_104 : decode cX8_findMinutes 104 = .ok (.goto (-62), 3) := by decide +kernel
theorem dX8_findMinutes_107 : decode cX8_findMinutes 107 = .ok (.goto (-73), 3) := by decide +kernel
theorem dX8_findMinutes_110 : decode cX8_findMinutes 110 = .ok (.return_, 1) := by decide +kernel
theorem dX8_talkDown_0 : decode cX8_talkDown 0 = .ok (.aload_n 0, 1) := by decide +kernel
theorem dX8_talkDown_1 : decode cX8_talkDown 1 = .ok (.iload_n 1, 1) := by decide +kernel
theorem dX8_talkDown_2 : decode cX8_talkDown 2 = .ok (.invokevirtual 238, 3) := by decide +kernel
theorem dX8_talkDown_5 : decode cX8_talkDown 5 = .ok (.ifCond .eq 11, 3) := by decide +kernel
theorem dX8_talkDown_8 : decode cX8_talkDown 8 = .ok (.aload_n 0, 1) := by decide +kernel
theorem dX8_talkDown_9 : decode cX8_talkDown 9 = .ok (.iload_n 2, 1) := by decide +kernel
theorem dX8_talkDown_10 : decode cX8_talkDown 10 = .ok (.invokevirtual 238, 3) := by decide +kernel
theorem dX8_talkDown_13 : decode cX8_talkDown 13 = .ok (.ifCond .ne 6, 3) := by decide +kernel
theorem dX8_talkDown_16 : decode cX8_talkDown 16 = .ok (.ldc 241, 2) := by decide +kernel
theorem dX8_talkDown_18 : decode cX8_talkDown 18 = .ok (.ireturn, 1) := by decide +kernel
theorem dX8_talkDown_19 : decode cX8_talkDown 19 = .ok (.iload_n 3, 1) := by decide +kernel
theorem dX8_talkDown_20 : decode cX8_talkDown 20 = .ok (.i2l, 1) := by decide +kernel
theorem dX8_talkDown_21 : decode cX8_talkDown 21 = .ok (.lconst 0, 1) := by decide +kernel
theorem dX8_talkDown_22 : decode cX8_talkDown 22 = .ok (.lconst 1, 1) := by decide +kernel
theorem dX8_talkDown_23 : decode cX8_talkDown 23 = .ok (.invokestatic 106, 3) := by decide +kernel
theorem dX8_talkDown_26 : decode cX8_talkDown 26 = .ok (.ifCond .ne 6, 3) := by decide +kernel
theorem dX8_talkDown_29 : decode cX8_talkDown 29 = .ok (.ldc 115, 2) := by decide +kernel
theorem dX8_talkDown_31 : decode cX8_talkDown 31 = .ok (.ireturn, 1) := by decide +kernel
theorem dX8_talkDown_32 : decode cX8_talkDown 32 = .ok (.aload_n 0, 1) := by decide +kernel
theorem dX8_talkDown_33 : decode cX8_talkDown 33 = .ok (.iload_n 2, 1) := by decide +kernel
theorem dX8_talkDown_34 : decode cX8_talkDown 34 = .ok (.invokevirtual 291, 3) := by decide +kernel
theorem dX8_talkDown_37 : decode cX8_talkDown 37 = .ok (.aload_n 0, 1) := by decide +kernel
theorem dX8_talkDown_38 : decode cX8_talkDown 38 = .ok (.getfield 71, 3) := by decide +kernel
theorem dX8_talkDown_41 : decode cX8_talkDown 41 = .ok (.iload_n 1, 1) := by decide +kernel
theorem dX8_talkDown_42 : decode cX8_talkDown 42 = .ok (.iaload, 1) := by decide +kernel
theorem dX8_talkDown_43 : decode cX8_talkDown 43 = .ok (.ldc_w 262, 3) := by decide +kernel
theorem dX8_talkDown_46 : decode cX8_talkDown 46 = .ok (.if_icmp .lt 5, 3) := by decide +kernel
theorem dX8_talkDown_49 : decode cX8_talkDown 49 = .ok (.iconst (-1), 1) := by decide +kernel
theorem dX8_talkDown_50 : decode cX8_talkDown 50 = .ok (.ireturn, 1) := by decide +kernel
theorem dX8_talkDown_51 : decode cX8_talkDown 51 = .ok (.iload_n 3, 1) := by decide +kernel
theorem dX8_talkDown_52 : decode cX8_talkDown 52 = .ok (.ifCond .ne 10, 3) := by decide +kernel
theorem dX8_talkDown_55 : decode cX8_talkDown 55 = .ok (.aload_n 0, 1) := by decide +kernel
theorem dX8_talkDown_56 : decode cX8_talkDown 56 = .ok (.getfield 71, 3) := by decide +kernel
theorem dX8_talkDown_59 : decode cX8_talkDown 59 = .ok (.iload_n 1, 1) := by decide +kernel
theorem dX8_talkDown_60 : decode cX8_talkDown 60 = .ok (.iaload, 1) := by decide +kernel
theorem dX8_talkDown_61 : decode cX8_talkDown 61 = .ok (.ireturn, 1) := by decide +kernel
theorem dX8_talkDown_62 : decode cX8_talkDown 62 = .ok (.iconst (-1), 1) := by decide +kernel
theorem dX8_talkDown_63 : decode cX8_talkDown 63 = .ok (.istore 4, 2) := by decide +kernel
theorem dX8_talkDown_65 : decode cX8_talkDown 65 = .ok (.aload_n 0, 1) := by decide +kernel
theorem dX8_talkDown_66 : decode cX8_talkDown 66 = .ok (.getfield 103, 3) := by decide +kernel
theorem dX8_talkDown_69 : decode cX8_talkDown 69 = .ok (.iconst 1, 1) := by decide +kernel
theorem dX8_talkDown_70 : decode cX8_talkDown 70 = .ok (.isub, 1) := by decide +kernel
theorem dX8_talkDown_71 : decode cX8_talkDown 71 = .ok (.istore 5, 2) := by decide +kernel
theorem dX8_talkDown_73 : decode cX8_talkDown 73 = .ok (.iload 5, 2) := by decide +kernel
theorem dX8_talkDown_75 : decode cX8_talkDown 75 = .ok (.ifCond .lt 59, 3) := by decide +kernel
theorem dX8_talkDown_78 : decode cX8_talkDown 78 = .ok (.iload_n 1, 1) := by decide +kernel
theorem dX8_talkDown_79 : decode cX8_talkDown 79 = .ok (.iload_n 2, 1) := by decide +kernel
theorem dX8_talkDown_80 : decode cX8_talkDown 80 = .ok (.if_icmp .eq 54, 3) := by decide +kernel
theorem dX8_talkDown_83 : decode cX8_talkDown 83 = .ok (.aload_n 0, 1) := by decide +kernel
theorem dX8_talkDown_84 : decode cX8_talkDown 84 = .ok (.iload_n 1, 1) := by decide +kernel
theorem dX8_talkDown_85 : decode cX8_talkDown 85 = .ok (.iload 5, 2) := by decide +kernel
theorem dX8_talkDown_87 : decode cX8_talkDown 87 = .ok (.invokevirtual 263, 3) := by decide +kernel
theorem dX8_talkDown_90 : decode cX8_talkDown 90 = .ok (.istore 6, 2) := by decide +kernel
theorem dX8_talkDown_92 : decode cX8_talkDown 92 = .ok (.iload 6, 2) := by decide +kernel
theorem dX8_talkDown_94 : decode cX8_talkDown 94 = .ok (.ldc_w 262, 3) := by decide +kernel
theorem dX8_talkDown_97 : decode cX8_talkDown 97 = .ok (.if_icmp .ge 27, 3) := by decide +kernel
theorem dX8_talkDown_100 : decode cX8_talkDown 100 = .ok (.iload 6, 2) := by decide +kernel
theorem dX8_talkDown_102 : decode cX8_talkDown 102 = .ok (.aload_n 0, 1) := by decide +kernel
theorem dX8_talkDown_103 : decode cX8_talkDown 103 = .ok (.getfield 71, 3) := by decide +kernel
theorem dX8_talkDown_106 : decode cX8_talkDown 106 = .ok (.iload 5, 2) := by decide +kernel
theorem dX8_talkDown_108 : decode cX8_talkDown 108 = .ok (.iaload, 1) := by decide +kernel
theorem dX8_talkDown_109 : decode cX8_talkDown 109 = .ok (.iadd, 1) := by decide +kernel
theorem dX8_talkDown_110 : decode cX8_talkDown 110 = .ok (.aload_n 0, 1) := by decide +kernel
theorem dX8_talkDown_111 : decode cX8_talkDown 111 = .ok (.getfield 71, 3) := by decide +kernel
theorem dX8_talkDown_114 : decode cX8_talkDown 114 = .ok (.iload_n 1, 1) := by decide +kernel
theorem dX8_talkDown_115 : decode cX8_talkDown 115 = .ok (.iaload, 1) := by decide +kernel
theorem dX8_talkDown_116 : decode cX8_talkDown 116 = .ok (.if_icmp .ne 8, 3) := by decide +kernel
theorem dX8_talkDown_119 : decode cX8_talkDown 119 = .ok (.iload 5, 2) := by decide +kernel
theorem dX8_talkDown_121 : decode cX8_talkDown 121 = .ok (.goto 5, 3) := by decide +kernel
theorem dX8_talkDown_124 : decode cX8_talkDown 124 = .ok (.iload 4, 2) := by decide +kernel
theorem dX8_talkDown_126 : decode cX8_talkDown 126 = .ok (.istore 4, 2) := by decide +kernel
theorem dX8_talkDown_128 : decode cX8_talkDown 128 = .ok (.iinc 5 (-1), 3) := by decide +kernel
theorem dX8_talkDown_131 : decode cX8_talkDown 131 = .ok (.goto (-58), 3) := by decide +kernel
theorem dX8_talkDown_134 : decode cX8_talkDown 134 = .ok (.iload 4, 2) := by decide +kernel
theorem dX8_talkDown_136 : decode cX8_talkDown 136 = .ok (.ireturn, 1) := by decide +kernel
theorem dX8_minutesOf_0 : decode cX8_minutesOf 0 = .ok (.iload_n 2, 1) := by decide +kernel
theorem dX8_minutesOf_1 : decode cX8_minutesOf 1 = .ok (.istore_n 3, 1) := by decide +kernel
theorem dX8_minutesOf_2 : decode cX8_minutesOf 2 = .ok (.iconst 0, 1) := by decide +kernel
theorem dX8_minutesOf_3 : decode cX8_minutesOf 3 = .ok (.istore 4, 2) := by decide +kernel
theorem dX8_minutesOf_5 : decode cX8_minutesOf 5 = .ok (.iload_n 1, 1) := by decide +kernel
theorem dX8_minutesOf_6 : decode cX8_minutesOf 6 = .ok (.istore 5, 2) := by decide +kernel
theorem dX8_minutesOf_8 : decode cX8_minutesOf 8 = .ok (.iconst 0, 1) := by decide +kernel
theorem dX8_minutesOf_9 : decode cX8_minutesOf 9 = .ok (.istore 6, 2) := by decide +kernel
theorem dX8_minutesOf_11 : decode cX8_minutesOf 11 = .ok (.iload 6, 2) := by decide +kernel
theorem dX8_minutesOf_13 : decode cX8_minutesOf 13 = .ok (.iconst 3, 1) := by decide +kernel
theorem dX8_minutesOf_14 : decode cX8_minutesOf 14 = .ok (.if_icmp .ge 88, 3) := by decide +kernel
theorem dX8_minutesOf_17 : decode cX8_minutesOf 17 = .ok (.iload 5, 2) := by decide +kernel
theorem dX8_minutesOf_19 : decode cX8_minutesOf 19 = .ok (.bipush 11, 2) := by decide +kernel
theorem dX8_minutesOf_21 : decode cX8_minutesOf 21 = .ok (.irem, 1) := by decide +kernel
theorem dX8_minutesOf_22 : decode cX8_minutesOf 22 = .ok (.istore 7, 2) := by decide +kernel
theorem dX8_minutesOf_24 : decode cX8_minutesOf 24 = .ok (.iload 5, 2) := by decide +kernel
theorem dX8_minutesOf_26 : decode cX8_minutesOf 26 = .ok (.bipush 11, 2) := by decide +kernel
theorem dX8_minutesOf_28 : decode cX8_minutesOf 28 = .ok (.idiv, 1) := by decide +kernel
theorem dX8_minutesOf_29 : decode cX8_minutesOf 29 = .ok (.istore 5, 2) := by decide +kernel
theorem dX8_minutesOf_31 : decode cX8_minutesOf 31 = .ok (.iload 7, 2) := by decide +kernel
theorem dX8_minutesOf_33 : decode cX8_minutesOf 33 = .ok (.bipush 10, 2) := by decide +kernel
theorem dX8_minutesOf_35 : decode cX8_minutesOf 35 = .ok (.if_icmp .ge 61, 3) := by decide +kernel
theorem dX8_minutesOf_38 : decode cX8_minutesOf 38 = .ok (.iload 7, 2) := by decide +kernel
theorem dX8_minutesOf_40 : decode cX8_minutesOf 40 = .ok (.aload_n 0, 1) := by decide +kernel
theorem dX8_minutesOf_41 : decode cX8_minutesOf 41 = .ok (.getfield 202, 3) := by decide +kernel
theorem dX8_minutesOf_44 : decode cX8_minutesOf 44 = .ok (.if_icmp .ge 17, 3) := by decide +kernel
theorem dX8_minutesOf_47 : decode cX8_minutesOf 47 = .ok (.iload_n 3, 1) := by decide +kernel
theorem dX8_minutesOf_48 : decode cX8_minutesOf 48 = .ok (.aload_n 0, 1) := by decide +kernel
theorem dX8_minutesOf_49 : decode cX8_minutesOf 49 = .ok (.getfield 22, 3) := by decide +kernel
theorem dX8_minutesOf_52 : decode cX8_minutesOf 52 = .ok (.iload 7, 2) := by decide +kernel
theorem dX8_minutesOf_54 : decode cX8_minutesOf 54 = .ok (.iaload, 1) := by decide +kernel
theorem dX8_minutesOf_55 : decode cX8_minutesOf 55 = .ok (.invokestatic 160, 3) := by decide +kernel
theorem dX8_minutesOf_58 : decode cX8_minutesOf 58 = .ok (.ifCond .ne 7, 3) := by decide +kernel
theorem dX8_minutesOf_61 : decode cX8_minutesOf 61 = .ok (.ldc_w 262, 3) := by decide +kernel
theorem dX8_minutesOf_64 : decode cX8_minutesOf 64 = .ok (.ireturn, 1) := by decide +kernel
theorem dX8_minutesOf_65 : decode cX8_minutesOf 65 = .ok (.iload_n 3, 1) := by decide +kernel
theorem dX8_minutesOf_66 : decode cX8_minutesOf 66 = .ok (.aload_n 0, 1) := by decide +kernel
theorem dX8_minutesOf_67 : decode cX8_minutesOf 67 = .ok (.getfield 22, 3) := by decide +kernel
theorem dX8_minutesOf_70 : decode cX8_minutesOf 70 = .ok (.iload 7, 2) := by decide +kernel
theorem dX8_minutesOf_72 : decode cX8_minutesOf 72 = .ok (.iaload, 1) := by decide +kernel
theorem dX8_minutesOf_73 : decode cX8_minutesOf 73 = .ok (.aload_n 0, 1) := by decide +kernel
theorem dX8_minutesOf_74 : decode cX8_minutesOf 74 = .ok (.getfield 25, 3) := by decide +kernel
theorem dX8_minutesOf_77 : decode cX8_minutesOf 77 = .ok (.iload 7, 2) := by decide +kernel
theorem dX8_minutesOf_79 : decode cX8_minutesOf 79 = .ok (.iaload, 1) := by decide +kernel
theorem dX8_minutesOf_80 : decode cX8_minutesOf 80 = .ok (.invokestatic 266, 3) := by decide +kernel
theorem dX8_minutesOf_83 : decode cX8_minutesOf 83 = .ok (.istore_n 3, 1) := by decide +kernel
theorem dX8_minutesOf_84 : decode cX8_minutesOf 84 = .ok (.iload 4, 2) := by decide +kernel
theorem dX8_minutesOf_86 : decode cX8_minutesOf 86 = .ok (.aload_n 0, 1) := by decide +kernel
theorem dX8_minutesOf_87 : decode cX8_minutesOf 87 = .ok (.getfield 28, 3) := by decide +kernel
theorem dX8_minutesOf_90 : decode cX8_minutesOf 90 = .ok (.iload 7, 2) := by decide +kernel
theorem dX8_minutesOf_92 : decode cX8_minutesOf 92 = .ok (.iaload, 1) := by decide +kernel
theorem dX8_minutesOf_93 : decode cX8_minutesOf 93 = .ok (.iadd, 1) := by decide +kernel
theorem dX8_minutesOf_94 : decode cX8_minutesOf 94 = .ok (.istore 4, 2) := by decide +kernel
theorem dX8_minutesOf_96 : decode cX8_minutesOf 96 = .ok (.iinc 6 1, 3) := by decide +kernel
theorem dX8_minutesOf_99 : decode cX8_minutesOf 99 = .ok (.goto (-88), 3) := by decide +kernel
theorem dX8_minutesOf_102 : decode cX8_minutesOf 102 = .ok (.aload_n 0, 1) := by decide +kernel
theorem dX8_minutesOf_103 : decode cX8_minutesOf 103 = .ok (.iload_n 3, 1) := by decide +kernel
theorem dX8_minutesOf_104 : decode cX8_minutesOf 104 = .ok (.invokevirtual 226, 3) := by decide +kernel
theorem dX8_minutesOf_107 : decode cX8_minutesOf 107 = .ok (.aload_n 0, 1) := by decide +kernel
theorem dX8_minutesOf_108 : decode cX8_minutesOf 108 = .ok (.getfield 99, 3) := by decide +kernel
theorem dX8_minutesOf_111 : decode cX8_minutesOf 111 = .ok (.if_icmp .le 9, 3) := by decide +kernel
theorem dX8_minutesOf_114 : decode cX8_minutesOf 114 = .ok (.ldc_w 262, 3) := by decide +kernel
theorem dX8_minutesOf_117 : decode cX8_minutesOf 117 = .ok (.goto 5, 3) := by decide +kernel
theorem dX8_minutesOf_120 : decode cX8_minutesOf 120 = .ok (.iload 4, 2) := by decide +kernel
theorem dX8_minutesOf_122 : decode cX8_minutesOf 122 = .ok (.ireturn, 1) := by decide +kernel
theorem dX8_soonest_0 : decode cX8_soonest 0 = .ok (.aload_n 0, 1) := by decide +kernel
theorem dX8_soonest_1 : decode cX8_soonest 1 = .ok (.iload_n 1, 1) := by decide +kernel
theorem dX8_soonest_2 : decode cX8_soonest 2 = .ok (.invokevirtual 242, 3) := by decide +kernel
theorem dX8_soonest_5 : decode cX8_soonest 5 = .ok (.ifCond .ne 6, 3) := by decide +kernel
theorem dX8_soonest_8 : decode cX8_soonest 8 = .ok (.ldc 241, 2) := by decide +kernel
theorem dX8_soonest_10 : decode cX8_soonest 10 = .ok (.ireturn, 1) := by decide +kernel
theorem dX8_soonest_11 : decode cX8_soonest 11 = .ok (.aload_n 0, 1) := by decide +kernel
theorem dX8_soonest_12 : decode cX8_soonest 12 = .ok (.iload_n 1, 1) := by decide +kernel
theorem dX8_soonest_13 : decode cX8_soonest 13 = .ok (.invokevirtual 229, 3) := by decide +kernel
theorem dX8_soonest_16 : decode cX8_soonest 16 = .ok (.ifCond .eq 6, 3) := by decide +kernel
theorem dX8_soonest_19 : decode cX8_soonest 19 = .ok (.ldc 251, 2) := by decide +kernel
theorem dX8_soonest_21 : decode cX8_soonest 21 = .ok (.ireturn, 1) := by decide +kernel
theorem dX8_soonest_22 : decode cX8_soonest 22 = .ok (.ldc_w 262, 3) := by decide +kernel
theorem dX8_soonest_25 : decode cX8_soonest 25 = .ok (.istore_n 2, 1) := by decide +kernel
theorem dX8_soonest_26 : decode cX8_soonest 26 = .ok (.iconst 0, 1) := by decide +kernel
theorem dX8_soonest_27 : decode cX8_soonest 27 = .ok (.istore_n 3, 1) := by decide +kernel
theorem dX8_soonest_28 : decode cX8_soonest 28 = .ok (.iload_n 3, 1) := by decide +kernel
theorem dX8_soonest_29 : decode cX8_soonest 29 = .ok (.sipush 1331, 3) := by decide +kernel
theorem dX8_soonest_32 : decode cX8_soonest 32 = .ok (.if_icmp .ge 37, 3) := by decide +kernel
theorem dX8_soonest_35 : decode cX8_soonest 35 = .ok (.aload_n 0, 1) := by decide +kernel
theorem dX8_soonest_36 : decode cX8_soonest 36 = .ok (.iload_n 3, 1) := by decide +kernel
theorem dX8_soonest_37 : decode cX8_soonest 37 = .ok (.aload_n 0, 1) := by decide +kernel
theorem dX8_soonest_38 : decode cX8_soonest 38 = .ok (.getfield 31, 3) := by decide +kernel
theorem dX8_soonest_41 : decode cX8_soonest 41 = .ok (.iconst 2, 1) := by decide +kernel
theorem dX8_soonest_42 : decode cX8_soonest 42 = .ok (.iload_n 1, 1) := by decide +kernel
theorem dX8_soonest_43 : decode cX8_soonest 43 = .ok (.iadd, 1) := by decide +kernel
theorem dX8_soonest_44 : decode cX8_soonest 44 = .ok (.iaload, 1) := by decide +kernel
theorem dX8_soonest_45 : decode cX8_soonest 45 = .ok (.invokevirtual 295, 3) := by decide +kernel
theorem dX8_soonest_48 : decode cX8_soonest 48 = .ok (.istore 4, 2) := by decide +kernel
theorem dX8_soonest_50 : decode cX8_soonest 50 = .ok (.iload 4, 2) := by decide +kernel
theorem dX8_soonest_52 : decode cX8_soonest 52 = .ok (.iload_n 2, 1) := by decide +kernel
theorem dX8_soonest_53 : decode cX8_soonest 53 = .ok (.if_icmp .ge 8, 3) := by decide +kernel
theorem dX8_soonest_56 : decode cX8_soonest 56 = .ok (.iload 4, 2) := by decide +kernel
theorem dX8_soonest_58 : decode cX8_soonest 58 = .ok (.goto 4, 3) := by decide +kernel
theorem dX8_soonest_61 : decode cX8_soonest 61 = .ok (.iload_n 2, 1) := by decide +kernel
theorem dX8_soonest_62 : decode cX8_soonest 62 = .ok (.istore_n 2, 1) := by decide +kernel
theorem dX8_soonest_63 : decode cX8_soonest 63 = .ok (.iinc 3 1, 3) := by decide +kernel
theorem dX8_soonest_66 : decode cX8_soonest 66 = .ok (.goto (-38), 3) := by decide +kernel
theorem dX8_soonest_69 : decode cX8_soonest 69 = .ok (.iload_n 2, 1) := by decide +kernel
theorem dX8_soonest_70 : decode cX8_soonest 70 = .ok (.ldc_w 262, 3) := by decide +kernel
theorem dX8_soonest_73 : decode cX8_soonest 73 = .ok (.if_icmp .ge 7, 3) := by decide +kernel
theorem dX8_soonest_76 : decode cX8_soonest 76 = .ok (.iload_n 2, 1) := by decide +kernel
theorem dX8_soonest_77 : decode cX8_soonest 77 = .ok (.goto 4, 3) := by decide +kernel
theorem dX8_soonest_80 : decode cX8_soonest 80 = .ok (.iconst (-1), 1) := by decide +kernel
theorem dX8_soonest_81 : decode cX8_soonest 81 = .ok (.ireturn, 1) := by decide +kernel
theorem dX8_smallestSet_0 : decode cX8_smallestSet 0 = .ok (.aload_n 0, 1) := by decide +kernel
theorem dX8_smallestSet_1 : decode cX8_smallestSet 1 = .ok (.aload_n 0, 1) := by decide +kernel
theorem dX8_smallestSet_2 : decode cX8_smallestSet 2 = .ok (.getfield 31, 3) := by decide +kernel
theorem dX8_smallestSet_5 : decode cX8_smallestSet 5 = .ok (.iconst 0, 1) := by decide +kernel
theorem dX8_smallestSet_6 : decode cX8_smallestSet 6 = .ok (.iaload, 1) := by decide +kernel
theorem dX8_smallestSet_7 : decode cX8_smallestSet 7 = .ok (.invokevirtual 220, 3) := by decide +kernel
theorem dX8_smallestSet_10 : decode cX8_smallestSet 10 = .ok (.istore_n 1, 1) := by decide +kernel
theorem dX8_smallestSet_11 : decode cX8_smallestSet 11 = .ok (.iconst (-1), 1) := by decide +kernel
theorem dX8_smallestSet_12 : decode cX8_smallestSet 12 = .ok (.istore_n 2, 1) := by decide +kernel
theorem dX8_smallestSet_13 : decode cX8_smallestSet 13 = .ok (.iconst 0, 1) := by decide +kernel
theorem dX8_smallestSet_14 : decode cX8_smallestSet 14 = .ok (.istore_n 3, 1) := by decide +kernel
theorem dX8_smallestSet_15 : decode cX8_smallestSet 15 = .ok (.iload_n 3, 1) := by decide +kernel
theorem dX8_smallestSet_16 : decode cX8_smallestSet 16 = .ok (.iconst 1, 1) := by decide +kernel
theorem dX8_smallestSet_17 : decode cX8_smallestSet 17 = .ok (.aload_n 0, 1) := by decide +kernel
theorem dX8_smallestSet_18 : decode cX8_smallestSet 18 = .ok (.getfield 103, 3) := by decide +kernel
theorem dX8_smallestSet_21 : decode cX8_smallestSet 21 = .ok (.ishl, 1) := by decide +kernel
theorem dX8_smallestSet_22 : decode cX8_smallestSet 22 = .ok (.if_icmp .ge 51, 3) := by decide +kernel
theorem dX8_smallestSet_25 : decode cX8_smallestSet 25 = .ok (.iload_n 2, 1) := by decide +kernel
theorem dX8_smallestSet_26 : decode cX8_smallestSet 26 = .ok (.ifCond .lt 14, 3) := by decide +kernel
theorem dX8_smallestSet_29 : decode cX8_smallestSet 29 = .ok (.iload_n 3, 1) := by decide +kernel
theorem dX8_smallestSet_30 : decode cX8_smallestSet 30 = .ok (.invokestatic 298, 3) := by decide +kernel
theorem dX8_smallestSet_33 : decode cX8_smallestSet 33 = .ok (.iload_n 2, 1) := by decide +kernel
theorem dX8_smallestSet_34 : decode cX8_smallestSet 34 = .ok (.invokestatic 298, 3) := by decide +kernel
theorem dX8_smallestSet_37 : decode cX8_smallestSet 37 = .ok (.if_icmp .ge 7, 3) := by decide +kernel
theorem dX8_smallestSet_40 : decode cX8_smallestSet 40 = .ok (.iconst 1, 1) := by decide +kernel
theorem dX8_smallestSet_41 : decode cX8_smallestSet 41 = .ok (.goto 4, 3) := by decide +kernel
theorem dX8_smallestSet_44 : decode cX8_smallestSet 44 = .ok (.iconst 0, 1) := by decide +kernel
theorem dX8_smallestSet_45 : decode cX8_smallestSet 45 = .ok (.istore 4, 2) := by decide +kernel
theorem dX8_smallestSet_47 : decode cX8_smallestSet 47 = .ok (.iload 4, 2) := by decide +kernel
theorem dX8_smallestSet_49 : decode cX8_smallestSet 49 = .ok (.ifCond .eq 16, 3) := by decide +kernel
theorem dX8_smallestSet_52 : decode cX8_smallestSet 52 = .ok (.aload_n 0, 1) := by decide +kernel
theorem dX8_smallestSet_53 : decode cX8_smallestSet 53 = .ok (.iload_n 3, 1) := by decide +kernel
theorem dX8_smallestSet_54 : decode cX8_smallestSet 54 = .ok (.invokevirtual 220, 3) := by decide +kernel
theorem dX8_smallestSet_57 : decode cX8_smallestSet 57 = .ok (.iload_n 1, 1) := by decide +kernel
theorem dX8_smallestSet_58 : decode cX8_smallestSet 58 = .ok (.if_icmp .ne 7, 3) := by decide +kernel
theorem dX8_smallestSet_61 : decode cX8_smallestSet 61 = .ok (.iload_n 3, 1) := by decide +kernel
theorem dX8_smallestSet_62 : decode cX8_smallestSet 62 = .ok (.goto 4, 3) := by decide +kernel
theorem dX8_smallestSet_65 : decode cX8_smallestSet 65 = .ok (.iload_n 2, 1) := by decide +kernel
theorem dX8_smallestSet_66 : decode cX8_smallestSet 66 = .ok (.istore_n 2, 1) := by decide +kernel
theorem dX8_smallestSet_67 : decode cX8_smallestSet 67 = .ok (.iinc 3 1, 3) := by decide +kernel
theorem dX8_smallestSet_70 : decode cX8_smallestSet 70 = .ok (.goto (-55), 3) := by decide +kernel
theorem dX8_smallestSet_73 : decode cX8_smallestSet 73 = .ok (.iload_n 2, 1) := by decide +kernel
theorem dX8_smallestSet_74 : decode cX8_smallestSet 74 = .ok (.ireturn, 1) := by decide +kernel
theorem dX8_needless_0 : decode cX8_needless 0 = .ok (.iconst 0, 1) := by decide +kernel
theorem dX8_needless_1 : decode cX8_needless 1 = .ok (.istore_n 1, 1) := by decide +kernel
theorem dX8_needless_2 : decode cX8_needless 2 = .ok (.iconst 0, 1) := by decide +kernel
theorem dX8_needless_3 : decode cX8_needless 3 = .ok (.istore_n 2, 1) := by decide +kernel
theorem dX8_needless_4 : decode cX8_needless 4 = .ok (.iload_n 2, 1) := by decide +kernel
theorem dX8_needless_5 : decode cX8_needless 5 = .ok (.aload_n 0, 1) := by decide +kernel
theorem dX8_needless_6 : decode cX8_needless 6 = .ok (.getfield 103, 3) := by decide +kernel
theorem dX8_needless_9 : decode cX8_needless 9 = .ok (.if_icmp .ge 71, 3) := by decide +kernel
theorem dX8_needless_12 : decode cX8_needless 12 = .ok (.aload_n 0, 1) := by decide +kernel
theorem dX8_needless_13 : decode cX8_needless 13 = .ok (.getfield 31, 3) := by decide +kernel
theorem dX8_needless_16 : decode cX8_needless 16 = .ok (.iconst 0, 1) := by decide +kernel
theorem dX8_needless_17 : decode cX8_needless 17 = .ok (.iaload, 1) := by decide +kernel
theorem dX8_needless_18 : decode cX8_needless 18 = .ok (.iload_n 2, 1) := by decide +kernel
theorem dX8_needless_19 : decode cX8_needless 19 = .ok (.invokestatic 160, 3) := by decide +kernel
theorem dX8_needless_22 : decode cX8_needless 22 = .ok (.ifCond .eq 36, 3) := by decide +kernel
theorem dX8_needless_25 : decode cX8_needless 25 = .ok (.aload_n 0, 1) := by decide +kernel
theorem dX8_needless_26 : decode cX8_needless 26 = .ok (.aload_n 0, 1) := by decide +kernel
theorem dX8_needless_27 : decode cX8_needless 27 = .ok (.getfield 31, 3) := by decide +kernel
theorem dX8_needless_30 : decode cX8_needless 30 = .ok (.iconst 0, 1) := by decide +kernel
theorem dX8_needless_31 : decode cX8_needless 31 = .ok (.iaload, 1) := by decide +kernel
theorem dX8_needless_32 : decode cX8_needless 32 = .ok (.iconst 1, 1) := by decide +kernel
theorem dX8_needless_33 : decode cX8_needless 33 = .ok (.iload_n 2, 1) := by decide +kernel
theorem dX8_needless_34 : decode cX8_needless 34 = .ok (.ishl, 1) := by decide +kernel
theorem dX8_needless_35 : decode cX8_needless 35 = .ok (.iconst (-1), 1) := by decide +kernel
theorem dX8_needless_36 : decode cX8_needless 36 = .ok (.ixor, 1) := by decide +kernel
theorem dX8_needless_37 : decode cX8_needless 37 = .ok (.iand, 1) := by decide +kernel
theorem dX8_needless_38 : decode cX8_needless 38 = .ok (.invokevirtual 220, 3) := by decide +kernel
theorem dX8_needless_41 : decode cX8_needless 41 = .ok (.aload_n 0, 1) := by decide +kernel
theorem dX8_needless_42 : decode cX8_needless 42 = .ok (.aload_n 0, 1) := by decide +kernel
theorem dX8_needless_43 : decode cX8_needless 43 = .ok (.getfield 31, 3) := by decide +kernel
theorem dX8_needless_46 : decode cX8_needless 46 = .ok (.iconst 0, 1) := by decide +kernel
theorem dX8_needless_47 : decode cX8_needless 47 = .ok (.iaload, 1) := by decide +kernel
theorem dX8_needless_48 : decode cX8_needless 48 = .ok (.invokevirtual 220, 3) := by decide +kernel
theorem dX8_needless_51 : decode cX8_needless 51 = .ok (.if_icmp .ne 7, 3) := by decide +kernel
theorem dX8_needless_54 : decode cX8_needless 54 = .ok (.iconst 1, 1) := by decide +kernel
theorem dX8_needless_55 : decode cX8_needless 55 = .ok (.goto 4, 3) := by decide +kernel
theorem dX8_needless_58 : decode cX8_needless 58 = .ok (.iconst 0, 1) := by decide +kernel
theorem dX8_needless_59 : decode cX8_needless 59 = .ok (.istore_n 3, 1) := by decide +kernel
theorem dX8_needless_60 : decode cX8_needless 60 = .ok (.iload_n 1, 1) := by decide +kernel
theorem dX8_needless_61 : decode cX8_needless 61 = .ok (.iload_n 3, 1) := by decide +kernel
theorem dX8_needless_62 : decode cX8_needless 62 = .ok (.ifCond .eq 9, 3) := by decide +kernel
theorem dX8_needless_65 : decode cX8_needless 65 = .ok (.iconst 1, 1) := by decide +kernel
theorem dX8_needless_66 : decode cX8_needless 66 = .ok (.iload_n 2, 1) := by decide +kernel
theorem dX8_needless_67 : decode cX8_needless 67 = .ok (.ishl, 1) := by decide +kernel
theorem dX8_needless_68 : decode cX8_needless 68 = .ok (.goto 4, 3) := by decide +kernel
theorem dX8_needless_71 : decode cX8_needless 71 = .ok (.iconst 0, 1) := by decide +kernel
theorem dX8_needless_72 : decode cX8_needless 72 = .ok (.ior, 1) := by decide +kernel
theorem dX8_needless_73 : decode cX8_needless 73 = .ok (.istore_n 1, 1) := by decide +kernel
theorem dX8_needless_74 : decode cX8_needless 74 = .ok (.iinc 2 1, 3) := by decide +kernel
theorem dX8_needless_77 : decode cX8_needless 77 = .ok (.goto (-73), 3) := by decide +kernel
theorem dX8_needless_80 : decode cX8_needless 80 = .ok (.iload_n 1, 1) := by decide +kernel
theorem dX8_needless_81 : decode cX8_needless 81 = .ok (.ireturn, 1) := by decide +kernel
theorem dX8_smallest_0 : decode cX8_smallest 0 = .ok (.iload_n 1, 1) := by decide +kernel
theorem dX8_smallest_1 : decode cX8_smallest 1 = .ok (.ifCond .ne 10, 3) := by decide +kernel
theorem dX8_smallest_4 : decode cX8_smallest 4 = .ok (.aload_n 0, 1) := by decide +kernel
theorem dX8_smallest_5 : decode cX8_smallest 5 = .ok (.invokevirtual 301, 3) := by decide +kernel
theorem dX8_smallest_8 : decode cX8_smallest 8 = .ok (.goto 17, 3) := by decide +kernel
theorem dX8_smallest_11 : decode cX8_smallest 11 = .ok (.iload_n 1, 1) := by decide +kernel
theorem dX8_smallest_12 : decode cX8_smallest 12 = .ok (.iconst 1, 1) := by decide +kernel
theorem dX8_smallest_13 : decode cX8_smallest 13 = .ok (.if_icmp .ne 10, 3) := by decide +kernel
theorem dX8_smallest_16 : decode cX8_smallest 16 = .ok (.aload_n 0, 1) := by decide +kernel
theorem dX8_smallest_17 : decode cX8_smallest 17 = .ok (.invokevirtual 304, 3) := by decide +kernel
theorem dX8_smallest_20 : decode cX8_smallest 20 = .ok (.goto 5, 3) := by decide +kernel
theorem dX8_smallest_23 : decode cX8_smallest 23 = .ok (.ldc 115, 2) := by decide +kernel
theorem dX8_smallest_25 : decode cX8_smallest 25 = .ok (.ireturn, 1) := by decide +kernel
theorem dX8_better_0 : decode cX8_better 0 = .ok (.aload_n 0, 1) := by decide +kernel
theorem dX8_better_1 : decode cX8_better 1 = .ok (.iload_n 1, 1) := by decide +kernel
theorem dX8_better_2 : decode cX8_better 2 = .ok (.invokevirtual 242, 3) := by decide +kernel
theorem dX8_better_5 : decode cX8_better 5 = .ok (.ifCond .ne 6, 3) := by decide +kernel
theorem dX8_better_8 : decode cX8_better 8 = .ok (.ldc 241, 2) := by decide +kernel
theorem dX8_better_10 : decode cX8_better 10 = .ok (.ireturn, 1) := by decide +kernel
theorem dX8_better_11 : decode cX8_better 11 = .ok (.iload_n 2, 1) := by decide +kernel
theorem dX8_better_12 : decode cX8_better 12 = .ok (.i2l, 1) := by decide +kernel
theorem dX8_better_13 : decode cX8_better 13 = .ok (.lconst 0, 1) := by decide +kernel
theorem dX8_better_14 : decode cX8_better 14 = .ok (.ldc2_w 307, 3) := by decide +kernel
theorem dX8_better_17 : decode cX8_better 17 = .ok (.invokestatic 106, 3) := by decide +kernel
theorem dX8_better_20 : decode cX8_better 20 = .ok (.ifCond .ne 6, 3) := by decide +kernel
theorem dX8_better_23 : decode cX8_better 23 = .ok (.ldc 115, 2) := by decide +kernel
theorem dX8_better_25 : decode cX8_better 25 = .ok (.ireturn, 1) := by decide +kernel
theorem dX8_better_26 : decode cX8_better 26 = .ok (.aload_n 0, 1) := by decide +kernel
theorem dX8_better_27 : decode cX8_better 27 = .ok (.iload_n 1, 1) := by decide +kernel
theorem dX8_better_28 : decode cX8_better 28 = .ok (.invokevirtual 229, 3) := by decide +kernel
theorem dX8_better_31 : decode cX8_better 31 = .ok (.ifCond .eq 6, 3) := by decide +kernel
theorem dX8_better_34 : decode cX8_better 34 = .ok (.ldc 251, 2) := by decide +kernel
theorem dX8_better_36 : decode cX8_better 36 = .ok (.ireturn, 1) := by decide +kernel
theorem dX8_better_37 : decode cX8_better 37 = .ok (.aload_n 0, 1) := by decide +kernel
theorem dX8_better_38 : decode cX8_better 38 = .ok (.iload_n 1, 1) := by decide +kernel
theorem dX8_better_39 : decode cX8_better 39 = .ok (.invokevirtual 232, 3) := by decide +kernel
theorem dX8_better_42 : decode cX8_better 42 = .ok (.ifCond .ne 27, 3) := by decide +kernel
theorem dX8_better_45 : decode cX8_better 45 = .ok (.aload_n 0, 1) := by decide +kernel
theorem dX8_better_46 : decode cX8_better 46 = .ok (.aload_n 0, 1) := by decide +kernel
theorem dX8_better_47 : decode cX8_better 47 = .ok (.getfield 31, 3) := by decide +kernel
theorem dX8_better_50 : decode cX8_better 50 = .ok (.iconst 2, 1) := by decide +kernel
theorem dX8_better_51 : decode cX8_better 51 = .ok (.iload_n 1, 1) := by decide +kernel
theorem dX8_better_52 : decode cX8_better 52 = .ok (.iadd, 1) := by decide +kernel
theorem dX8_better_53 : decode cX8_better 53 = .ok (.iaload, 1) := by decide +kernel
theorem dX8_better_54 : decode cX8_better 54 = .ok (.invokevirtual 245, 3) := by decide +kernel
theorem dX8_better_57 : decode cX8_better 57 = .ok (.aload_n 0, 1) := by decide +kernel
theorem dX8_better_58 : decode cX8_better 58 = .ok (.getfield 196, 3) := by decide +kernel
theorem dX8_better_61 : decode cX8_better 61 = .ok (.iload_n 2, 1) := by decide +kernel
theorem dX8_better_62 : decode cX8_better 62 = .ok (.imul, 1) := by decide +kernel
theorem dX8_better_63 : decode cX8_better 63 = .ok (.bipush 100, 2) := by decide +kernel
theorem dX8_better_65 : decode cX8_better 65 = .ok (.idiv, 1) := by decide +kernel
theorem dX8_better_66 : decode cX8_better 66 = .ok (.if_icmp .le 7, 3) := by decide +kernel
theorem dX8_better_69 : decode cX8_better 69 = .ok (.iconst 1, 1) := by decide +kernel
theorem dX8_better_70 : decode cX8_better 70 = .ok (.goto 4, 3) := by decide +kernel
theorem dX8_better_73 : decode cX8_better 73 = .ok (.iconst 0, 1) := by decide +kernel
theorem dX8_better_74 : decode cX8_better 74 = .ok (.ireturn, 1) := by decide +kernel
theorem dX8_gains_0 : decode cX8_gains 0 = .ok (.aload_n 0, 1) := by decide +kernel
theorem dX8_gains_1 : decode cX8_gains 1 = .ok (.iload_n 1, 1) := by decide +kernel
theorem dX8_gains_2 : decode cX8_gains 2 = .ok (.invokevirtual 242, 3) := by decide +kernel
theorem dX8_gains_5 : decode cX8_gains 5 = .ok (.ifCond .eq 11, 3) := by decide +kernel
theorem dX8_gains_8 : decode cX8_gains 8 = .ok (.aload_n 0, 1) := by decide +kernel
theorem dX8_gains_9 : decode cX8_gains 9 = .ok (.iload_n 2, 1) := by decide +kernel
theorem dX8_gains_10 : decode cX8_gains 10 = .ok (.invokevirtual 270, 3) := by decide +kernel
theorem dX8_gains_13 : decode cX8_gains 13 = .ok (.ifCond .ne 6, 3) := by decide +kernel
theorem dX8_gains_16 : decode cX8_gains 16 = .ok (.ldc 241, 2) := by decide +kernel
theorem dX8_gains_18 : decode cX8_gains 18 = .ok (.ireturn, 1) := by decide +kernel
theorem dX8_gains_19 : decode cX8_gains 19 = .ok (.aload_n 0, 1) := by decide +kernel
theorem dX8_gains_20 : decode cX8_gains 20 = .ok (.iload_n 1, 1) := by decide +kernel
theorem dX8_gains_21 : decode cX8_gains 21 = .ok (.invokevirtual 229, 3) := by decide +kernel
theorem dX8_gains_24 : decode cX8_gains 24 = .ok (.ifCond .eq 6, 3) := by decide +kernel
theorem dX8_gains_27 : decode cX8_gains 27 = .ok (.ldc 251, 2) := by decide +kernel
theorem dX8_gains_29 : decode cX8_gains 29 = .ok (.ireturn, 1) := by decide +kernel
theorem dX8_gains_30 : decode cX8_gains 30 = .ok (.aload_n 0, 1) := by decide +kernel
theorem dX8_gains_31 : decode cX8_gains 31 = .ok (.aload_n 0, 1) := by decide +kernel
theorem dX8_gains_32 : decode cX8_gains 32 = .ok (.getfield 31, 3) := by decide +kernel
theorem dX8_gains_35 : decode cX8_gains 35 = .ok (.iconst 2, 1) := by decide +kernel
theorem dX8_gains_36 : decode cX8_gains 36 = .ok (.iload_n 1, 1) := by decide +kernel
theorem dX8_gains_37 : decode cX8_gains 37 = .ok (.iadd, 1) := by decide +kernel
theorem dX8_gains_38 : decode cX8_gains 38 = .ok (.iaload, 1) := by decide +kernel
theorem dX8_gains_39 : decode cX8_gains 39 = .ok (.invokevirtual 245, 3) := by decide +kernel
theorem dX8_gains_42 : decode cX8_gains 42 = .ok (.aload_n 0, 1) := by decide +kernel
theorem dX8_gains_43 : decode cX8_gains 43 = .ok (.aload_n 0, 1) := by decide +kernel
theorem dX8_gains_44 : decode cX8_gains 44 = .ok (.getfield 31, 3) := by decide +kernel
theorem dX8_gains_47 : decode cX8_gains 47 = .ok (.iconst 2, 1) := by decide +kernel
theorem dX8_gains_48 : decode cX8_gains 48 = .ok (.iload_n 1, 1) := by decide +kernel
theorem dX8_gains_49 : decode cX8_gains 49 = .ok (.iadd, 1) := by decide +kernel
theorem dX8_gains_50 : decode cX8_gains 50 = .ok (.iaload, 1) := by decide +kernel
theorem dX8_gains_51 : decode cX8_gains 51 = .ok (.aload_n 0, 1) := by decide +kernel
theorem dX8_gains_52 : decode cX8_gains 52 = .ok (.iload_n 2, 1) := by decide +kernel
theorem dX8_gains_53 : decode cX8_gains 53 = .ok (.invokevirtual 220, 3) := by decide +kernel
theorem dX8_gains_56 : decode cX8_gains 56 = .ok (.invokevirtual 223, 3) := by decide +kernel
theorem dX8_gains_59 : decode cX8_gains 59 = .ok (.isub, 1) := by decide +kernel
theorem dX8_gains_60 : decode cX8_gains 60 = .ok (.sipush 1000, 3) := by decide +kernel
theorem dX8_gains_63 : decode cX8_gains 63 = .ok (.iadd, 1) := by decide +kernel
theorem dX8_gains_64 : decode cX8_gains 64 = .ok (.ireturn, 1) := by decide +kernel
theorem dX8_free_0 : decode cX8_free 0 = .ok (.aload_n 0, 1) := by decide +kernel
theorem dX8_free_1 : decode cX8_free 1 = .ok (.aload_n 0, 1) := by decide +kernel
theorem dX8_free_2 : decode cX8_free 2 = .ok (.getfield 31, 3) := by decide +kernel
theorem dX8_free_5 : decode cX8_free 5 = .ok (.iconst 0, 1) := by decide +kernel
theorem dX8_free_6 : decode cX8_free 6 = .ok (.iaload, 1) := by decide +kernel
theorem dX8_free_7 : decode cX8_free 7 = .ok (.invokevirtual 220, 3) := by decide +kernel
theorem dX8_free_10 : decode cX8_free 10 = .ok (.aload_n 0, 1) := by decide +kernel
theorem dX8_free_11 : decode cX8_free 11 = .ok (.getfield 31, 3) := by decide +kernel
theorem dX8_free_14 : decode cX8_free 14 = .ok (.iconst 0, 1) := by decide +kernel
theorem dX8_free_15 : decode cX8_free 15 = .ok (.iaload, 1) := by decide +kernel
theorem dX8_free_16 : decode cX8_free 16 = .ok (.iconst (-1), 1) := by decide +kernel
theorem dX8_free_17 : decode cX8_free 17 = .ok (.ixor, 1) := by decide +kernel
theorem dX8_free_18 : decode cX8_free 18 = .ok (.iand, 1) := by decide +kernel
theorem dX8_free_19 : decode cX8_free 19 = .ok (.ireturn, 1) := by decide +kernel
theorem dX8_share_0 : decode cX8_share 0 = .ok (.aload_n 0, 1) := by decide +kernel
theorem dX8_share_1 : decode cX8_share 1 = .ok (.iload_n 1, 1) := by decide +kernel
theorem dX8_share_2 : decode cX8_share 2 = .ok (.invokevirtual 242, 3) := by decide +kernel
theorem dX8_share_5 : decode cX8_share 5 = .ok (.ifCond .ne 6, 3) := by decide +kernel
theorem dX8_share_8 : decode cX8_share 8 = .ok (.ldc 241, 2) := by decide +kernel
theorem dX8_share_10 : decode cX8_share 10 = .ok (.ireturn, 1) := by decide +kernel
theorem dX8_share_11 : decode cX8_share 11 = .ok (.aload_n 0, 1) := by decide +kernel
theorem dX8_share_12 : decode cX8_share 12 = .ok (.iload_n 1, 1) := by decide +kernel
theorem dX8_share_13 : decode cX8_share 13 = .ok (.invokevirtual 229, 3) := by decide +kernel
theorem dX8_share_16 : decode cX8_share 16 = .ok (.ifCond .eq 6, 3) := by decide +kernel
theorem dX8_share_19 : decode cX8_share 19 = .ok (.ldc 251, 2) := by decide +kernel
theorem dX8_share_21 : decode cX8_share 21 = .ok (.ireturn, 1) := by decide +kernel
theorem dX8_share_22 : decode cX8_share 22 = .ok (.iconst 0, 1) := by decide +kernel
theorem dX8_share_23 : decode cX8_share 23 = .ok (.istore_n 2, 1) := by decide +kernel
theorem dX8_share_24 : decode cX8_share 24 = .ok (.iconst 0, 1) := by decide +kernel
theorem dX8_share_25 : decode cX8_share 25 = .ok (.istore_n 3, 1) := by decide +kernel
theorem dX8_share_26 : decode cX8_share 26 = .ok (.iload_n 3, 1) := by decide +kernel
theorem dX8_share_27 : decode cX8_share 27 = .ok (.aload_n 0, 1) := by decide +kernel
theorem dX8_share_28 : decode cX8_share 28 = .ok (.getfield 110, 3) := by decide +kernel
theorem dX8_share_31 : decode cX8_share 31 = .ok (.if_icmp .ge 36, 3) := by decide +kernel
theorem dX8_share_34 : decode cX8_share 34 = .ok (.iload_n 2, 1) := by decide +kernel
theorem dX8_share_35 : decode cX8_share 35 = .ok (.aload_n 0, 1) := by decide +kernel
theorem dX8_share_36 : decode cX8_share 36 = .ok (.iload_n 3, 1) := by decide +kernel
theorem dX8_share_37 : decode cX8_share 37 = .ok (.invokevirtual 229, 3) := by decide +kernel
theorem dX8_share_40 : decode cX8_share 40 = .ok (.ifCond .eq 7, 3) := by decide +kernel
theorem dX8_share_43 : decode cX8_share 43 = .ok (.iconst 0, 1) := by decide +kernel
theorem dX8_share_44 : decode cX8_share 44 = .ok (.goto 15, 3) := by decide +kernel
theorem dX8_share_47 : decode cX8_share 47 = .ok (.aload_n 0, 1) := by decide +kernel
theorem dX8_share_48 : decode cX8_share 48 = .ok (.aload_n 0, 1) := by decide +kernel
theorem dX8_share_49 : decode cX8_share 49 = .ok (.getfield 31, 3) := by decide +kernel
theorem dX8_share_52 : decode cX8_share 52 = .ok (.iconst 2, 1) := by decide +kernel
theorem dX8_share_53 : decode cX8_share 53 = .ok (.iload_n 3, 1) := by decide +kernel
theorem dX8_share_54 : decode cX8_share 54 = .ok (.iadd, 1) := by decide +kernel
theorem dX8_share_55 : decode cX8_share 55 = .ok (.iaload, 1) := by decide +kernel
theorem dX8_share_56 : decode cX8_share 56 = .ok (.invokevirtual 245, 3) := by decide +kernel
theorem dX8_share_59 : decode cX8_share 59 = .ok (.iadd, 1) := by decide +kernel
theorem dX8_share_60 : decode cX8_share 60 = .ok (.istore_n 2, 1) := by decide +kernel
theorem dX8_share_61 : decode cX8_share 61 = .ok (.iinc 3 1, 3) := by decide +kernel
theorem dX8_share_64 : decode cX8_share 64 = .ok (.goto (-38), 3) := by decide +kernel
theorem dX8_share_67 : decode cX8_share 67 = .ok (.iload_n 2, 1) := by decide +kernel
theorem dX8_share_68 : decode cX8_share 68 = .ok (.ifCond .ne 7, 3) := by decide +kernel
theorem dX8_share_71 : decode cX8_share 71 = .ok (.iconst 0, 1) := by decide +kernel
theorem dX8_share_72 : decode cX8_share 72 = .ok (.goto 21, 3) := by decide +kernel
theorem dX8_share_75 : decode cX8_share 75 = .ok (.aload_n 0, 1) := by decide +kernel
theorem dX8_share_76 : decode cX8_share 76 = .ok (.aload_n 0, 1) := by decide +kernel
theorem dX8_share_77 : decode cX8_share 77 = .ok (.getfield 31, 3) := by decide +kernel
theorem dX8_share_80 : decode cX8_share 80 = .ok (.iconst 2, 1) := by decide +kernel
theorem dX8_share_81 : decode cX8_share 81 = .ok (.iload_n 1, 1) := by decide +kernel
theorem dX8_share_82 : decode cX8_share 82 = .ok (.iadd, 1) := by decide +kernel
theorem dX8_share_83 : decode cX8_share 83 = .ok (.iaload, 1) := by decide +kernel
theorem dX8_share_84 : decode cX8_share 84 = .ok (.invokevirtual 245, 3) := by decide +kernel
theorem dX8_share_87 : decode cX8_share 87 = .ok (.sipush 1000, 3) := by decide +kernel
theorem dX8_share_90 : decode cX8_share 90 = .ok (.imul, 1) := by decide +kernel
theorem dX8_share_91 : decode cX8_share 91 = .ok (.iload_n 2, 1) := by decide +kernel
theorem dX8_share_92 : decode cX8_share 92 = .ok (.idiv, 1) := by decide +kernel
theorem dX8_share_93 : decode cX8_share 93 = .ok (.ireturn, 1) := by decide +kernel
theorem dX8_glacier_0 : decode cX8_glacier 0 = .ok (.iload_n 1, 1) := by decide +kernel
theorem dX8_glacier_1 : decode cX8_glacier 1 = .ok (.i2l, 1) := by decide +kernel
theorem dX8_glacier_2 : decode cX8_glacier 2 = .ok (.lconst 0, 1) := by decide +kernel
theorem dX8_glacier_3 : decode cX8_glacier 3 = .ok (.ldc2_w 286, 3) := by decide +kernel
theorem dX8_glacier_6 : decode cX8_glacier 6 = .ok (.invokestatic 106, 3) := by decide +kernel
theorem dX8_glacier_9 : decode cX8_glacier 9 = .ok (.ifCond .ne 6, 3) := by decide +kernel
theorem dX8_glacier_12 : decode cX8_glacier 12 = .ok (.ldc 115, 2) := by decide +kernel
theorem dX8_glacier_14 : decode cX8_glacier 14 = .ok (.ireturn, 1) := by decide +kernel
theorem dX8_glacier_15 : decode cX8_glacier 15 = .ok (.ldc2_w 309, 3) := by decide +kernel
theorem dX8_glacier_18 : decode cX8_glacier 18 = .ok (.lstore_n 2, 1) := by decide +kernel
theorem dX8_glacier_19 : decode cX8_glacier 19 = .ok (.iconst 0, 1) := by decide +kernel
theorem dX8_glacier_20 : decode cX8_glacier 20 = .ok (.istore 4, 2) := by decide +kernel
theorem dX8_glacier_22 : decode cX8_glacier 22 = .ok (.iload 4, 2) := by decide +kernel
theorem dX8_glacier_24 : decode cX8_glacier 24 = .ok (.iload_n 1, 1) := by decide +kernel
theorem dX8_glacier_25 : decode cX8_glacier 25 = .ok (.if_icmp .ge 24, 3) := by decide +kernel
theorem dX8_glacier_28 : decode cX8_glacier 28 = .ok (.lload_n 2, 1) := by decide +kernel
theorem dX8_glacier_29 : decode cX8_glacier 29 = .ok (.bipush 100, 2) := by decide +kernel
theorem dX8_glacier_31 : decode cX8_glacier 31 = .ok (.aload_n 0, 1) := by decide +kernel
theorem dX8_glacier_32 : decode cX8_glacier 32 = .ok (.getfield 196, 3) := by decide +kernel
theorem dX8_glacier_35 : decode cX8_glacier 35 = .ok (.isub, 1) := by decide +kernel
theorem dX8_glacier_36 : decode cX8_glacier 36 = .ok (.i2l, 1) := by decide +kernel
theorem dX8_glacier_37 : decode cX8_glacier 37 = .ok (.lmul, 1) := by decide +kernel
theorem dX8_glacier_38 : decode cX8_glacier 38 = .ok (.ldc2_w 311, 3) := by decide +kernel
theorem dX8_glacier_41 : decode cX8_glacier 41 = .ok (.ldiv, 1) := by decide +kernel
theorem dX8_glacier_42 : decode cX8_glacier 42 = .ok (.lstore_n 2, 1) := by decide +kernel
theorem dX8_glacier_43 : decode cX8_glacier 43 = .ok (.iinc 4 1, 3) := by decide +kernel
theorem dX8_glacier_46 : decode cX8_glacier 46 = .ok (.goto (-24), 3) := by decide +kernel
theorem dX8_glacier_49 : decode cX8_glacier 49 = .ok (.lload_n 2, 1) := by decide +kernel
theorem dX8_glacier_50 : decode cX8_glacier 50 = .ok (.l2i, 1) := by decide +kernel
theorem dX8_glacier_51 : decode cX8_glacier 51 = .ok (.ireturn, 1) := by decide +kernel
theorem dX8_ask_0 : decode cX8_ask 0 = .ok (.aload_n 0, 1) := by decide +kernel
theorem dX8_ask_1 : decode cX8_ask 1 = .ok (.iload_n 1, 1) := by decide +kernel
theorem dX8_ask_2 : decode cX8_ask 2 = .ok (.invokevirtual 270, 3) := by decide +kernel
theorem dX8_ask_5 : decode cX8_ask 5 = .ok (.ifCond .ne 6, 3) := by decide +kernel
theorem dX8_ask_8 : decode cX8_ask 8 = .ok (.ldc 241, 2) := by decide +kernel
theorem dX8_ask_10 : decode cX8_ask 10 = .ok (.ireturn, 1) := by decide +kernel
theorem dX8_ask_11 : decode cX8_ask 11 = .ok (.iload_n 2, 1) := by decide +kernel
theorem dX8_ask_12 : decode cX8_ask 12 = .ok (.i2l, 1) := by decide +kernel
theorem dX8_ask_13 : decode cX8_ask 13 = .ok (.lconst 0, 1) := by decide +kernel
theorem dX8_ask_14 : decode cX8_ask 14 = .ok (.ldc2_w 313, 3) := by decide +kernel
theorem dX8_ask_17 : decode cX8_ask 17 = .ok (.invokestatic 106, 3) := by decide +kernel
theorem dX8_ask_20 : decode cX8_ask 20 = .ok (.ifCond .ne 6, 3) := by decide +kernel
theorem dX8_ask_23 : decode cX8_ask 23 = .ok (.ldc 115, 2) := by decide +kernel
theorem dX8_ask_25 : decode cX8_ask 25 = .ok (.ireturn, 1) := by decide +kernel
theorem dX8_ask_26 : decode cX8_ask 26 = .ok (.aload_n 0, 1) := by decide +kernel
theorem dX8_ask_27 : decode cX8_ask 27 = .ok (.getfield 211, 3) := by decide +kernel
theorem dX8_ask_30 : decode cX8_ask 30 = .ok (.bipush 6, 2) := by decide +kernel
theorem dX8_ask_32 : decode cX8_ask 32 = .ok (.if_icmp .ne 6, 3) := by decide +kernel
theorem dX8_ask_35 : decode cX8_ask 35 = .ok (.ldc 119, 2) := by decide +kernel
theorem dX8_ask_37 : decode cX8_ask 37 = .ok (.ireturn, 1) := by decide +kernel
theorem dX8_ask_38 : decode cX8_ask 38 = .ok (.aload_n 0, 1) := by decide +kernel
theorem dX8_ask_39 : decode cX8_ask 39 = .ok (.getfield 74, 3) := by decide +kernel
theorem dX8_ask_42 : decode cX8_ask 42 = .ok (.aload_n 0, 1) := by decide +kernel
theorem dX8_ask_43 : decode cX8_ask 43 = .ok (.getfield 211, 3) := by decide +kernel
theorem dX8_ask_46 : decode cX8_ask 46 = .ok (.iload_n 1, 1) := by decide +kernel
theorem dX8_ask_47 : decode cX8_ask 47 = .ok (.iastore, 1) := by decide +kernel
theorem dX8_ask_48 : decode cX8_ask 48 = .ok (.aload_n 0, 1) := by decide +kernel
theorem dX8_ask_49 : decode cX8_ask 49 = .ok (.getfield 77, 3) := by decide +kernel
theorem dX8_ask_52 : decode cX8_ask 52 = .ok (.aload_n 0, 1) := by decide +kernel
theorem dX8_ask_53 : decode cX8_ask 53 = .ok (.getfield 211, 3) := by decide +kernel
theorem dX8_ask_56 : decode cX8_ask 56 = .ok (.iload_n 2, 1) := by decide +kernel
theorem dX8_ask_57 : decode cX8_ask 57 = .ok (.iastore, 1) := by decide +kernel
theorem dX8_ask_58 : decode cX8_ask 58 = .ok (.aload_n 0, 1) := by decide +kernel
theorem dX8_ask_59 : decode cX8_ask 59 = .ok (.getfield 80, 3) := by decide +kernel
theorem dX8_ask_62 : decode cX8_ask 62 = .ok (.aload_n 0, 1) := by decide +kernel
theorem dX8_ask_63 : decode cX8_ask 63 = .ok (.getfield 211, 3) := by decide +kernel
theorem dX8_ask_66 : decode cX8_ask 66 = .ok (.iload_n 3, 1) := by decide +kernel
theorem dX8_ask_67 : decode cX8_ask 67 = .ok (.bastore, 1) := by decide +kernel
theorem dX8_ask_68 : decode cX8_ask 68 = .ok (.aload_n 0, 1) := by decide +kernel
theorem dX8_ask_69 : decode cX8_ask 69 = .ok (.dup, 1) := by decide +kernel
theorem dX8_ask_70 : decode cX8_ask 70 = .ok (.getfield 211, 3) := by decide +kernel
theorem dX8_ask_73 : decode cX8_ask 73 = .ok (.iconst 1, 1) := by decide +kernel
theorem dX8_ask_74 : decode cX8_ask 74 = .ok (.iadd, 1) := by decide +kernel
theorem dX8_ask_75 : decode cX8_ask 75 = .ok (.putfield 211, 3) := by decide +kernel
theorem dX8_ask_78 : decode cX8_ask 78 = .ok (.aload_n 0, 1) := by decide +kernel
theorem dX8_ask_79 : decode cX8_ask 79 = .ok (.getfield 211, 3) := by decide +kernel
theorem dX8_ask_82 : decode cX8_ask 82 = .ok (.ireturn, 1) := by decide +kernel
theorem dX8_answers_0 : decode cX8_answers 0 = .ok (.iload_n 0, 1) := by decide +kernel
theorem dX8_answers_1 : decode cX8_answers 1 = .ok (.iload_n 1, 1) := by decide +kernel
theorem dX8_answers_2 : decode cX8_answers 2 = .ok (.iand, 1) := by decide +kernel
theorem dX8_answers_3 : decode cX8_answers 3 = .ok (.istore_n 3, 1) := by decide +kernel
theorem dX8_answers_4 : decode cX8_answers 4 = .ok (.iload_n 2, 1) := by decide +kernel
theorem dX8_answers_5 : decode cX8_answers 5 = .ok (.ifCond .ne 15, 3) := by decide +kernel
theorem dX8_answers_8 : decode cX8_answers 8 = .ok (.iload_n 3, 1) := by decide +kernel
theorem dX8_answers_9 : decode cX8_answers 9 = .ok (.ifCond .eq 7, 3) := by decide +kernel
theorem dX8_answers_12 : decode cX8_answers 12 = .ok (.iconst 1, 1) := by decide +kernel
theorem dX8_answers_13 : decode cX8_answers 13 = .ok (.goto 40, 3) := by decide +kernel
theorem dX8_answers_16 : decode cX8_answers 16 = .ok (.iconst 0, 1) := by decide +kernel
theorem dX8_answers_17 : decode cX8_answers 17 = .ok (.goto 36, 3) := by decide +kernel
theorem dX8_answers_20 : decode cX8_answers 20 = .ok (.iload_n 2, 1) := by decide +kernel
theorem dX8_answers_21 : decode cX8_answers 21 = .ok (.iconst 1, 1) := by decide +kernel
theorem dX8_answers_22 : decode cX8_answers 22 = .ok (.if_icmp .ne 16, 3) := by decide +kernel
theorem dX8_answers_25 : decode cX8_answers 25 = .ok (.iload_n 3, 1) := by decide +kernel
theorem dX8_answers_26 : decode cX8_answers 26 = .ok (.iload_n 1, 1) := by decide +kernel
theorem dX8_answers_27 : decode cX8_answers 27 = .ok (.if_icmp .ne 7, 3) := by decide +kernel
theorem dX8_answers_30 : decode cX8_answers 30 = .ok (.iconst 1, 1) := by decide +kernel
theorem dX8_answers_31 : decode cX8_answers 31 = .ok (.goto 22, 3) := by decide +kernel
theorem dX8_answers_34 : decode cX8_answers 34 = .ok (.iconst 0, 1) := by decide +kernel
theorem dX8_answers_35 : decode cX8_answers 35 = .ok (.goto 18, 3) := by decide +kernel
theorem dX8_answers_38 : decode cX8_answers 38 = .ok (.iload_n 3, 1) := by decide +kernel
theorem dX8_answers_39 : decode cX8_answers 39 = .ok (.invokestatic 298, 3) := by decide +kernel
theorem dX8_answers_42 : decode cX8_answers 42 = .ok (.iload_n 2, 1) := by decide +kernel
theorem dX8_answers_43 : decode cX8_answers 43 = .ok (.iconst 2, 1) := by decide +kernel
theorem dX8_answers_44 : decode cX8_answers 44 = .ok (.isub, 1) := by decide +kernel
theorem dX8_answers_45 : decode cX8_answers 45 = .ok (.if_icmp .ne 7, 3) := by decide +kernel
theorem dX8_answers_48 : decode cX8_answers 48 = .ok (.iconst 1, 1) := by decide +kernel
theorem dX8_answers_49 : decode cX8_answers 49 = .ok (.goto 4, 3) := by decide +kernel
theorem dX8_answers_52 : decode cX8_answers 52 = .ok (.iconst 0, 1) := by decide +kernel
theorem dX8_answers_53 : decode cX8_answers 53 = .ok (.ireturn, 1) := by decide +kernel
theorem dX8_couldBe_0 : decode cX8_couldBe 0 = .ok (.iconst 1, 1) := by decide +kernel
theorem dX8_couldBe_1 : decode cX8_couldBe 1 = .ok (.istore_n 2, 1) := by decide +kernel
theorem dX8_couldBe_2 : decode cX8_couldBe 2 = .ok (.iconst 0, 1) := by decide +kernel
theorem dX8_couldBe_3 : decode cX8_couldBe 3 = .ok (.istore_n 3, 1) := by decide +kernel
theorem dX8_couldBe_4 : decode cX8_couldBe 4 = .ok (.iload_n 3, 1) := by decide +kernel
theorem dX8_couldBe_5 : decode cX8_couldBe 5 = .ok (.aload_n 0, 1) := by decide +kernel
theorem dX8_couldBe_6 : decode cX8_couldBe 6 = .ok (.getfield 211, 3) := by decide +kernel
theorem dX8_couldBe_9 : decode cX8_couldBe 9 = .ok (.if_icmp .ge 44, 3) := by decide +kernel
theorem dX8_couldBe_12 : decode cX8_couldBe 12 = .ok (.iload_n 2, 1) := by decide +kernel
theorem dX8_couldBe_13 : decode cX8_couldBe 13 = .ok (.ifCond .eq 32, 3) := by decide +kernel
theorem dX8_couldBe_16 : decode cX8_couldBe 16 = .ok (.iload_n 1, 1) := by decide +kernel
theorem dX8_couldBe_17 : decode cX8_couldBe 17 = .ok (.aload_n 0, 1) := by decide +kernel
theorem dX8_couldBe_18 : decode cX8_couldBe 18 = .ok (.getfield 74, 3) := by decide +kernel
theorem dX8_couldBe_21 : decode cX8_couldBe 21 = .ok (.iload_n 3, 1) := by decide +kernel
theorem dX8_couldBe_22 : decode cX8_couldBe 22 = .ok (.iaload, 1) := by decide +kernel
theorem dX8_couldBe_23 : decode cX8_couldBe 23 = .ok (.aload_n 0, 1) := by decide +kernel
theorem dX8_couldBe_24 : decode cX8_couldBe 24 = .ok (.getfield 77, 3) := by decide +kernel
theorem dX8_couldBe_27 : decode cX8_couldBe 27 = .ok (.iload_n 3, 1) := by decide +kernel
theorem dX8_couldBe_28 : decode cX8_couldBe 28 = .ok (.iaload, 1) := by decide +kernel
theorem dX8_couldBe_29 : decode cX8_couldBe 29 = .ok (.invokestatic 315, 3) := by decide +kernel
theorem dX8_couldBe_32 : decode cX8_couldBe 32 = .ok (.aload_n 0, 1) := by decide +kernel
theorem dX8_couldBe_33 : decode cX8_couldBe 33 = .ok (.getfield 80, 3) := by decide +kernel
theorem dX8_couldBe_36 : decode cX8_couldBe 36 = .ok (.iload_n 3, 1) := by decide +kernel
theorem dX8_couldBe_37 : decode cX8_couldBe 37 = .ok (.baload, 1) := by decide +kernel
theorem dX8_couldBe_38 : decode cX8_couldBe 38 = .ok (.if_icmp .ne 7, 3) := by decide +kernel
theorem dX8_couldBe_41 : decode cX8_couldBe 41 = .ok (.iconst 1, 1) := by decide +kernel
theorem dX8_couldBe_42 : decode cX8_couldBe 42 = .ok (.goto 4, 3) := by decide +kernel
theorem dX8_couldBe_45 : decode cX8_couldBe 45 = .ok (.iconst 0, 1) := by decide +kernel
theorem dX8_couldBe_46 : decode cX8_couldBe 46 = .ok (.istore_n 2, 1) := by decide +kernel
theorem dX8_couldBe_47 : decode cX8_couldBe 47 = .ok (.iinc 3 1, 3) := by decide +kernel
theorem dX8_couldBe_50 : decode cX8_couldBe 50 = .ok (.goto (-46), 3) := by decide +kernel
theorem dX8_couldBe_53 : decode cX8_couldBe 53 = .ok (.iload_n 2, 1) := by decide +kernel
theorem dX8_couldBe_54 : decode cX8_couldBe 54 = .ok (.ireturn, 1) := by decide +kernel
theorem dX8_minds_0 : decode cX8_minds 0 = .ok (.iload_n 1, 1) := by decide +kernel
theorem dX8_minds_1 : decode cX8_minds 1 = .ok (.i2l, 1) := by decide +kernel
theorem dX8_minds_2 : decode cX8_minds 2 = .ok (.lconst 0, 1) := by decide +kernel
theorem dX8_minds_3 : decode cX8_minds 3 = .ok (.ldc2_w 319, 3) := by decide +kernel
theorem dX8_minds_6 : decode cX8_minds 6 = .ok (.invokestatic 106, 3) := by decide +kernel
theorem dX8_minds_9 : decode cX8_minds 9 = .ok (.ifCond .ne 6, 3) := by decide +kernel
theorem dX8_minds_12 : decode cX8_minds 12 = .ok (.ldc 115, 2) := by decide +kernel
theorem dX8_minds_14 : decode cX8_minds 14 = .ok (.ireturn, 1) := by decide +kernel
theorem dX8_minds_15 : decode cX8_minds 15 = .ok (.iconst 0, 1) := by decide +kernel
theorem dX8_minds_16 : decode cX8_minds 16 = .ok (.istore_n 2, 1) := by decide +kernel
theorem dX8_minds_17 : decode cX8_minds 17 = .ok (.iconst (-1), 1) := by decide +kernel
theorem dX8_minds_18 : decode cX8_minds 18 = .ok (.istore_n 3, 1) := by decide +kernel
theorem dX8_minds_19 : decode cX8_minds 19 = .ok (.iconst 1, 1) := by decide +kernel
theorem dX8_minds_20 : decode cX8_minds 20 = .ok (.aload_n 0, 1) := by decide +kernel
theorem dX8_minds_21 : decode cX8_minds 21 = .ok (.getfield 103, 3) := by decide +kernel
theorem dX8_minds_24 : decode cX8_minds 24 = .ok (.ishl, 1) := by decide +kernel
theorem dX8_minds_25 : decode cX8_minds 25 = .ok (.iconst 1, 1) := by decide +kernel
theorem dX8_minds_26 : decode cX8_minds 26 = .ok (.isub, 1) := by decide +kernel
theorem dX8_minds_27 : decode cX8_minds 27 = .ok (.istore 4, 2) := by decide +kernel
theorem dX8_minds_29 : decode cX8_minds 29 = .ok (.iconst 0, 1) := by decide +kernel
theorem dX8_minds_30 : decode cX8_minds 30 = .ok (.istore 5, 2) := by decide +kernel
theorem dX8_minds_32 : decode cX8_minds 32 = .ok (.iload 5, 2) := by decide +kernel
theorem dX8_minds_34 : decode cX8_minds 34 = .ok (.iconst 1, 1) := by decide +kernel
theorem dX8_minds_35 : decode cX8_minds 35 = .ok (.aload_n 0, 1) := by decide +kernel
theorem dX8_minds_36 : decode cX8_minds 36 = .ok (.getfield 103, 3) := by decide +kernel
theorem dX8_minds_39 : decode cX8_minds 39 = .ok (.ishl, 1) := by decide +kernel
theorem dX8_minds_40 : decode cX8_minds 40 = .ok (.if_icmp .ge 39, 3) := by decide +kernel
theorem dX8_minds_43 : decode cX8_minds 43 = .ok (.aload_n 0, 1) := by decide +kernel
theorem dX8_minds_44 : decode cX8_minds 44 = .ok (.iload 5, 2) := by decide +kernel
theorem dX8_minds_46 : decode cX8_minds 46 = .ok (.invokevirtual 321, 3) := by decide +kernel
theorem dX8_minds_49 : decode cX8_minds 49 = .ok (.ifCond .eq 24, 3) := by decide +kernel
theorem dX8_minds_52 : decode cX8_minds 52 = .ok (.iload_n 2, 1) := by decide +kernel
theorem dX8_minds_53 : decode cX8_minds 53 = .ok (.ifCond .ne 8, 3) := by decide +kernel
theorem dX8_minds_56 : decode cX8_minds 56 = .ok (.iload 5, 2) := by decide +kernel
theorem dX8_minds_58 : decode cX8_minds 58 = .ok (.goto 4, 3) := by decide +kernel
theorem dX8_minds_61 : decode cX8_minds 61 = .ok (.iload_n 3, 1) := by decide +kernel
theorem dX8_minds_62 : decode cX8_minds 62 = .ok (.istore_n 3, 1) := by decide +kernel
theorem dX8_minds_63 : decode cX8_minds 63 = .ok (.iload 4, 2) := by decide +kernel
theorem dX8_minds_65 : decode cX8_minds 65 = .ok (.iload 5, 2) := by decide +kernel
theorem dX8_minds_67 : decode cX8_minds 67 = .ok (.iand, 1) := by decide +kernel
theorem dX8_minds_68 : decode cX8_minds 68 = .ok (.istore 4, 2) := by decide +kernel
theorem dX8_minds_70 : decode cX8_minds 70 = .ok (.iinc 2 1, 3) := by decide +kernel
theorem dX8_minds_73 : decode cX8_minds 73 = .ok (.iinc 5 1, 3) := by decide +kernel
theorem dX8_minds_76 : decode cX8_minds 76 = .ok (.goto (-44), 3) := by decide +kernel
theorem dX8_minds_79 : decode cX8_minds 79 = .ok (.iload_n 1, 1) := by decide +kernel
theorem dX8_minds_80 : decode cX8_minds 80 = .ok (.ifCond .ne 7, 3) := by decide +kernel
theorem dX8_minds_83 : decode cX8_minds 83 = .ok (.iload_n 2, 1) := by decide +kernel
theorem dX8_minds_84 : decode cX8_minds 84 = .ok (.goto 22, 3) := by decide +kernel
theorem dX8_minds_87 : decode cX8_minds 87 = .ok (.iload_n 1, 1) := by decide +kernel
theorem dX8_minds_88 : decode cX8_minds 88 = .ok (.iconst 1, 1) := by decide +kernel
theorem dX8_minds_89 : decode cX8_minds 89 = .ok (.if_icmp .ne 7, 3) := by decide +kernel
theorem dX8_minds_92 : decode cX8_minds 92 = .ok (.iload_n 3, 1) := by decide +kernel
theorem dX8_minds_93 : decode cX8_minds 93 = .ok (.goto 13, 3) := by decide +kernel
theorem dX8_minds_96 : decode cX8_minds 96 = .ok (.iload_n 2, 1) := by decide +kernel
theorem dX8_minds_97 : decode cX8_minds 97 = .ok (.ifCond .ne 7, 3) := by decide +kernel
theorem dX8_minds_100 : decode cX8_minds 100 = .ok (.iconst 0, 1) := by decide +kernel
theorem dX8_minds_101 : decode cX8_minds 101 = .ok (.goto 5, 3) := by decide +kernel
theorem dX8_minds_104 : decode cX8_minds 104 = .ok (.iload 4, 2) := by decide +kernel
theorem dX8_minds_106 : decode cX8_minds 106 = .ok (.ireturn, 1) := by decide +kernel
theorem dX8_askNext_0 : decode cX8_askNext 0 = .ok (.iconst 0, 1) := by decide +kernel
theorem dX8_askNext_1 : decode cX8_askNext 1 = .ok (.istore_n 1, 1) := by decide +kernel
theorem dX8_askNext_2 : decode cX8_askNext 2 = .ok (.iconst 0, 1) := by decide +kernel
theorem dX8_askNext_3 : decode cX8_askNext 3 = .ok (.istore_n 2, 1) := by decide +kernel
theorem dX8_askNext_4 : decode cX8_askNext 4 = .ok (.iload_n 2, 1) := by decide +kernel
theorem dX8_askNext_5 : decode cX8_askNext 5 = .ok (.bipush 8, 2) := by decide +kernel
theorem dX8_askNext_7 : decode cX8_askNext 7 = .ok (.if_icmp .ge 16, 3) := by decide +kernel
theorem dX8_askNext_10 : decode cX8_askNext 10 = .ok (.aload_n 0, 1) := by decide +kernel
theorem dX8_askNext_11 : decode cX8_askNext 11 = .ok (.getfield 84, 3) := by decide +kernel
theorem dX8_askNext_14 : decode cX8_askNext 14 = .ok (.iload_n 2, 1) := by decide +kernel
theorem dX8_askNext_15 : decode cX8_askNext 15 = .ok (.iconst 0, 1) := by decide +kernel
theorem dX8_askNext_16 : decode cX8_askNext 16 = .ok (.iastore, 1) := by decide +kernel
theorem dX8_askNext_17 : decode cX8_askNext 17 = .ok (.iinc 2 1, 3) := by decide +kernel
theorem dX8_askNext_20 : decode cX8_askNext 20 = .ok (.goto (-16), 3) := by decide +kernel
theorem dX8_askNext_23 : decode cX8_askNext 23 = .ok (.iconst 0, 1) := by decide +kernel
theorem dX8_askNext_24 : decode cX8_askNext 24 = .ok (.istore_n 2, 1) := by decide +kernel
theorem dX8_askNext_25 : decode cX8_askNext 25 = .ok (.iload_n 2, 1) := by decide +kernel
theorem dX8_askNext_26 : decode cX8_askNext 26 = .ok (.iconst 1, 1) := by decide +kernel
theorem dX8_askNext_27 : decode cX8_askNext 27 = .ok (.aload_n 0, 1) := by decide +kernel
theorem dX8_askNext_28 : decode cX8_askNext 28 = .ok (.getfield 103, 3) := by decide +kernel
theorem dX8_askNext_31 : decode cX8_askNext 31 = .ok (.ishl, 1) := by decide +kernel
theorem dX8_askNext_32 : decode cX8_askNext 32 = .ok (.if_icmp .ge 48, 3) := by decide +kernel
theorem dX8_askNext_35 : decode cX8_askNext 35 = .ok (.aload_n 0, 1) := by decide +kernel
theorem dX8_askNext_36 : decode cX8_askNext 36 = .ok (.iload_n 2, 1) := by decide +kernel
theorem dX8_askNext_37 : decode cX8_askNext 37 = .ok (.invokevirtual 321, 3) := by decide +kernel
theorem dX8_askNext_40 : decode cX8_askNext 40 = .ok (.ifCond .eq 34, 3) := by decide +kernel
theorem dX8_askNext_43 : decode cX8_askNext 43 = .ok (.iinc 1 1, 3) := by decide +kernel
theorem dX8_askNext_46 : decode cX8_askNext 46 = .ok (.iconst 0, 1) := by decide +kernel
theorem dX8_askNext_47 : decode cX8_askNext 47 = .ok (.istore_n 3, 1) := by decide +kernel
theorem dX8_askNext_48 : decode cX8_askNext 48 = .ok (.iload_n 3, 1) := by decide +kernel
theorem dX8_askNext_49 : decode cX8_askNext 49 = .ok (.bipush 8, 2) := by decide +kernel
theorem dX8_askNext_51 : decode cX8_askNext 51 = .ok (.if_icmp .ge 23, 3) := by decide +kernel
theorem dX8_askNext_54 : decode cX8_askNext 54 = .ok (.aload_n 0, 1) := by decide +kernel
theorem dX8_askNext_55 : decode cX8_askNext 55 = .ok (.getfield 84, 3) := by decide +kernel
theorem dX8_askNext_58 : decode cX8_askNext 58 = .ok (.iload_n 3, 1) := by decide +kernel
theorem dX8_askNext_59 : decode cX8_askNext 59 = .ok (.dup2, 1) := by decide +kernel
theorem dX8_askNext_60 : decode cX8_askNext 60 = .ok (.iaload, 1) := by decide +kernel
theorem dX8_askNext_61 : decode cX8_askNext 61 = .ok (.iload_n 2, 1) := by decide +kernel
theorem dX8_askNext_62 : decode cX8_askNext 62 = .ok (.iload_n 3, 1) := by decide +kernel
theorem dX8_askNext_63 : decode cX8_askNext 63 = .ok (.ishr, 1) := by decide +kernel
theorem dX8_askNext_64 : decode cX8_askNext 64 = .ok (.iconst 1, 1) := by decide +kernel
theorem dX8_askNext_65 : decode cX8_askNext 65 = .ok (.iand, 1) := by decide +kernel
theorem dX8_askNext_66 : decode cX8_askNext 66 = .ok (.iadd, 1) := by decide +kernel
theorem dX8_askNext_67 : decode cX8_askNext 67 = .ok (.iastore, 1) := by decide +kernel
theorem dX8_askNext_68 : decode cX8_askNext 68 = .ok (.iinc 3 1, 3) := by decide +kernel
theorem dX8_askNext_71 : decode cX8_askNext 71 = .ok (.goto (-23), 3) := by decide +kernel
theorem dX8_askNext_74 : decode cX8_askNext 74 = .ok (.iinc 2 1, 3) := by decide +kernel
theorem dX8_askNext_77 : decode cX8_askNext 77 = .ok (.goto (-52), 3) := by decide +kernel
theorem dX8_askNext_80 : decode cX8_askNext 80 = .ok (.iconst (-1), 1) := by decide +kernel
theorem dX8_askNext_81 : decode cX8_askNext 81 = .ok (.istore_n 2, 1) := by decide +kernel
theorem dX8_askNext_82 : decode cX8_askNext 82 = .ok (.iload_n 1, 1) := by decide +kernel
theorem dX8_askNext_83 : decode cX8_askNext 83 = .ok (.istore_n 3, 1) := by decide +kernel
theorem dX8_askNext_84 : decode cX8_askNext 84 = .ok (.iconst 0, 1) := by decide +kernel
theorem dX8_askNext_85 : decode cX8_askNext 85 = .ok (.istore 4, 2) := by decide +kernel
theorem dX8_askNext_87 : decode cX8_askNext 87 = .ok (.iload 4, 2) := by decide +kernel
theorem dX8_askNext_89 : decode cX8_askNext 89 = .ok (.aload_n 0, 1) := by decide +kernel
theorem dX8_askNext_90 : decode cX8_askNext 90 = .ok (.getfield 103, 3) := by decide +kernel
theorem dX8_askNext_93 : decode cX8_askNext 93 = .ok (.if_icmp .ge 75, 3) := by decide +kernel
theorem dX8_askNext_96 : decode cX8_askNext 96 = .ok (.aload_n 0, 1) := by decide +kernel
theorem dX8_askNext_97 : decode cX8_askNext 97 = .ok (.getfield 84, 3) := by decide +kernel
theorem dX8_askNext_100 : decode cX8_askNext 100 = .ok (.iload 4, 2) := by decide +kernel
theorem dX8_askNext_102 : decode cX8_askNext 102 = .ok (.iaload, 1) := by decide +kernel
theorem dX8_askNext_103 : decode cX8_askNext 103 = .ok (.iload_n 1, 1) := by decide +kernel
theorem dX8_askNext_104 : decode cX8_askNext 104 = .ok (.aload_n 0, 1) := by decide +kernel
theorem dX8_askNext_105 : decode cX8_askNext 105 = .ok (.getfield 84, 3) := by decide +kernel
theorem dX8_askNext_108 : decode cX8_askNext 108 = .ok (.iload 4, 2) := by decide +kernel
theorem dX8_askNext_110 : decode cX8_askNext 110 = .ok (.iaload, 1) := by decide +kernel
theorem dX8_askNext_111 : decode cX8_askNext 111 = .ok (.isub, 1) := by decide +kernel
theorem dX8_askNext_112 : decode cX8_askNext 112 = .ok (.if_icmp .le 13, 3) := by decide +kernel
theorem dX8_askNext_115 : decode cX8_askNext 115 = .ok (.aload_n 0, 1) := by decide +kernel
theorem dX8_askNext_116 : decode cX8_askNext 116 = .ok (.getfield 84, 3) := by decide +kernel
theorem dX8_askNext_119 : decode cX8_askNext 119 = .ok (.iload 4, 2) := by decide +kernel
theorem dX8_askNext_121 : decode cX8_askNext 121 = .ok (.iaload, 1) := by decide +kernel
theorem dX8_askNext_122 : decode cX8_askNext 122 = .ok (.goto 12, 3) := by decide +kernel
theorem dX8_askNext_125 : decode cX8_askNext 125 = .ok (.iload_n 1, 1) := by decide +kernel
theorem dX8_askNext_126 : decode cX8_askNext 126 = .ok (.aload_n 0, 1) := by decide +kernel
theorem dX8_askNext_127 : decode cX8_askNext 127 = .ok (.getfield 84, 3) := by decide +kernel
theorem dX8_askNext_130 : decode cX8_askNext 130 = .ok (.iload 4, 2) := by decide +kernel
theorem dX8_askNext_132 : decode cX8_askNext 132 = .ok (.iaload, 1) := by decide +kernel
theorem dX8_askNext_133 : decode cX8_askNext 133 = .ok (.isub, 1) := by decide +kernel
theorem dX8_askNext_134 : decode cX8_askNext 134 = .ok (.istore 5, 2) := by decide +kernel
theorem dX8_askNext_136 : decode cX8_askNext 136 = .ok (.iload 5, 2) := by decide +kernel
theorem dX8_askNext_138 : decode cX8_askNext 138 = .ok (.iload_n 3, 1) := by decide +kernel
theorem dX8_askNext_139 : decode cX8_askNext 139 = .ok (.if_icmp .ge 8, 3) := by decide +kernel
theorem dX8_askNext_142 : decode cX8_askNext 142 = .ok (.iload 4, 2) := by decide +kernel
theorem dX8_askNext_144 : decode cX8_askNext 144 = .ok (.goto 4, 3) := by decide +kernel
theorem dX8_askNext_147 : decode cX8_askNext 147 = .ok (.iload_n 2, 1) := by decide +kernel
theorem dX8_askNext_148 : decode cX8_askNext 148 = .ok (.istore_n 2, 1) := by decide +kernel
theorem dX8_askNext_149 : decode cX8_askNext 149 = .ok (.iload 5, 2) := by decide +kernel
theorem dX8_askNext_151 : decode cX8_askNext 151 = .ok (.iload_n 3, 1) := by decide +kernel
theorem dX8_askNext_152 : decode cX8_askNext 152 = .ok (.if_icmp .ge 8, 3) := by decide +kernel
theorem dX8_askNext_155 : decode cX8_askNext 155 = .ok (.iload 5, 2) := by decide +kernel
theorem dX8_askNext_157 : decode cX8_askNext 157 = .ok (.goto 4, 3) := by decide +kernel
theorem dX8_askNext_160 : decode cX8_askNext 160 = .ok (.iload_n 3, 1) := by decide +kernel
theorem dX8_askNext_161 : decode cX8_askNext 161 = .ok (.istore_n 3, 1) := by decide +kernel
theorem dX8_askNext_162 : decode cX8_askNext 162 = .ok (.iinc 4 1, 3) := by decide +kernel
theorem dX8_askNext_165 : decode cX8_askNext 165 = .ok (.goto (-78), 3) := by decide +kernel
theorem dX8_askNext_168 : decode cX8_askNext 168 = .ok (.iload_n 2, 1) := by decide +kernel
theorem dX8_askNext_169 : decode cX8_askNext 169 = .ok (.ireturn, 1) := by decide +kernel
theorem dX8_write_0 : decode cX8_write 0 = .ok (.aload_n 0, 1) := by decide +kernel
theorem dX8_write_1 : decode cX8_write 1 = .ok (.iload_n 1, 1) := by decide +kernel
theorem dX8_write_2 : decode cX8_write 2 = .ok (.invokevirtual 238, 3) := by decide +kernel
theorem dX8_write_5 : decode cX8_write 5 = .ok (.ifCond .ne 6, 3) := by decide +kernel
theorem dX8_write_8 : decode cX8_write 8 = .ok (.ldc 241, 2) := by decide +kernel
theorem dX8_write_10 : decode cX8_write 10 = .ok (.ireturn, 1) := by decide +kernel
theorem dX8_write_11 : decode cX8_write 11 = .ok (.iload_n 2, 1) := by decide +kernel
theorem dX8_write_12 : decode cX8_write 12 = .ok (.i2l, 1) := by decide +kernel
theorem dX8_write_13 : decode cX8_write 13 = .ok (.lconst 0, 1) := by decide +kernel
theorem dX8_write_14 : decode cX8_write 14 = .ok (.lconst 1, 1) := by decide +kernel
theorem dX8_write_15 : decode cX8_write 15 = .ok (.invokestatic 106, 3) := by decide +kernel
theorem dX8_write_18 : decode cX8_write 18 = .ok (.ifCond .ne 6, 3) := by decide +kernel
theorem dX8_write_21 : decode cX8_write 21 = .ok (.ldc 115, 2) := by decide +kernel
theorem dX8_write_23 : decode cX8_write 23 = .ok (.ireturn, 1) := by decide +kernel
theorem dX8_write_24 : decode cX8_write 24 = .ok (.aload_n 0, 1) := by decide +kernel
theorem dX8_write_25 : decode cX8_write 25 = .ok (.getfield 214, 3) := by decide +kernel
theorem dX8_write_28 : decode cX8_write 28 = .ok (.bipush 15, 2) := by decide +kernel
theorem dX8_write_30 : decode cX8_write 30 = .ok (.if_icmp .ne 6, 3) := by decide +kernel
theorem dX8_write_33 : decode cX8_write 33 = .ok (.ldc 119, 2) := by decide +kernel
theorem dX8_write_35 : decode cX8_write 35 = .ok (.ireturn, 1) := by decide +kernel
theorem dX8_write_36 : decode cX8_write 36 = .ok (.aload_n 0, 1) := by decide +kernel
theorem dX8_write_37 : decode cX8_write 37 = .ok (.getfield 87, 3) := by decide +kernel
theorem dX8_write_40 : decode cX8_write 40 = .ok (.aload_n 0, 1) := by decide +kernel
theorem dX8_write_41 : decode cX8_write 41 = .ok (.getfield 214, 3) := by decide +kernel
theorem dX8_write_44 : decode cX8_write 44 = .ok (.iload_n 1, 1) := by decide +kernel
theorem dX8_write_45 : decode cX8_write 45 = .ok (.iastore, 1) := by decide +kernel
theorem dX8_write_46 : decode cX8_write 46 = .ok (.aload_n 0, 1) := by decide +kernel
theorem dX8_write_47 : decode cX8_write 47 = .ok (.getfield 90, 3) := by decide +kernel
theorem dX8_write_50 : decode cX8_write 50 = .ok (.aload_n 0, 1) := by decide +kernel
theorem dX8_write_51 : decode cX8_write 51 = .ok (.getfield 214, 3) := by decide +kernel
theorem dX8_write_54 : decode cX8_write 54 = .ok (.iload_n 2, 1) := by decide +kernel
theorem dX8_write_55 : decode cX8_write 55 = .ok (.iastore, 1) := by decide +kernel
theorem dX8_write_56 : decode cX8_write 56 = .ok (.aload_n 0, 1) := by decide +kernel
theorem dX8_write_57 : decode cX8_write 57 = .ok (.dup, 1) := by decide +kernel
theorem dX8_write_58 : decode cX8_write 58 = .ok (.getfield 214, 3) := by decide +kernel
theorem dX8_write_61 : decode cX8_write 61 = .ok (.iconst 1, 1) := by decide +kernel
theorem dX8_write_62 : decode cX8_write 62 = .ok (.iadd, 1) := by decide +kernel
theorem dX8_write_63 : decode cX8_write 63 = .ok (.putfield 214, 3) := by decide +kernel
theorem dX8_write_66 : decode cX8_write 66 = .ok (.aload_n 0, 1) := by decide +kernel
theorem dX8_write_67 : decode cX8_write 67 = .ok (.getfield 214, 3) := by decide +kernel
theorem dX8_write_70 : decode cX8_write 70 = .ok (.ireturn, 1) := by decide +kernel
theorem dX8_tear_0 : decode cX8_tear 0 = .ok (.aload_n 0, 1) := by decide +kernel
theorem dX8_tear_1 : decode cX8_tear 1 = .ok (.getfield 211, 3) := by decide +kernel
theorem dX8_tear_4 : decode cX8_tear 4 = .ok (.aload_n 0, 1) := by decide +kernel
theorem dX8_tear_5 : decode cX8_tear 5 = .ok (.getfield 214, 3) := by decide +kernel
theorem dX8_tear_8 : decode cX8_tear 8 = .ok (.iadd, 1) := by decide +kernel
theorem dX8_tear_9 : decode cX8_tear 9 = .ok (.istore_n 1, 1) := by decide +kernel
theorem dX8_tear_10 : decode cX8_tear 10 = .ok (.aload_n 0, 1) := by decide +kernel
theorem dX8_tear_11 : decode cX8_tear 11 = .ok (.iconst 0, 1) := by decide +kernel
theorem dX8_tear_12 : decode cX8_tear 12 = .ok (.putfield 211, 3) := by decide +kernel
theorem dX8_tear_15 : decode cX8_tear 15 = .ok (.aload_n 0, 1) := by decide +kernel
theorem dX8_tear_16 : decode cX8_tear 16 = .ok (.iconst 0, 1) := by decide +kernel
theorem dX8_tear_17 : decode cX8_tear 17 = .ok (.putfield 214, 3) := by decide +kernel
theorem dX8_tear_20 : decode cX8_tear 20 = .ok (.iload_n 1, 1) := by decide +kernel
theorem dX8_tear_21 : decode cX8_tear 21 = .ok (.ireturn, 1) := by decide +kernel
theorem dX8_judge_0 : decode cX8_judge 0 = .ok (.aload_n 0, 1) := by decide +kernel
theorem dX8_judge_1 : decode cX8_judge 1 = .ok (.aload_n 0, 1) := by decide +kernel
theorem dX8_judge_2 : decode cX8_judge 2 = .ok (.getfield 31, 3) := by decide +kernel
theorem dX8_judge_5 : decode cX8_judge 5 = .ok (.iconst 0, 1) := by decide +kernel
theorem dX8_judge_6 : decode cX8_judge 6 = .ok (.iaload, 1) := by decide +kernel
theorem dX8_judge_7 : decode cX8_judge 7 = .ok (.invokevirtual 220, 3) := by decide +kernel
theorem dX8_judge_10 : decode cX8_judge 10 = .ok (.istore_n 1, 1) := by decide +kernel
theorem dX8_judge_11 : decode cX8_judge 11 = .ok (.iconst 0, 1) := by decide +kernel
theorem dX8_judge_12 : decode cX8_judge 12 = .ok (.istore_n 2, 1) := by decide +kernel
theorem dX8_judge_13 : decode cX8_judge 13 = .ok (.iload_n 2, 1) := by decide +kernel
theorem dX8_judge_14 : decode cX8_judge 14 = .ok (.aload_n 0, 1) := by decide +kernel
theorem dX8_judge_15 : decode cX8_judge 15 = .ok (.getfield 214, 3) := by decide +kernel
theorem dX8_judge_18 : decode cX8_judge 18 = .ok (.if_icmp .ge 30, 3) := by decide +kernel
theorem dX8_judge_21 : decode cX8_judge 21 = .ok (.iload_n 1, 1) := by decide +kernel
theorem dX8_judge_22 : decode cX8_judge 22 = .ok (.aload_n 0, 1) := by decide +kernel
theorem dX8_judge_23 : decode cX8_judge 23 = .ok (.getfield 87, 3) := by decide +kernel
theorem dX8_judge_26 : decode cX8_judge 26 = .ok (.iload_n 2, 1) := by decide +kernel
theorem dX8_judge_27 : decode cX8_judge 27 = .ok (.iaload, 1) := by decide +kernel
theorem dX8_judge_28 : decode cX8_judge 28 = .ok (.ishr, 1) := by decide +kernel
theorem dX8_judge_29 : decode cX8_judge 29 = .ok (.iconst 1, 1) := by decide +kernel
theorem dX8_judge_30 : decode cX8_judge 30 = .ok (.iand, 1) := by decide +kernel
theorem dX8_judge_31 : decode cX8_judge 31 = .ok (.aload_n 0, 1) := by decide +kernel
theorem dX8_judge_32 : decode cX8_judge 32 = .ok (.getfield 90, 3) := by decide +kernel
theorem dX8_judge_35 : decode cX8_judge 35 = .ok (.iload_n 2, 1) := by decide +kernel
theorem dX8_judge_36 : decode cX8_judge 36 = .ok (.iaload, 1) := by decide +kernel
theorem dX8_judge_37 : decode cX8_judge 37 = .ok (.if_icmp .eq 5, 3) := by decide +kernel
theorem dX8_judge_40 : decode cX8_judge 40 = .ok (.iload_n 2, 1) := by decide +kernel
theorem dX8_judge_41 : decode cX8_judge 41 = .ok (.ireturn, 1) := by decide +kernel
theorem dX8_judge_42 : decode cX8_judge 42 = .ok (.iinc 2 1, 3) := by decide +kernel
theorem dX8_judge_45 : decode cX8_judge 45 = .ok (.goto (-32), 3) := by decide +kernel
theorem dX8_judge_48 : decode cX8_judge 48 = .ok (.iconst (-1), 1) := by decide +kernel
theorem dX8_judge_49 : decode cX8_judge 49 = .ok (.ireturn, 1) := by decide +kernel
theorem dX8_seed_0 : decode cX8_seed 0 = .ok (.iload_n 1, 1) := by decide +kernel
theorem dX8_seed_1 : decode cX8_seed 1 = .ok (.ifCond .ge 6, 3) := by decide +kernel
theorem dX8_seed_4 : decode cX8_seed 4 = .ok (.ldc 115, 2) := by decide +kernel
theorem dX8_seed_6 : decode cX8_seed 6 = .ok (.ireturn, 1) := by decide +kernel
theorem dX8_seed_7 : decode cX8_seed 7 = .ok (.aload_n 0, 1) := by decide +kernel
theorem dX8_seed_8 : decode cX8_seed 8 = .ok (.getfield 273, 3) := by decide +kernel
theorem dX8_seed_11 : decode cX8_seed 11 = .ok (.istore_n 2, 1) := by decide +kernel
theorem dX8_seed_12 : decode cX8_seed 12 = .ok (.aload_n 0, 1) := by decide +kernel
theorem dX8_seed_13 : decode cX8_seed 13 = .ok (.iload_n 1, 1) := by decide +kernel
theorem dX8_seed_14 : decode cX8_seed 14 = .ok (.putfield 273, 3) := by decide +kernel
theorem dX8_seed_17 : decode cX8_seed 17 = .ok (.iload_n 2, 1) := by decide +kernel
theorem dX8_seed_18 : decode cX8_seed 18 = .ok (.ireturn, 1) := by decide +kernel
theorem dX8_keep_0 : decode cX8_keep 0 = .ok (.iload_n 1, 1) := by decide +kernel
theorem dX8_keep_1 : decode cX8_keep 1 = .ok (.i2l, 1) := by decide +kernel
theorem dX8_keep_2 : decode cX8_keep 2 = .ok (.lconst 0, 1) := by decide +kernel
theorem dX8_keep_3 : decode cX8_keep 3 = .ok (.lconst 1, 1) := by decide +kernel
theorem dX8_keep_4 : decode cX8_keep 4 = .ok (.invokestatic 106, 3) := by decide +kernel
theorem dX8_keep_7 : decode cX8_keep 7 = .ok (.ifCond .ne 6, 3) := by decide +kernel
theorem dX8_keep_10 : decode cX8_keep 10 = .ok (.ldc 241, 2) := by decide +kernel
theorem dX8_keep_12 : decode cX8_keep 12 = .ok (.ireturn, 1) := by decide +kernel
theorem dX8_keep_13 : decode cX8_keep 13 = .ok (.iconst 0, 1) := by decide +kernel
theorem dX8_keep_14 : decode cX8_keep 14 = .ok (.istore_n 2, 1) := by decide +kernel
theorem dX8_keep_15 : decode cX8_keep 15 = .ok (.iload_n 2, 1) := by decide +kernel
theorem dX8_keep_16 : decode cX8_keep 16 = .ok (.bipush 9, 2) := by decide +kernel
theorem dX8_keep_18 : decode cX8_keep 18 = .ok (.if_icmp .ge 26, 3) := by decide +kernel
theorem dX8_keep_21 : decode cX8_keep 21 = .ok (.aload_n 0, 1) := by decide +kernel
theorem dX8_keep_22 : decode cX8_keep 22 = .ok (.getfield 93, 3) := by decide +kernel
theorem dX8_keep_25 : decode cX8_keep 25 = .ok (.bipush 10, 2) := by decide +kernel
theorem dX8_keep_27 : decode cX8_keep 27 = .ok (.iload_n 1, 1) := by decide +kernel
theorem dX8_keep_28 : decode cX8_keep 28 = .ok (.imul, 1) := by decide +kernel
theorem dX8_keep_29 : decode cX8_keep 29 = .ok (.iload_n 2, 1) := by decide +kernel
theorem dX8_keep_30 : decode cX8_keep 30 = .ok (.iadd, 1) := by decide +kernel
theorem dX8_keep_31 : decode cX8_keep 31 = .ok (.aload_n 0, 1) := by decide +kernel
theorem dX8_keep_32 : decode cX8_keep 32 = .ok (.getfield 31, 3) := by decide +kernel
theorem dX8_keep_35 : decode cX8_keep 35 = .ok (.iload_n 2, 1) := by decide +kernel
theorem dX8_keep_36 : decode cX8_keep 36 = .ok (.iaload, 1) := by decide +kernel
theorem dX8_keep_37 : decode cX8_keep 37 = .ok (.iastore, 1) := by decide +kernel
theorem dX8_keep_38 : decode cX8_keep 38 = .ok (.iinc 2 1, 3) := by decide +kernel
theorem dX8_keep_41 : decode cX8_keep 41 = .ok (.goto (-26), 3) := by decide +kernel
theorem dX8_keep_44 : decode cX8_keep 44 = .ok (.aload_n 0, 1) := by decide +kernel
theorem dX8_keep_45 : decode cX8_keep 45 = .ok (.getfield 93, 3) := by decide +kernel
theorem dX8_keep_48 : decode cX8_keep 48 = .ok (.bipush 10, 2) := by decide +kernel
theorem dX8_keep_50 : decode cX8_keep 50 = .ok (.iload_n 1, 1) := by decide +kernel
theorem dX8_keep_51 : decode cX8_keep 51 = .ok (.imul, 1) := by decide +kernel
theorem dX8_keep_52 : decode cX8_keep 52 = .ok (.bipush 9, 2) := by decide +kernel
theorem dX8_keep_54 : decode cX8_keep 54 = .ok (.iadd, 1) := by decide +kernel
theorem dX8_keep_55 : decode cX8_keep 55 = .ok (.aload_n 0, 1) := by decide +kernel
theorem dX8_keep_56 : decode cX8_keep 56 = .ok (.getfield 273, 3) := by decide +kernel
theorem dX8_keep_59 : decode cX8_keep 59 = .ok (.iastore, 1) := by decide +kernel
theorem dX8_keep_60 : decode cX8_keep 60 = .ok (.aload_n 0, 1) := by decide +kernel
theorem dX8_keep_61 : decode cX8_keep 61 = .ok (.getfield 96, 3) := by decide +kernel
theorem dX8_keep_64 : decode cX8_keep 64 = .ok (.iload_n 1, 1) := by decide +kernel
theorem dX8_keep_65 : decode cX8_keep 65 = .ok (.iconst 1, 1) := by decide +kernel
theorem dX8_keep_66 : decode cX8_keep 66 = .ok (.bastore, 1) := by decide +kernel
theorem dX8_keep_67 : decode cX8_keep 67 = .ok (.aload_n 0, 1) := by decide +kernel
theorem dX8_keep_68 : decode cX8_keep 68 = .ok (.iconst 0, 1) := by decide +kernel
theorem dX8_keep_69 : decode cX8_keep 69 = .ok (.putfield 217, 3) := by decide +kernel
theorem dX8_keep_72 : decode cX8_keep 72 = .ok (.iconst 1, 1) := by decide +kernel
theorem dX8_keep_73 : decode cX8_keep 73 = .ok (.ireturn, 1) := by decide +kernel
theorem dX8_goBack_0 : decode cX8_goBack 0 = .ok (.iload_n 1, 1) := by decide +kernel
theorem dX8_goBack_1 : decode cX8_goBack 1 = .ok (.i2l, 1) := by decide +kernel
theorem dX8_goBack_2 : decode cX8_goBack 2 = .ok (.lconst 0, 1) := by decide +kernel
theorem dX8_goBack_3 : decode cX8_goBack 3 = .ok (.lconst 1, 1) := by decide +kernel
theorem dX8_goBack_4 : decode cX8_goBack 4 = .ok (.invokestatic 106, 3) := by decide +kernel
theorem dX8_goBack_7 : decode cX8_goBack 7 = .ok (.ifCond .ne 6, 3) := by decide +kernel
theorem dX8_goBack_10 : decode cX8_goBack 10 = .ok (.ldc 241, 2) := by decide +kernel
theorem dX8_goBack_12 : decode cX8_goBack 12 = .ok (.ireturn, 1) := by decide +kernel
theorem dX8_goBack_13 : decode cX8_goBack 13 = .ok (.aload_n 0, 1) := by decide +kernel
theorem dX8_goBack_14 : decode cX8_goBack 14 = .ok (.getfield 96, 3) := by decide +kernel
theorem dX8_goBack_17 : decode cX8_goBack 17 = .ok (.iload_n 1, 1) := by decide +kernel
theorem dX8_goBack_18 : decode cX8_goBack 18 = .ok (.baload, 1) := by decide +kernel
theorem dX8_goBack_19 : decode cX8_goBack 19 = .ok (.ifCond .ne 6, 3) := by decide +kernel
theorem dX8_goBack_22 : decode cX8_goBack 22 = .ok (.ldc 251, 2) := by decide +kernel
theorem dX8_goBack_24 : decode cX8_goBack 24 = .ok (.ireturn, 1) := by decide +kernel
theorem dX8_goBack_25 : decode cX8_goBack 25 = .ok (.iconst 0, 1) := by decide +kernel
theorem dX8_goBack_26 : decode cX8_goBack 26 = .ok (.istore_n 2, 1) := by decide +kernel
theorem dX8_goBack_27 : decode cX8_goBack 27 = .ok (.iload_n 2, 1) := by decide +kernel
theorem dX8_goBack_28 : decode cX8_goBack 28 = .ok (.bipush 9, 2) := by decide +kernel
theorem dX8_goBack_30 : decode cX8_goBack 30 = .ok (.if_icmp .ge 26, 3) := by decide +kernel
theorem dX8_goBack_33 : decode cX8_goBack 33 = .ok (.aload_n 0, 1) := by decide +kernel
theorem dX8_goBack_34 : decode cX8_goBack 34 = .ok (.getfield 31, 3) := by decide +kernel
theorem dX8_goBack_37 : decode cX8_goBack 37 = .ok (.iload_n 2, 1) := by decide +kernel
theorem dX8_goBack_38 : decode cX8_goBack 38 = .ok (.aload_n 0, 1) := by decide +kernel
theorem dX8_goBack_39 : decode cX8_goBack 39 = .ok (.getfield 93, 3) := by decide +kernel
theorem dX8_goBack_42 : decode cX8_goBack 42 = .ok (.bipush 10, 2) := by decide +kernel
theorem dX8_goBack_44 : decode cX8_goBack 44 = .ok (.iload_n 1, 1) := by decide +kernel
theorem dX8_goBack_45 : decode cX8_goBack 45 = .ok (.imul, 1) := by decide +kernel
theorem dX8_goBack_46 : decode cX8_goBack 46 = .ok (.iload_n 2, 1) := by decide +kernel
theorem dX8_goBack_47 : decode cX8_goBack 47 = .ok (.iadd, 1) := by decide +kernel
theorem dX8_goBack_48 : decode cX8_goBack 48 = .ok (.iaload, 1) := by decide +kernel
theorem dX8_goBack_49 : decode cX8_goBack 49 = .ok (.iastore, 1) := by decide +kernel
theorem dX8_goBack_50 : decode cX8_goBack 50 = .ok (.iinc 2 1, 3) := by decide +kernel
theorem dX8_goBack_53 : decode cX8_goBack 53 = .ok (.goto (-26), 3) := by decide +kernel
theorem dX8_goBack_56 : decode cX8_goBack 56 = .ok (.aload_n 0, 1) := by decide +kernel
theorem dX8_goBack_57 : decode cX8_goBack 57 = .ok (.aload_n 0, 1) := by decide +kernel
theorem dX8_goBack_58 : decode cX8_goBack 58 = .ok (.getfield 93, 3) := by decide +kernel
theorem dX8_goBack_61 : decode cX8_goBack 61 = .ok (.bipush 10, 2) := by decide +kernel
theorem dX8_goBack_63 : decode cX8_goBack 63 = .ok (.iload_n 1, 1) := by decide +kernel
theorem dX8_goBack_64 : decode cX8_goBack 64 = .ok (.imul, 1) := by decide +kernel
theorem dX8_goBack_65 : decode cX8_goBack 65 = .ok (.bipush 9, 2) := by decide +kernel
theorem dX8_goBack_67 : decode cX8_goBack 67 = .ok (.iadd, 1) := by decide +kernel
theorem dX8_goBack_68 : decode cX8_goBack 68 = .ok (.iaload, 1) := by decide +kernel
theorem dX8_goBack_69 : decode cX8_goBack 69 = .ok (.putfield 273, 3) := by decide +kernel
theorem dX8_goBack_72 : decode cX8_goBack 72 = .ok (.aload_n 0, 1) := by decide +kernel
theorem dX8_goBack_73 : decode cX8_goBack 73 = .ok (.iconst 0, 1) := by decide +kernel
theorem dX8_goBack_74 : decode cX8_goBack 74 = .ok (.putfield 217, 3) := by decide +kernel
theorem dX8_goBack_77 : decode cX8_goBack 77 = .ok (.iconst 1, 1) := by decide +kernel
theorem dX8_goBack_78 : decode cX8_goBack 78 = .ok (.ireturn, 1) := by decide +kernel
