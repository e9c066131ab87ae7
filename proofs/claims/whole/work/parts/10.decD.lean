theorem dX7_init_0 : decode cX7_init 0 = .ok (.aload_n 0, 1) := by decide +kernel
theorem dX7_init_1 : decode cX7_init 1 = .ok (.invokespecial 1, 3) := by decide +kernel
theorem dX7_init_4 : decode cX7_init 4 = .ok (.aload_n 0, 1) := by decide +kernel
theorem dX7_init_5 : decode cX7_init 5 = .ok (.new 7, 3) := by decide +kernel
theorem dX7_init_8 : decode cX7_init 8 = .ok (.dup, 1) := by decide +kernel
theorem dX7_init_9 : decode cX7_init 9 = .ok (.invokespecial 9, 3) := by decide +kernel
theorem dX7_init_12 : decode cX7_init 12 = .ok (.putfield 10, 3) := by decide +kernel
theorem dX7_init_15 : decode cX7_init 15 = .ok (.aload_n 0, 1) := by decide +kernel
theorem dX7_init_16 : decode cX7_init 16 = .ok (.new 16, 3) := by decide +kernel
theorem dX7_init_19 : decode cX7_init 19 = .ok (.dup, 1) := by decide +kernel
theorem dX7_init_20 : decode cX7_init 20 = .ok (.invokespecial 18, 3) := by decide +kernel
theorem dX7_init_23 : decode cX7_init 23 = .ok (.putfield 19, 3) := by decide +kernel
theorem dX7_init_26 : decode cX7_init 26 = .ok (.aload_n 0, 1) := by decide +kernel
theorem dX7_init_27 : decode cX7_init 27 = .ok (.new 23, 3) := by decide +kernel
theorem dX7_init_30 : decode cX7_init 30 = .ok (.dup, 1) := by decide +kernel
theorem dX7_init_31 : decode cX7_init 31 = .ok (.invokespecial 25, 3) := by decide +kernel
theorem dX7_init_34 : decode cX7_init 34 = .ok (.putfield 26, 3) := by decide +kernel
theorem dX7_init_37 : decode cX7_init 37 = .ok (.aload_n 0, 1) := by decide +kernel
theorem dX7_init_38 : decode cX7_init 38 = .ok (.new 30, 3) := by decide +kernel
theorem dX7_init_41 : decode cX7_init 41 = .ok (.dup, 1) := by decide +kernel
theorem dX7_init_42 : decode cX7_init 42 = .ok (.invokespecial 32, 3) := by decide +kernel
theorem dX7_init_45 : decode cX7_init 45 = .ok (.putfield 33, 3) := by decide +kernel
theorem dX7_init_48 : decode cX7_init 48 = .ok (.aload_n 0, 1) := by decide +kernel
theorem dX7_init_49 : decode cX7_init 49 = .ok (.new 37, 3) := by decide +kernel
theorem dX7_init_52 : decode cX7_init 52 = .ok (.dup, 1) := by decide +kernel
theorem dX7_init_53 : decode cX7_init 53 = .ok (.invokespecial 39, 3) := by decide +kernel
theorem dX7_init_56 : decode cX7_init 56 = .ok (.putfield 40, 3) := by decide +kernel
theorem dX7_init_59 : decode cX7_init 59 = .ok (.aload_n 0, 1) := by decide +kernel
theorem dX7_init_60 : decode cX7_init 60 = .ok (.new 44, 3) := by decide +kernel
theorem dX7_init_63 : decode cX7_init 63 = .ok (.dup, 1) := by decide +kernel
theorem dX7_init_64 : decode cX7_init 64 = .ok (.invokespecial 46, 3) := by decide +kernel
theorem dX7_init_67 : decode cX7_init 67 = .ok (.putfield 47, 3) := by decide +kernel
theorem dX7_init_70 : decode cX7_init 70 = .ok (.aload_n 0, 1) := by decide +kernel
theorem dX7_init_71 : decode cX7_init 71 = .ok (.bipush 8, 2) := by decide +kernel
theorem dX7_init_73 : decode cX7_init 73 = .ok (.newarray .int, 2) := by decide +kernel
theorem dX7_init_75 : decode cX7_init 75 = .ok (.putfield 51, 3) := by decide +kernel
theorem dX7_init_78 : decode cX7_init 78 = .ok (.aload_n 0, 1) := by decide +kernel
theorem dX7_init_79 : decode cX7_init 79 = .ok (.new 55, 3) := by decide +kernel
theorem dX7_init_82 : decode cX7_init 82 = .ok (.dup, 1) := by decide +kernel
theorem dX7_init_83 : decode cX7_init 83 = .ok (.invokespecial 57, 3) := by decide +kernel
theorem dX7_init_86 : decode cX7_init 86 = .ok (.putfield 58, 3) := by decide +kernel
theorem dX7_init_89 : decode cX7_init 89 = .ok (.return_, 1) := by decide +kernel
theorem dX7_feed_0 : decode cX7_feed 0 = .ok (.iload_n 1, 1) := by decide +kernel
theorem dX7_feed_1 : decode cX7_feed 1 = .ok (.ifCond .lt 10, 3) := by decide +kernel
theorem dX7_feed_4 : decode cX7_feed 4 = .ok (.iload_n 1, 1) := by decide +kernel
theorem dX7_feed_5 : decode cX7_feed 5 = .ok (.sipush 255, 3) := by decide +kernel
theorem dX7_feed_8 : decode cX7_feed 8 = .ok (.if_icmp .le 6, 3) := by decide +kernel
theorem dX7_feed_11 : decode cX7_feed 11 = .ok (.ldc 62, 2) := by decide +kernel
theorem dX7_feed_13 : decode cX7_feed 13 = .ok (.ireturn, 1) := by decide +kernel
theorem dX7_feed_14 : decode cX7_feed 14 = .ok (.aload_n 0, 1) := by decide +kernel
theorem dX7_feed_15 : decode cX7_feed 15 = .ok (.getfield 10, 3) := by decide +kernel
theorem dX7_feed_18 : decode cX7_feed 18 = .ok (.iload_n 1, 1) := by decide +kernel
theorem dX7_feed_19 : decode cX7_feed 19 = .ok (.invokevirtual 63, 3) := by decide +kernel
theorem dX7_feed_22 : decode cX7_feed 22 = .ok (.ifCond .eq 13, 3) := by decide +kernel
theorem dX7_feed_25 : decode cX7_feed 25 = .ok (.aload_n 0, 1) := by decide +kernel
theorem dX7_feed_26 : decode cX7_feed 26 = .ok (.getfield 10, 3) := by decide +kernel
theorem dX7_feed_29 : decode cX7_feed 29 = .ok (.getfield 67, 3) := by decide +kernel
theorem dX7_feed_32 : decode cX7_feed 32 = .ok (.goto 5, 3) := by decide +kernel
theorem dX7_feed_35 : decode cX7_feed 35 = .ok (.ldc 71, 2) := by decide +kernel
theorem dX7_feed_37 : decode cX7_feed 37 = .ok (.ireturn, 1) := by decide +kernel
theorem dX7_thePass_0 : decode cX7_thePass 0 = .ok (.aload_n 0, 1) := by decide +kernel
theorem dX7_thePass_1 : decode cX7_thePass 1 = .ok (.getfield 10, 3) := by decide +kernel
theorem dX7_thePass_4 : decode cX7_thePass 4 = .ok (.invokevirtual 72, 3) := by decide +kernel
theorem dX7_thePass_7 : decode cX7_thePass 7 = .ok (.istore_n 1, 1) := by decide +kernel
theorem dX7_thePass_8 : decode cX7_thePass 8 = .ok (.aload_n 0, 1) := by decide +kernel
theorem dX7_thePass_9 : decode cX7_thePass 9 = .ok (.getfield 10, 3) := by decide +kernel
theorem dX7_thePass_12 : decode cX7_thePass 12 = .ok (.iconst 0, 1) := by decide +kernel
theorem dX7_thePass_13 : decode cX7_thePass 13 = .ok (.putfield 67, 3) := by decide +kernel
theorem dX7_thePass_16 : decode cX7_thePass 16 = .ok (.iload_n 1, 1) := by decide +kernel
theorem dX7_thePass_17 : decode cX7_thePass 17 = .ok (.ifCond .ne 14, 3) := by decide +kernel
theorem dX7_thePass_20 : decode cX7_thePass 20 = .ok (.bipush (-10), 2) := by decide +kernel
theorem dX7_thePass_22 : decode cX7_thePass 22 = .ok (.aload_n 0, 1) := by decide +kernel
theorem dX7_thePass_23 : decode cX7_thePass 23 = .ok (.getfield 10, 3) := by decide +kernel
theorem dX7_thePass_26 : decode cX7_thePass 26 = .ok (.getfield 76, 3) := by decide +kernel
theorem dX7_thePass_29 : decode cX7_thePass 29 = .ok (.isub, 1) := by decide +kernel
theorem dX7_thePass_30 : decode cX7_thePass 30 = .ok (.ireturn, 1) := by decide +kernel
theorem dX7_thePass_31 : decode cX7_thePass 31 = .ok (.aload_n 0, 1) := by decide +kernel
theorem dX7_thePass_32 : decode cX7_thePass 32 = .ok (.aload_n 0, 1) := by decide +kernel
theorem dX7_thePass_33 : decode cX7_thePass 33 = .ok (.getfield 10, 3) := by decide +kernel
theorem dX7_thePass_36 : decode cX7_thePass 36 = .ok (.aload_n 0, 1) := by decide +kernel
theorem dX7_thePass_37 : decode cX7_thePass 37 = .ok (.getfield 58, 3) := by decide +kernel
theorem dX7_thePass_40 : decode cX7_thePass 40 = .ok (.invokevirtual 79, 3) := by decide +kernel
theorem dX7_thePass_43 : decode cX7_thePass 43 = .ok (.putfield 58, 3) := by decide +kernel
theorem dX7_thePass_46 : decode cX7_thePass 46 = .ok (.aload_n 0, 1) := by decide +kernel
theorem dX7_thePass_47 : decode cX7_thePass 47 = .ok (.getfield 58, 3) := by decide +kernel
theorem dX7_thePass_50 : decode cX7_thePass 50 = .ok (.invokevirtual 83, 3) := by decide +kernel
theorem dX7_thePass_53 : decode cX7_thePass 53 = .ok (.aload_n 0, 1) := by decide +kernel
theorem dX7_thePass_54 : decode cX7_thePass 54 = .ok (.getfield 19, 3) := by decide +kernel
theorem dX7_thePass_57 : decode cX7_thePass 57 = .ok (.aload_n 0, 1) := by decide +kernel
theorem dX7_thePass_58 : decode cX7_thePass 58 = .ok (.getfield 58, 3) := by decide +kernel
theorem dX7_thePass_61 : decode cX7_thePass 61 = .ok (.invokevirtual 86, 3) := by decide +kernel
theorem dX7_thePass_64 : decode cX7_thePass 64 = .ok (.aload_n 0, 1) := by decide +kernel
theorem dX7_thePass_65 : decode cX7_thePass 65 = .ok (.getfield 26, 3) := by decide +kernel
theorem dX7_thePass_68 : decode cX7_thePass 68 = .ok (.iconst 0, 1) := by decide +kernel
theorem dX7_thePass_69 : decode cX7_thePass 69 = .ok (.putfield 90, 3) := by decide +kernel
theorem dX7_thePass_72 : decode cX7_thePass 72 = .ok (.aload_n 0, 1) := by decide +kernel
theorem dX7_thePass_73 : decode cX7_thePass 73 = .ok (.getfield 33, 3) := by decide +kernel
theorem dX7_thePass_76 : decode cX7_thePass 76 = .ok (.invokevirtual 93, 3) := by decide +kernel
theorem dX7_thePass_79 : decode cX7_thePass 79 = .ok (.aload_n 0, 1) := by decide +kernel
theorem dX7_thePass_80 : decode cX7_thePass 80 = .ok (.getfield 40, 3) := by decide +kernel
theorem dX7_thePass_83 : decode cX7_thePass 83 = .ok (.iconst 0, 1) := by decide +kernel
theorem dX7_thePass_84 : decode cX7_thePass 84 = .ok (.putfield 96, 3) := by decide +kernel
theorem dX7_thePass_87 : decode cX7_thePass 87 = .ok (.aload_n 0, 1) := by decide +kernel
theorem dX7_thePass_88 : decode cX7_thePass 88 = .ok (.getfield 47, 3) := by decide +kernel
theorem dX7_thePass_91 : decode cX7_thePass 91 = .ok (.iconst 0, 1) := by decide +kernel
theorem dX7_thePass_92 : decode cX7_thePass 92 = .ok (.putfield 97, 3) := by decide +kernel
theorem dX7_thePass_95 : decode cX7_thePass 95 = .ok (.aload_n 0, 1) := by decide +kernel
theorem dX7_thePass_96 : decode cX7_thePass 96 = .ok (.getfield 58, 3) := by decide +kernel
theorem dX7_thePass_99 : decode cX7_thePass 99 = .ok (.getfield 98, 3) := by decide +kernel
theorem dX7_thePass_102 : decode cX7_thePass 102 = .ok (.ireturn, 1) := by decide +kernel
theorem dX7_fault_0 : decode cX7_fault 0 = .ok (.aload_n 0, 1) := by decide +kernel
theorem dX7_fault_1 : decode cX7_fault 1 = .ok (.getfield 10, 3) := by decide +kernel
theorem dX7_fault_4 : decode cX7_fault 4 = .ok (.getfield 101, 3) := by decide +kernel
theorem dX7_fault_7 : decode cX7_fault 7 = .ok (.ireturn, 1) := by decide +kernel
theorem dX7_told_0 : decode cX7_told 0 = .ok (.iload_n 1, 1) := by decide +kernel
theorem dX7_told_1 : decode cX7_told 1 = .ok (.tableswitch 201 0 15 #[79, 87, 95, 103, 111, 119, 127, 135, 143, 148, 156, 161, 169, 177, 185, 193], 79) := by decide +kernel
theorem dX7_told_80 : decode cX7_told 80 = .ok (.aload_n 0, 1) := by decide +kernel
theorem dX7_told_81 : decode cX7_told 81 = .ok (.getfield 58, 3) := by decide +kernel
theorem dX7_told_84 : decode cX7_told 84 = .ok (.getfield 104, 3) := by decide +kernel
theorem dX7_told_87 : decode cX7_told 87 = .ok (.ireturn, 1) := by decide +kernel
theorem dX7_told_88 : decode cX7_told 88 = .ok (.aload_n 0, 1) := by decide +kernel
theorem dX7_told_89 : decode cX7_told 89 = .ok (.getfield 58, 3) := by decide +kernel
theorem dX7_told_92 : decode cX7_told 92 = .ok (.getfield 107, 3) := by decide +kernel
theorem dX7_told_95 : decode cX7_told 95 = .ok (.ireturn, 1) := by decide +kernel
theorem dX7_told_96 : decode cX7_told 96 = .ok (.aload_n 0, 1) := by decide +kernel
theorem dX7_told_97 : decode cX7_told 97 = .ok (.getfield 58, 3) := by decide +kernel
theorem dX7_told_100 : decode cX7_told 100 = .ok (.getfield 98, 3) := by decide +kernel
theorem dX7_told_103 : decode cX7_told 103 = .ok (.ireturn, 1) := by decide +kernel
theorem dX7_told_104 : decode cX7_told 104 = .ok (.aload_n 0, 1) := by decide +kernel
theorem dX7_told_105 : decode cX7_told 105 = .ok (.getfield 58, 3) := by decide +kernel
theorem dX7_told_108 : decode cX7_told 108 = .ok (.getfield 110, 3) := by decide +kernel
theorem dX7_told_111 : decode cX7_told 111 = .ok (.ireturn, 1) := by decide +kernel
theorem dX7_told_112 : decode cX7_told 112 = .ok (.aload_n 0, 1) := by decide +kernel
theorem dX7_told_113 : decode cX7_told 113 = .ok (.getfield 58, 3) := by decide +kernel
theorem dX7_told_116 : decode cX7_told 116 = .ok (.getfield 113, 3) := by decide +kernel
theorem dX7_told_119 : decode cX7_told 119 = .ok (.ireturn, 1) := by decide +kernel
theorem dX7_told_120 : decode cX7_told 120 = .ok (.aload_n 0, 1) := by decide +kernel
theorem dX7_told_121 : decode cX7_told 121 = .ok (.getfield 58, 3) := by decide +kernel
theorem dX7_told_124 : decode cX7_told 124 = .ok (.getfield 116, 3) := by decide +kernel
theorem dX7_told_127 : decode cX7_told 127 = .ok (.ireturn, 1) := by decide +kernel
theorem dX7_told_128 : decode cX7_told 128 = .ok (.aload_n 0, 1) := by decide +kernel
theorem dX7_told_129 : decode cX7_told 129 = .ok (.getfield 10, 3) := by decide +kernel
theorem dX7_told_132 : decode cX7_told 132 = .ok (.getfield 67, 3) := by decide +kernel
theorem dX7_told_135 : decode cX7_told 135 = .ok (.ireturn, 1) := by decide +kernel
theorem dX7_told_136 : decode cX7_told 136 = .ok (.aload_n 0, 1) := by decide +kernel
theorem dX7_told_137 : decode cX7_told 137 = .ok (.getfield 19, 3) := by decide +kernel
theorem dX7_told_140 : decode cX7_told 140 = .ok (.getfield 119, 3) := by decide +kernel
theorem dX7_told_143 : decode cX7_told 143 = .ok (.ireturn, 1) := by decide +kernel
theorem dX7_told_144 : decode cX7_told 144 = .ok (.aload_n 0, 1) := by decide +kernel
theorem dX7_told_145 : decode cX7_told 145 = .ok (.invokevirtual 122, 3) := by decide +kernel
theorem dX7_told_148 : decode cX7_told 148 = .ok (.ireturn, 1) := by decide +kernel
theorem dX7_told_149 : decode cX7_told 149 = .ok (.aload_n 0, 1) := by decide +kernel
theorem dX7_told_150 : decode cX7_told 150 = .ok (.getfield 19, 3) := by decide +kernel
theorem dX7_told_153 : decode cX7_told 153 = .ok (.getfield 126, 3) := by decide +kernel
theorem dX7_told_156 : decode cX7_told 156 = .ok (.ireturn, 1) := by decide +kernel
theorem dX7_told_157 : decode cX7_told 157 = .ok (.aload_n 0, 1) := by decide +kernel
theorem dX7_told_158 : decode cX7_told 158 = .ok (.invokevirtual 129, 3) := by decide +kernel
theorem dX7_told_161 : decode cX7_told 161 = .ok (.ireturn, 1) := by decide +kernel
theorem dX7_told_162 : decode cX7_told 162 = .ok (.aload_n 0, 1) := by decide +kernel
theorem dX7_told_163 : decode cX7_told 163 = .ok (.getfield 19, 3) := by decide +kernel
theorem dX7_told_166 : decode cX7_told 166 = .ok (.getfield 132, 3) := by decide +kernel
theorem dX7_told_169 : decode cX7_told 169 = .ok (.ireturn, 1) := by decide +kernel
theorem dX7_told_170 : decode cX7_told 170 = .ok (.aload_n 0, 1) := by decide +kernel
theorem dX7_told_171 : decode cX7_told 171 = .ok (.getfield 19, 3) := by decide +kernel
theorem dX7_told_174 : decode cX7_told 174 = .ok (.getfield 135, 3) := by decide +kernel
theorem dX7_told_177 : decode cX7_told 177 = .ok (.ireturn, 1) := by decide +kernel
theorem dX7_told_178 : decode cX7_told 178 = .ok (.aload_n 0, 1) := by decide +kernel
theorem dX7_told_179 : decode cX7_told 179 = .ok (.getfield 40, 3) := by decide +kernel
theorem dX7_told_182 : decode cX7_told 182 = .ok (.getfield 96, 3) := by decide +kernel
theorem dX7_told_185 : decode cX7_told 185 = .ok (.ireturn, 1) := by decide +kernel
theorem dX7_told_186 : decode cX7_told 186 = .ok (.aload_n 0, 1) := by decide +kernel
theorem dX7_told_187 : decode cX7_told 187 = .ok (.getfield 47, 3) := by decide +kernel
theorem dX7_told_190 : decode cX7_told 190 = .ok (.getfield 97, 3) := by decide +kernel
theorem dX7_told_193 : decode cX7_told 193 = .ok (.ireturn, 1) := by decide +kernel
theorem dX7_told_194 : decode cX7_told 194 = .ok (.aload_n 0, 1) := by decide +kernel
theorem dX7_told_195 : decode cX7_told 195 = .ok (.getfield 26, 3) := by decide +kernel
theorem dX7_told_198 : decode cX7_told 198 = .ok (.getfield 90, 3) := by decide +kernel
theorem dX7_told_201 : decode cX7_told 201 = .ok (.ireturn, 1) := by decide +kernel
theorem dX7_told_202 : decode cX7_told 202 = .ok (.ldc 62, 2) := by decide +kernel
theorem dX7_told_204 : decode cX7_told 204 = .ok (.ireturn, 1) := by decide +kernel
theorem dX7_size_0 : decode cX7_size 0 = .ok (.aload_n 0, 1) := by decide +kernel
theorem dX7_size_1 : decode cX7_size 1 = .ok (.getfield 58, 3) := by decide +kernel
theorem dX7_size_4 : decode cX7_size 4 = .ok (.iload_n 1, 1) := by decide +kernel
theorem dX7_size_5 : decode cX7_size 5 = .ok (.invokevirtual 138, 3) := by decide +kernel
theorem dX7_size_8 : decode cX7_size 8 = .ok (.ifCond .eq 15, 3) := by decide +kernel
theorem dX7_size_11 : decode cX7_size 11 = .ok (.aload_n 0, 1) := by decide +kernel
theorem dX7_size_12 : decode cX7_size 12 = .ok (.getfield 58, 3) := by decide +kernel
theorem dX7_size_15 : decode cX7_size 15 = .ok (.getfield 141, 3) := by decide +kernel
theorem dX7_size_18 : decode cX7_size 18 = .ok (.iload_n 1, 1) := by decide +kernel
theorem dX7_size_19 : decode cX7_size 19 = .ok (.iaload, 1) := by decide +kernel
theorem dX7_size_20 : decode cX7_size 20 = .ok (.goto 5, 3) := by decide +kernel
theorem dX7_size_23 : decode cX7_size 23 = .ok (.ldc 144, 2) := by decide +kernel
theorem dX7_size_25 : decode cX7_size 25 = .ok (.ireturn, 1) := by decide +kernel
theorem dX7_traveller_0 : decode cX7_traveller 0 = .ok (.aload_n 0, 1) := by decide +kernel
theorem dX7_traveller_1 : decode cX7_traveller 1 = .ok (.getfield 58, 3) := by decide +kernel
theorem dX7_traveller_4 : decode cX7_traveller 4 = .ok (.iload_n 1, 1) := by decide +kernel
theorem dX7_traveller_5 : decode cX7_traveller 5 = .ok (.invokevirtual 145, 3) := by decide +kernel
theorem dX7_traveller_8 : decode cX7_traveller 8 = .ok (.ifCond .ne 6, 3) := by decide +kernel
theorem dX7_traveller_11 : decode cX7_traveller 11 = .ok (.ldc 144, 2) := by decide +kernel
theorem dX7_traveller_13 : decode cX7_traveller 13 = .ok (.ireturn, 1) := by decide +kernel
theorem dX7_traveller_14 : decode cX7_traveller 14 = .ok (.iload_n 2, 1) := by decide +kernel
theorem dX7_traveller_15 : decode cX7_traveller 15 = .ok (.tableswitch 77 0 3 #[29, 38, 54, 60], 29) := by decide +kernel
theorem dX7_traveller_44 : decode cX7_traveller 44 = .ok (.aload_n 0, 1) := by decide +kernel
theorem dX7_traveller_45 : decode cX7_traveller 45 = .ok (.getfield 19, 3) := by decide +kernel
theorem dX7_traveller_48 : decode cX7_traveller 48 = .ok (.iload_n 1, 1) := by decide +kernel
theorem dX7_traveller_49 : decode cX7_traveller 49 = .ok (.invokevirtual 148, 3) := by decide +kernel
theorem dX7_traveller_52 : decode cX7_traveller 52 = .ok (.ireturn, 1) := by decide +kernel
theorem dX7_traveller_53 : decode cX7_traveller 53 = .ok (.aload_n 0, 1) := by decide +kernel
theorem dX7_traveller_54 : decode cX7_traveller 54 = .ok (.getfield 58, 3) := by decide +kernel
theorem dX7_traveller_57 : decode cX7_traveller 57 = .ok (.aload_n 0, 1) := by decide +kernel
theorem dX7_traveller_58 : decode cX7_traveller 58 = .ok (.getfield 19, 3) := by decide +kernel
theorem dX7_traveller_61 : decode cX7_traveller 61 = .ok (.iload_n 1, 1) := by decide +kernel
theorem dX7_traveller_62 : decode cX7_traveller 62 = .ok (.invokevirtual 148, 3) := by decide +kernel
theorem dX7_traveller_65 : decode cX7_traveller 65 = .ok (.invokevirtual 152, 3) := by decide +kernel
theorem dX7_traveller_68 : decode cX7_traveller 68 = .ok (.ireturn, 1) := by decide +kernel
theorem dX7_traveller_69 : decode cX7_traveller 69 = .ok (.aload_n 0, 1) := by decide +kernel
theorem dX7_traveller_70 : decode cX7_traveller 70 = .ok (.iload_n 1, 1) := by decide +kernel
theorem dX7_traveller_71 : decode cX7_traveller 71 = .ok (.invokevirtual 155, 3) := by decide +kernel
theorem dX7_traveller_74 : decode cX7_traveller 74 = .ok (.ireturn, 1) := by decide +kernel
theorem dX7_traveller_75 : decode cX7_traveller 75 = .ok (.aload_n 0, 1) := by decide +kernel
theorem dX7_traveller_76 : decode cX7_traveller 76 = .ok (.getfield 19, 3) := by decide +kernel
theorem dX7_traveller_79 : decode cX7_traveller 79 = .ok (.iload_n 1, 1) := by decide +kernel
theorem dX7_traveller_80 : decode cX7_traveller 80 = .ok (.invokevirtual 158, 3) := by decide +kernel
theorem dX7_traveller_83 : decode cX7_traveller 83 = .ok (.ifCond .eq 7, 3) := by decide +kernel
theorem dX7_traveller_86 : decode cX7_traveller 86 = .ok (.iconst 1, 1) := by decide +kernel
theorem dX7_traveller_87 : decode cX7_traveller 87 = .ok (.goto 4, 3) := by decide +kernel
theorem dX7_traveller_90 : decode cX7_traveller 90 = .ok (.iconst 0, 1) := by decide +kernel
theorem dX7_traveller_91 : decode cX7_traveller 91 = .ok (.ireturn, 1) := by decide +kernel
theorem dX7_traveller_92 : decode cX7_traveller 92 = .ok (.ldc 62, 2) := by decide +kernel
theorem dX7_traveller_94 : decode cX7_traveller 94 = .ok (.ireturn, 1) := by decide +kernel
theorem dX7_pass_0 : decode cX7_pass 0 = .ok (.aload_n 0, 1) := by decide +kernel
theorem dX7_pass_1 : decode cX7_pass 1 = .ok (.getfield 58, 3) := by decide +kernel
theorem dX7_pass_4 : decode cX7_pass 4 = .ok (.iload_n 1, 1) := by decide +kernel
theorem dX7_pass_5 : decode cX7_pass 5 = .ok (.invokevirtual 145, 3) := by decide +kernel
theorem dX7_pass_8 : decode cX7_pass 8 = .ok (.ifCond .ne 6, 3) := by decide +kernel
theorem dX7_pass_11 : decode cX7_pass 11 = .ok (.ldc 144, 2) := by decide +kernel
theorem dX7_pass_13 : decode cX7_pass 13 = .ok (.ireturn, 1) := by decide +kernel
theorem dX7_pass_14 : decode cX7_pass 14 = .ok (.aload_n 0, 1) := by decide +kernel
theorem dX7_pass_15 : decode cX7_pass 15 = .ok (.getfield 19, 3) := by decide +kernel
theorem dX7_pass_18 : decode cX7_pass 18 = .ok (.iload_n 1, 1) := by decide +kernel
theorem dX7_pass_19 : decode cX7_pass 19 = .ok (.invokevirtual 158, 3) := by decide +kernel
theorem dX7_pass_22 : decode cX7_pass 22 = .ok (.ifCond .ne 21, 3) := by decide +kernel
theorem dX7_pass_25 : decode cX7_pass 25 = .ok (.aload_n 0, 1) := by decide +kernel
theorem dX7_pass_26 : decode cX7_pass 26 = .ok (.getfield 58, 3) := by decide +kernel
theorem dX7_pass_29 : decode cX7_pass 29 = .ok (.aload_n 0, 1) := by decide +kernel
theorem dX7_pass_30 : decode cX7_pass 30 = .ok (.getfield 19, 3) := by decide +kernel
theorem dX7_pass_33 : decode cX7_pass 33 = .ok (.iload_n 1, 1) := by decide +kernel
theorem dX7_pass_34 : decode cX7_pass 34 = .ok (.invokevirtual 148, 3) := by decide +kernel
theorem dX7_pass_37 : decode cX7_pass 37 = .ok (.invokevirtual 161, 3) := by decide +kernel
theorem dX7_pass_40 : decode cX7_pass 40 = .ok (.ifCond .eq 6, 3) := by decide +kernel
theorem dX7_pass_43 : decode cX7_pass 43 = .ok (.ldc 164, 2) := by decide +kernel
theorem dX7_pass_45 : decode cX7_pass 45 = .ok (.ireturn, 1) := by decide +kernel
theorem dX7_pass_46 : decode cX7_pass 46 = .ok (.aload_n 0, 1) := by decide +kernel
theorem dX7_pass_47 : decode cX7_pass 47 = .ok (.getfield 26, 3) := by decide +kernel
theorem dX7_pass_50 : decode cX7_pass 50 = .ok (.aload_n 0, 1) := by decide +kernel
theorem dX7_pass_51 : decode cX7_pass 51 = .ok (.getfield 19, 3) := by decide +kernel
theorem dX7_pass_54 : decode cX7_pass 54 = .ok (.invokevirtual 165, 3) := by decide +kernel
theorem dX7_pass_57 : decode cX7_pass 57 = .ok (.aload_n 0, 1) := by decide +kernel
theorem dX7_pass_58 : decode cX7_pass 58 = .ok (.iload_n 1, 1) := by decide +kernel
theorem dX7_pass_59 : decode cX7_pass 59 = .ok (.invokevirtual 169, 3) := by decide +kernel
theorem dX7_pass_62 : decode cX7_pass 62 = .ok (.ireturn, 1) := by decide +kernel
theorem dX7_goRound_0 : decode cX7_goRound 0 = .ok (.aload_n 0, 1) := by decide +kernel
theorem dX7_goRound_1 : decode cX7_goRound 1 = .ok (.getfield 58, 3) := by decide +kernel
theorem dX7_goRound_4 : decode cX7_goRound 4 = .ok (.iload_n 1, 1) := by decide +kernel
theorem dX7_goRound_5 : decode cX7_goRound 5 = .ok (.invokevirtual 145, 3) := by decide +kernel
theorem dX7_goRound_8 : decode cX7_goRound 8 = .ok (.ifCond .ne 6, 3) := by decide +kernel
theorem dX7_goRound_11 : decode cX7_goRound 11 = .ok (.ldc 144, 2) := by decide +kernel
theorem dX7_goRound_13 : decode cX7_goRound 13 = .ok (.ireturn, 1) := by decide +kernel
theorem dX7_goRound_14 : decode cX7_goRound 14 = .ok (.aload_n 0, 1) := by decide +kernel
theorem dX7_goRound_15 : decode cX7_goRound 15 = .ok (.getfield 19, 3) := by decide +kernel
theorem dX7_goRound_18 : decode cX7_goRound 18 = .ok (.iload_n 1, 1) := by decide +kernel
theorem dX7_goRound_19 : decode cX7_goRound 19 = .ok (.invokevirtual 158, 3) := by decide +kernel
theorem dX7_goRound_22 : decode cX7_goRound 22 = .ok (.ifCond .eq 6, 3) := by decide +kernel
theorem dX7_goRound_25 : decode cX7_goRound 25 = .ok (.ldc 164, 2) := by decide +kernel
theorem dX7_goRound_27 : decode cX7_goRound 27 = .ok (.ireturn, 1) := by decide +kernel
theorem dX7_goRound_28 : decode cX7_goRound 28 = .ok (.iload_n 2, 1) := by decide +kernel
theorem dX7_goRound_29 : decode cX7_goRound 29 = .ok (.ifCond .eq 25, 3) := by decide +kernel
theorem dX7_goRound_32 : decode cX7_goRound 32 = .ok (.aload_n 0, 1) := by decide +kernel
theorem dX7_goRound_33 : decode cX7_goRound 33 = .ok (.getfield 19, 3) := by decide +kernel
theorem dX7_goRound_36 : decode cX7_goRound 36 = .ok (.iload_n 1, 1) := by decide +kernel
theorem dX7_goRound_37 : decode cX7_goRound 37 = .ok (.invokevirtual 148, 3) := by decide +kernel
theorem dX7_goRound_40 : decode cX7_goRound 40 = .ok (.aload_n 0, 1) := by decide +kernel
theorem dX7_goRound_41 : decode cX7_goRound 41 = .ok (.invokevirtual 122, 3) := by decide +kernel
theorem dX7_goRound_44 : decode cX7_goRound 44 = .ok (.iconst (-1), 1) := by decide +kernel
theorem dX7_goRound_45 : decode cX7_goRound 45 = .ok (.ixor, 1) := by decide +kernel
theorem dX7_goRound_46 : decode cX7_goRound 46 = .ok (.iand, 1) := by decide +kernel
theorem dX7_goRound_47 : decode cX7_goRound 47 = .ok (.ifCond .eq 7, 3) := by decide +kernel
theorem dX7_goRound_50 : decode cX7_goRound 50 = .ok (.iconst 1, 1) := by decide +kernel
theorem dX7_goRound_51 : decode cX7_goRound 51 = .ok (.goto 4, 3) := by decide +kernel
theorem dX7_goRound_54 : decode cX7_goRound 54 = .ok (.iconst 0, 1) := by decide +kernel
theorem dX7_goRound_55 : decode cX7_goRound 55 = .ok (.istore_n 3, 1) := by decide +kernel
theorem dX7_goRound_56 : decode cX7_goRound 56 = .ok (.aload_n 0, 1) := by decide +kernel
theorem dX7_goRound_57 : decode cX7_goRound 57 = .ok (.getfield 26, 3) := by decide +kernel
theorem dX7_goRound_60 : decode cX7_goRound 60 = .ok (.aload_n 0, 1) := by decide +kernel
theorem dX7_goRound_61 : decode cX7_goRound 61 = .ok (.getfield 19, 3) := by decide +kernel
theorem dX7_goRound_64 : decode cX7_goRound 64 = .ok (.invokevirtual 165, 3) := by decide +kernel
theorem dX7_goRound_67 : decode cX7_goRound 67 = .ok (.aload_n 0, 1) := by decide +kernel
theorem dX7_goRound_68 : decode cX7_goRound 68 = .ok (.getfield 19, 3) := by decide +kernel
theorem dX7_goRound_71 : decode cX7_goRound 71 = .ok (.iload_n 1, 1) := by decide +kernel
theorem dX7_goRound_72 : decode cX7_goRound 72 = .ok (.iload_n 2, 1) := by decide +kernel
theorem dX7_goRound_73 : decode cX7_goRound 73 = .ok (.invokevirtual 172, 3) := by decide +kernel
theorem dX7_goRound_76 : decode cX7_goRound 76 = .ok (.iload_n 3, 1) := by decide +kernel
theorem dX7_goRound_77 : decode cX7_goRound 77 = .ok (.ifCond .eq 7, 3) := by decide +kernel
theorem dX7_goRound_80 : decode cX7_goRound 80 = .ok (.iconst 1, 1) := by decide +kernel
theorem dX7_goRound_81 : decode cX7_goRound 81 = .ok (.goto 4, 3) := by decide +kernel
theorem dX7_goRound_84 : decode cX7_goRound 84 = .ok (.iconst 0, 1) := by decide +kernel
theorem dX7_goRound_85 : decode cX7_goRound 85 = .ok (.ireturn, 1) := by decide +kernel
theorem dX7_talk_0 : decode cX7_talk 0 = .ok (.aload_n 0, 1) := by decide +kernel
theorem dX7_talk_1 : decode cX7_talk 1 = .ok (.getfield 58, 3) := by decide +kernel
theorem dX7_talk_4 : decode cX7_talk 4 = .ok (.iload_n 1, 1) := by decide +kernel
theorem dX7_talk_5 : decode cX7_talk 5 = .ok (.invokevirtual 145, 3) := by decide +kernel
theorem dX7_talk_8 : decode cX7_talk 8 = .ok (.ifCond .eq 25, 3) := by decide +kernel
theorem dX7_talk_11 : decode cX7_talk 11 = .ok (.aload_n 0, 1) := by decide +kernel
theorem dX7_talk_12 : decode cX7_talk 12 = .ok (.getfield 58, 3) := by decide +kernel
theorem dX7_talk_15 : decode cX7_talk 15 = .ok (.iload_n 2, 1) := by decide +kernel
theorem dX7_talk_16 : decode cX7_talk 16 = .ok (.invokevirtual 138, 3) := by decide +kernel
theorem dX7_talk_19 : decode cX7_talk 19 = .ok (.ifCond .eq 14, 3) := by decide +kernel
theorem dX7_talk_22 : decode cX7_talk 22 = .ok (.aload_n 0, 1) := by decide +kernel
theorem dX7_talk_23 : decode cX7_talk 23 = .ok (.getfield 58, 3) := by decide +kernel
theorem dX7_talk_26 : decode cX7_talk 26 = .ok (.iload_n 3, 1) := by decide +kernel
theorem dX7_talk_27 : decode cX7_talk 27 = .ok (.invokevirtual 138, 3) := by decide +kernel
theorem dX7_talk_30 : decode cX7_talk 30 = .ok (.ifCond .ne 6, 3) := by decide +kernel
theorem dX7_talk_33 : decode cX7_talk 33 = .ok (.ldc 144, 2) := by decide +kernel
theorem dX7_talk_35 : decode cX7_talk 35 = .ok (.ireturn, 1) := by decide +kernel
theorem dX7_talk_36 : decode cX7_talk 36 = .ok (.aload_n 0, 1) := by decide +kernel
theorem dX7_talk_37 : decode cX7_talk 37 = .ok (.getfield 58, 3) := by decide +kernel
theorem dX7_talk_40 : decode cX7_talk 40 = .ok (.iload_n 2, 1) := by decide +kernel
theorem dX7_talk_41 : decode cX7_talk 41 = .ok (.iload_n 3, 1) := by decide +kernel
theorem dX7_talk_42 : decode cX7_talk 42 = .ok (.invokevirtual 176, 3) := by decide +kernel
theorem dX7_talk_45 : decode cX7_talk 45 = .ok (.istore 4, 2) := by decide +kernel
theorem dX7_talk_47 : decode cX7_talk 47 = .ok (.aload_n 0, 1) := by decide +kernel
theorem dX7_talk_48 : decode cX7_talk 48 = .ok (.getfield 19, 3) := by decide +kernel
theorem dX7_talk_51 : decode cX7_talk 51 = .ok (.iload_n 1, 1) := by decide +kernel
theorem dX7_talk_52 : decode cX7_talk 52 = .ok (.invokevirtual 158, 3) := by decide +kernel
theorem dX7_talk_55 : decode cX7_talk 55 = .ok (.ifCond .ne 24, 3) := by decide +kernel
theorem dX7_talk_58 : decode cX7_talk 58 = .ok (.aload_n 0, 1) := by decide +kernel
theorem dX7_talk_59 : decode cX7_talk 59 = .ok (.getfield 19, 3) := by decide +kernel
theorem dX7_talk_62 : decode cX7_talk 62 = .ok (.iload_n 1, 1) := by decide +kernel
theorem dX7_talk_63 : decode cX7_talk 63 = .ok (.invokevirtual 148, 3) := by decide +kernel
theorem dX7_talk_66 : decode cX7_talk 66 = .ok (.iconst 1, 1) := by decide +kernel
theorem dX7_talk_67 : decode cX7_talk 67 = .ok (.iload_n 2, 1) := by decide +kernel
theorem dX7_talk_68 : decode cX7_talk 68 = .ok (.ishl, 1) := by decide +kernel
theorem dX7_talk_69 : decode cX7_talk 69 = .ok (.iand, 1) := by decide +kernel
theorem dX7_talk_70 : decode cX7_talk 70 = .ok (.ifCond .eq 9, 3) := by decide +kernel
theorem dX7_talk_73 : decode cX7_talk 73 = .ok (.iload 4, 2) := by decide +kernel
theorem dX7_talk_75 : decode cX7_talk 75 = .ok (.iconst (-1), 1) := by decide +kernel
theorem dX7_talk_76 : decode cX7_talk 76 = .ok (.if_icmp .ne 6, 3) := by decide +kernel
theorem dX7_talk_79 : decode cX7_talk 79 = .ok (.ldc 164, 2) := by decide +kernel
theorem dX7_talk_81 : decode cX7_talk 81 = .ok (.ireturn, 1) := by decide +kernel
theorem dX7_talk_82 : decode cX7_talk 82 = .ok (.aload_n 0, 1) := by decide +kernel
theorem dX7_talk_83 : decode cX7_talk 83 = .ok (.getfield 26, 3) := by decide +kernel
theorem dX7_talk_86 : decode cX7_talk 86 = .ok (.aload_n 0, 1) := by decide +kernel
theorem dX7_talk_87 : decode cX7_talk 87 = .ok (.getfield 19, 3) := by decide +kernel
theorem dX7_talk_90 : decode cX7_talk 90 = .ok (.invokevirtual 165, 3) := by decide +kernel
theorem dX7_talk_93 : decode cX7_talk 93 = .ok (.aload_n 0, 1) := by decide +kernel
theorem dX7_talk_94 : decode cX7_talk 94 = .ok (.getfield 19, 3) := by decide +kernel
theorem dX7_talk_97 : decode cX7_talk 97 = .ok (.iload_n 1, 1) := by decide +kernel
theorem dX7_talk_98 : decode cX7_talk 98 = .ok (.aload_n 0, 1) := by decide +kernel
theorem dX7_talk_99 : decode cX7_talk 99 = .ok (.getfield 19, 3) := by decide +kernel
theorem dX7_talk_102 : decode cX7_talk 102 = .ok (.iload_n 1, 1) := by decide +kernel
theorem dX7_talk_103 : decode cX7_talk 103 = .ok (.invokevirtual 148, 3) := by decide +kernel
theorem dX7_talk_106 : decode cX7_talk 106 = .ok (.iload_n 2, 1) := by decide +kernel
theorem dX7_talk_107 : decode cX7_talk 107 = .ok (.iload_n 3, 1) := by decide +kernel
theorem dX7_talk_108 : decode cX7_talk 108 = .ok (.invokestatic 180, 3) := by decide +kernel
theorem dX7_talk_111 : decode cX7_talk 111 = .ok (.invokevirtual 184, 3) := by decide +kernel
theorem dX7_talk_114 : decode cX7_talk 114 = .ok (.aload_n 0, 1) := by decide +kernel
theorem dX7_talk_115 : decode cX7_talk 115 = .ok (.getfield 19, 3) := by decide +kernel
theorem dX7_talk_118 : decode cX7_talk 118 = .ok (.aload_n 0, 1) := by decide +kernel
theorem dX7_talk_119 : decode cX7_talk 119 = .ok (.getfield 19, 3) := by decide +kernel
theorem dX7_talk_122 : decode cX7_talk 122 = .ok (.getfield 135, 3) := by decide +kernel
theorem dX7_talk_125 : decode cX7_talk 125 = .ok (.iload 4, 2) := by decide +kernel
theorem dX7_talk_127 : decode cX7_talk 127 = .ok (.iadd, 1) := by decide +kernel
theorem dX7_talk_128 : decode cX7_talk 128 = .ok (.ldc 188, 2) := by decide +kernel
theorem dX7_talk_130 : decode cX7_talk 130 = .ok (.invokestatic 189, 3) := by decide +kernel
theorem dX7_talk_133 : decode cX7_talk 133 = .ok (.putfield 135, 3) := by decide +kernel
theorem dX7_talk_136 : decode cX7_talk 136 = .ok (.iload 4, 2) := by decide +kernel
theorem dX7_talk_138 : decode cX7_talk 138 = .ok (.ireturn, 1) := by decide +kernel
theorem dX7_come_0 : decode cX7_come 0 = .ok (.aload_n 0, 1) := by decide +kernel
theorem dX7_come_1 : decode cX7_come 1 = .ok (.getfield 58, 3) := by decide +kernel
theorem dX7_come_4 : decode cX7_come 4 = .ok (.iload_n 1, 1) := by decide +kernel
theorem dX7_come_5 : decode cX7_come 5 = .ok (.invokevirtual 145, 3) := by decide +kernel
theorem dX7_come_8 : decode cX7_come 8 = .ok (.ifCond .eq 14, 3) := by decide +kernel
theorem dX7_come_11 : decode cX7_come 11 = .ok (.aload_n 0, 1) := by decide +kernel
theorem dX7_come_12 : decode cX7_come 12 = .ok (.getfield 58, 3) := by decide +kernel
theorem dX7_come_15 : decode cX7_come 15 = .ok (.iload_n 2, 1) := by decide +kernel
theorem dX7_come_16 : decode cX7_come 16 = .ok (.invokevirtual 194, 3) := by decide +kernel
theorem dX7_come_19 : decode cX7_come 19 = .ok (.ifCond .ne 6, 3) := by decide +kernel
theorem dX7_come_22 : decode cX7_come 22 = .ok (.ldc 144, 2) := by decide +kernel
theorem dX7_come_24 : decode cX7_come 24 = .ok (.ireturn, 1) := by decide +kernel
theorem dX7_come_25 : decode cX7_come 25 = .ok (.aload_n 0, 1) := by decide +kernel
theorem dX7_come_26 : decode cX7_come 26 = .ok (.getfield 19, 3) := by decide +kernel
theorem dX7_come_29 : decode cX7_come 29 = .ok (.iload_n 1, 1) := by decide +kernel
theorem dX7_come_30 : decode cX7_come 30 = .ok (.invokevirtual 158, 3) := by decide +kernel
theorem dX7_come_33 : decode cX7_come 33 = .ok (.ifCond .ne 6, 3) := by decide +kernel
theorem dX7_come_36 : decode cX7_come 36 = .ok (.ldc 164, 2) := by decide +kernel
theorem dX7_come_38 : decode cX7_come 38 = .ok (.ireturn, 1) := by decide +kernel
theorem dX7_come_39 : decode cX7_come 39 = .ok (.aload_n 0, 1) := by decide +kernel
theorem dX7_come_40 : decode cX7_come 40 = .ok (.getfield 26, 3) := by decide +kernel
theorem dX7_come_43 : decode cX7_come 43 = .ok (.aload_n 0, 1) := by decide +kernel
theorem dX7_come_44 : decode cX7_come 44 = .ok (.getfield 19, 3) := by decide +kernel
theorem dX7_come_47 : decode cX7_come 47 = .ok (.invokevirtual 165, 3) := by decide +kernel
theorem dX7_come_50 : decode cX7_come 50 = .ok (.aload_n 0, 1) := by decide +kernel
theorem dX7_come_51 : decode cX7_come 51 = .ok (.getfield 19, 3) := by decide +kernel
theorem dX7_come_54 : decode cX7_come 54 = .ok (.iload_n 1, 1) := by decide +kernel
theorem dX7_come_55 : decode cX7_come 55 = .ok (.iload_n 2, 1) := by decide +kernel
theorem dX7_come_56 : decode cX7_come 56 = .ok (.invokevirtual 197, 3) := by decide +kernel
theorem dX7_come_59 : decode cX7_come 59 = .ok (.aload_n 0, 1) := by decide +kernel
theorem dX7_come_60 : decode cX7_come 60 = .ok (.iload_n 1, 1) := by decide +kernel
theorem dX7_come_61 : decode cX7_come 61 = .ok (.invokevirtual 155, 3) := by decide +kernel
theorem dX7_come_64 : decode cX7_come 64 = .ok (.ireturn, 1) := by decide +kernel
theorem dX7_register_0 : decode cX7_register 0 = .ok (.aload_n 0, 1) := by decide +kernel
theorem dX7_register_1 : decode cX7_register 1 = .ok (.getfield 58, 3) := by decide +kernel
theorem dX7_register_4 : decode cX7_register 4 = .ok (.iload_n 1, 1) := by decide +kernel
theorem dX7_register_5 : decode cX7_register 5 = .ok (.invokevirtual 138, 3) := by decide +kernel
theorem dX7_register_8 : decode cX7_register 8 = .ok (.ifCond .ne 6, 3) := by decide +kernel
theorem dX7_register_11 : decode cX7_register 11 = .ok (.ldc 144, 2) := by decide +kernel
theorem dX7_register_13 : decode cX7_register 13 = .ok (.ireturn, 1) := by decide +kernel
theorem dX7_register_14 : decode cX7_register 14 = .ok (.aload_n 0, 1) := by decide +kernel
theorem dX7_register_15 : decode cX7_register 15 = .ok (.getfield 19, 3) := by decide +kernel
theorem dX7_register_18 : decode cX7_register 18 = .ok (.getfield 119, 3) := by decide +kernel
theorem dX7_register_21 : decode cX7_register 21 = .ok (.iload_n 1, 1) := by decide +kernel
theorem dX7_register_22 : decode cX7_register 22 = .ok (.ishr, 1) := by decide +kernel
theorem dX7_register_23 : decode cX7_register 23 = .ok (.iconst 1, 1) := by decide +kernel
theorem dX7_register_24 : decode cX7_register 24 = .ok (.iand, 1) := by decide +kernel
theorem dX7_register_25 : decode cX7_register 25 = .ok (.istore_n 3, 1) := by decide +kernel
theorem dX7_register_26 : decode cX7_register 26 = .ok (.aload_n 0, 1) := by decide +kernel
theorem dX7_register_27 : decode cX7_register 27 = .ok (.getfield 26, 3) := by decide +kernel
theorem dX7_register_30 : decode cX7_register 30 = .ok (.aload_n 0, 1) := by decide +kernel
theorem dX7_register_31 : decode cX7_register 31 = .ok (.getfield 19, 3) := by decide +kernel
theorem dX7_register_34 : decode cX7_register 34 = .ok (.invokevirtual 165, 3) := by decide +kernel
theorem dX7_register_37 : decode cX7_register 37 = .ok (.iload_n 2, 1) := by decide +kernel
theorem dX7_register_38 : decode cX7_register 38 = .ok (.ifCond .eq 21, 3) := by decide +kernel
theorem dX7_register_41 : decode cX7_register 41 = .ok (.aload_n 0, 1) := by decide +kernel
theorem dX7_register_42 : decode cX7_register 42 = .ok (.getfield 19, 3) := by decide +kernel
theorem dX7_register_45 : decode cX7_register 45 = .ok (.dup, 1) := by decide +kernel
theorem dX7_register_46 : decode cX7_register 46 = .ok (.getfield 119, 3) := by decide +kernel
theorem dX7_register_49 : decode cX7_register 49 = .ok (.iconst 1, 1) := by decide +kernel
theorem dX7_register_50 : decode cX7_register 50 = .ok (.iload_n 1, 1) := by decide +kernel
theorem dX7_register_51 : decode cX7_register 51 = .ok (.ishl, 1) := by decide +kernel
theorem dX7_register_52 : decode cX7_register 52 = .ok (.ior, 1) := by decide +kernel
theorem dX7_register_53 : decode cX7_register 53 = .ok (.putfield 119, 3) := by decide +kernel
theorem dX7_register_56 : decode cX7_register 56 = .ok (.goto 20, 3) := by decide +kernel
theorem dX7_register_59 : decode cX7_register 59 = .ok (.aload_n 0, 1) := by decide +kernel
theorem dX7_register_60 : decode cX7_register 60 = .ok (.getfield 19, 3) := by decide +kernel
theorem dX7_register_63 : decode cX7_register 63 = .ok (.dup, 1) := by decide +kernel
theorem dX7_register_64 : decode cX7_register 64 = .ok (.getfield 119, 3) := by decide +kernel
theorem dX7_register_67 : decode cX7_register 67 = .ok (.iconst 1, 1) := by decide +kernel
theorem dX7_register_68 : decode cX7_register 68 = .ok (.iload_n 1, 1) := by decide +kernel
theorem dX7_register_69 : decode cX7_register 69 = .ok (.ishl, 1) := by decide +kernel
theorem dX7_register_70 : decode cX7_register 70 = .ok (.iconst (-1), 1) := by decide +kernel
theorem dX7_register_71 : decode cX7_register 71 = .ok (.ixor, 1) := by decide +kernel
theorem dX7_register_72 : decode cX7_register 72 = .ok (.iand, 1) := by decide +kernel
theorem dX7_register_73 : decode cX7_register 73 = .ok (.putfield 119, 3) := by decide +kernel
theorem dX7_register_76 : decode cX7_register 76 = .ok (.iload_n 3, 1) := by decide +kernel
theorem dX7_register_77 : decode cX7_register 77 = .ok (.ireturn, 1) := by decide +kernel
theorem dX7_drift_0 : decode cX7_drift 0 = .ok (.iload_n 1, 1) := by decide +kernel
theorem dX7_drift_1 : decode cX7_drift 1 = .ok (.iconst 1, 1) := by decide +kernel
theorem dX7_drift_2 : decode cX7_drift 2 = .ok (.if_icmp .lt 9, 3) := by decide +kernel
theorem dX7_drift_5 : decode cX7_drift 5 = .ok (.iload_n 1, 1) := by decide +kernel
theorem dX7_drift_6 : decode cX7_drift 6 = .ok (.bipush 60, 2) := by decide +kernel
theorem dX7_drift_8 : decode cX7_drift 8 = .ok (.if_icmp .le 6, 3) := by decide +kernel
theorem dX7_drift_11 : decode cX7_drift 11 = .ok (.ldc 62, 2) := by decide +kernel
theorem dX7_drift_13 : decode cX7_drift 13 = .ok (.ireturn, 1) := by decide +kernel
theorem dX7_drift_14 : decode cX7_drift 14 = .ok (.aload_n 0, 1) := by decide +kernel
theorem dX7_drift_15 : decode cX7_drift 15 = .ok (.getfield 58, 3) := by decide +kernel
theorem dX7_drift_18 : decode cX7_drift 18 = .ok (.getfield 200, 3) := by decide +kernel
theorem dX7_drift_21 : decode cX7_drift 21 = .ok (.ifCond .ne 6, 3) := by decide +kernel
theorem dX7_drift_24 : decode cX7_drift 24 = .ok (.ldc 164, 2) := by decide +kernel
theorem dX7_drift_26 : decode cX7_drift 26 = .ok (.ireturn, 1) := by decide +kernel
theorem dX7_drift_27 : decode cX7_drift 27 = .ok (.aload_n 0, 1) := by decide +kernel
theorem dX7_drift_28 : decode cX7_drift 28 = .ok (.getfield 26, 3) := by decide +kernel
theorem dX7_drift_31 : decode cX7_drift 31 = .ok (.aload_n 0, 1) := by decide +kernel
theorem dX7_drift_32 : decode cX7_drift 32 = .ok (.getfield 19, 3) := by decide +kernel
theorem dX7_drift_35 : decode cX7_drift 35 = .ok (.invokevirtual 165, 3) := by decide +kernel
theorem dX7_drift_38 : decode cX7_drift 38 = .ok (.aload_n 0, 1) := by decide +kernel
theorem dX7_drift_39 : decode cX7_drift 39 = .ok (.getfield 58, 3) := by decide +kernel
theorem dX7_drift_42 : decode cX7_drift 42 = .ok (.getfield 116, 3) := by decide +kernel
theorem dX7_drift_45 : decode cX7_drift 45 = .ok (.ifCond .le 30, 3) := by decide +kernel
theorem dX7_drift_48 : decode cX7_drift 48 = .ok (.aload_n 0, 1) := by decide +kernel
theorem dX7_drift_49 : decode cX7_drift 49 = .ok (.getfield 58, 3) := by decide +kernel
theorem dX7_drift_52 : decode cX7_drift 52 = .ok (.getfield 98, 3) := by decide +kernel
theorem dX7_drift_55 : decode cX7_drift 55 = .ok (.ifCond .le 20, 3) := by decide +kernel
theorem dX7_drift_58 : decode cX7_drift 58 = .ok (.iconst 0, 1) := by decide +kernel
theorem dX7_drift_59 : decode cX7_drift 59 = .ok (.istore_n 2, 1) := by decide +kernel
theorem dX7_drift_60 : decode cX7_drift 60 = .ok (.iload_n 2, 1) := by decide +kernel
theorem dX7_drift_61 : decode cX7_drift 61 = .ok (.iload_n 1, 1) := by decide +kernel
theorem dX7_drift_62 : decode cX7_drift 62 = .ok (.if_icmp .ge 13, 3) := by decide +kernel
theorem dX7_drift_65 : decode cX7_drift 65 = .ok (.aload_n 0, 1) := by decide +kernel
theorem dX7_drift_66 : decode cX7_drift 66 = .ok (.invokevirtual 204, 3) := by decide +kernel
theorem dX7_drift_69 : decode cX7_drift 69 = .ok (.iinc 2 1, 3) := by decide +kernel
theorem dX7_drift_72 : decode cX7_drift 72 = .ok (.goto (-12), 3) := by decide +kernel
theorem dX7_drift_75 : decode cX7_drift 75 = .ok (.aload_n 0, 1) := by decide +kernel
theorem dX7_drift_76 : decode cX7_drift 76 = .ok (.getfield 19, 3) := by decide +kernel
theorem dX7_drift_79 : decode cX7_drift 79 = .ok (.getfield 132, 3) := by decide +kernel
theorem dX7_drift_82 : decode cX7_drift 82 = .ok (.ireturn, 1) := by decide +kernel
theorem dX7_undo_0 : decode cX7_undo 0 = .ok (.aload_n 0, 1) := by decide +kernel
theorem dX7_undo_1 : decode cX7_undo 1 = .ok (.getfield 26, 3) := by decide +kernel
theorem dX7_undo_4 : decode cX7_undo 4 = .ok (.getfield 90, 3) := by decide +kernel
theorem dX7_undo_7 : decode cX7_undo 7 = .ok (.ifCond .ne 6, 3) := by decide +kernel
theorem dX7_undo_10 : decode cX7_undo 10 = .ok (.ldc 164, 2) := by decide +kernel
theorem dX7_undo_12 : decode cX7_undo 12 = .ok (.ireturn, 1) := by decide +kernel
theorem dX7_undo_13 : decode cX7_undo 13 = .ok (.aload_n 0, 1) := by decide +kernel
theorem dX7_undo_14 : decode cX7_undo 14 = .ok (.getfield 26, 3) := by decide +kernel
theorem dX7_undo_17 : decode cX7_undo 17 = .ok (.aload_n 0, 1) := by decide +kernel
theorem dX7_undo_18 : decode cX7_undo 18 = .ok (.getfield 19, 3) := by decide +kernel
theorem dX7_undo_21 : decode cX7_undo 21 = .ok (.invokevirtual 207, 3) := by decide +kernel
theorem dX7_undo_24 : decode cX7_undo 24 = .ok (.aload_n 0, 1) := by decide +kernel
theorem dX7_undo_25 : decode cX7_undo 25 = .ok (.getfield 26, 3) := by decide +kernel
theorem dX7_undo_28 : decode cX7_undo 28 = .ok (.getfield 90, 3) := by decide +kernel
theorem dX7_undo_31 : decode cX7_undo 31 = .ok (.ireturn, 1) := by decide +kernel
theorem dX7_follows_0 : decode cX7_follows 0 = .ok (.aload_n 0, 1) := by decide +kernel
theorem dX7_follows_1 : decode cX7_follows 1 = .ok (.getfield 58, 3) := by decide +kernel
theorem dX7_follows_4 : decode cX7_follows 4 = .ok (.iload_n 1, 1) := by decide +kernel
theorem dX7_follows_5 : decode cX7_follows 5 = .ok (.invokevirtual 194, 3) := by decide +kernel
theorem dX7_follows_8 : decode cX7_follows 8 = .ok (.ifCond .eq 14, 3) := by decide +kernel
theorem dX7_follows_11 : decode cX7_follows 11 = .ok (.aload_n 0, 1) := by decide +kernel
theorem dX7_follows_12 : decode cX7_follows 12 = .ok (.getfield 58, 3) := by decide +kernel
theorem dX7_follows_15 : decode cX7_follows 15 = .ok (.iload_n 1, 1) := by decide +kernel
theorem dX7_follows_16 : decode cX7_follows 16 = .ok (.invokevirtual 210, 3) := by decide +kernel
theorem dX7_follows_19 : decode cX7_follows 19 = .ok (.goto 5, 3) := by decide +kernel
theorem dX7_follows_22 : decode cX7_follows 22 = .ok (.ldc 144, 2) := by decide +kernel
theorem dX7_follows_24 : decode cX7_follows 24 = .ok (.ireturn, 1) := by decide +kernel
theorem dX7_owed_0 : decode cX7_owed 0 = .ok (.aload_n 0, 1) := by decide +kernel
theorem dX7_owed_1 : decode cX7_owed 1 = .ok (.getfield 58, 3) := by decide +kernel
theorem dX7_owed_4 : decode cX7_owed 4 = .ok (.iload_n 1, 1) := by decide +kernel
theorem dX7_owed_5 : decode cX7_owed 5 = .ok (.invokevirtual 194, 3) := by decide +kernel
theorem dX7_owed_8 : decode cX7_owed 8 = .ok (.ifCond .eq 18, 3) := by decide +kernel
theorem dX7_owed_11 : decode cX7_owed 11 = .ok (.aload_n 0, 1) := by decide +kernel
theorem dX7_owed_12 : decode cX7_owed 12 = .ok (.getfield 58, 3) := by decide +kernel
theorem dX7_owed_15 : decode cX7_owed 15 = .ok (.iload_n 1, 1) := by decide +kernel
theorem dX7_owed_16 : decode cX7_owed 16 = .ok (.aload_n 0, 1) := by decide +kernel
theorem dX7_owed_17 : decode cX7_owed 17 = .ok (.invokevirtual 122, 3) := by decide +kernel
theorem dX7_owed_20 : decode cX7_owed 20 = .ok (.invokevirtual 213, 3) := by decide +kernel
theorem dX7_owed_23 : decode cX7_owed 23 = .ok (.goto 5, 3) := by decide +kernel
theorem dX7_owed_26 : decode cX7_owed 26 = .ok (.ldc 144, 2) := by decide +kernel
theorem dX7_owed_28 : decode cX7_owed 28 = .ok (.ireturn, 1) := by decide +kernel
theorem dX7_parts_0 : decode cX7_parts 0 = .ok (.aload_n 0, 1) := by decide +kernel
theorem dX7_parts_1 : decode cX7_parts 1 = .ok (.getfield 58, 3) := by decide +kernel
theorem dX7_parts_4 : decode cX7_parts 4 = .ok (.iload_n 1, 1) := by decide +kernel
theorem dX7_parts_5 : decode cX7_parts 5 = .ok (.invokevirtual 138, 3) := by decide +kernel
theorem dX7_parts_8 : decode cX7_parts 8 = .ok (.ifCond .ne 6, 3) := by decide +kernel
theorem dX7_parts_11 : decode cX7_parts 11 = .ok (.ldc 144, 2) := by decide +kernel
theorem dX7_parts_13 : decode cX7_parts 13 = .ok (.ireturn, 1) := by decide +kernel
theorem dX7_parts_14 : decode cX7_parts 14 = .ok (.iload_n 2, 1) := by decide +kernel
theorem dX7_parts_15 : decode cX7_parts 15 = .ok (.ifCond .lt 8, 3) := by decide +kernel
theorem dX7_parts_18 : decode cX7_parts 18 = .ok (.iload_n 2, 1) := by decide +kernel
theorem dX7_parts_19 : decode cX7_parts 19 = .ok (.iconst 1, 1) := by decide +kernel
theorem dX7_parts_20 : decode cX7_parts 20 = .ok (.if_icmp .le 6, 3) := by decide +kernel
theorem dX7_parts_23 : decode cX7_parts 23 = .ok (.ldc 62, 2) := by decide +kernel
theorem dX7_parts_25 : decode cX7_parts 25 = .ok (.ireturn, 1) := by decide +kernel
theorem dX7_parts_26 : decode cX7_parts 26 = .ok (.aload_n 0, 1) := by decide +kernel
theorem dX7_parts_27 : decode cX7_parts 27 = .ok (.iload_n 1, 1) := by decide +kernel
theorem dX7_parts_28 : decode cX7_parts 28 = .ok (.invokevirtual 216, 3) := by decide +kernel
theorem dX7_parts_31 : decode cX7_parts 31 = .ok (.istore_n 3, 1) := by decide +kernel
theorem dX7_parts_32 : decode cX7_parts 32 = .ok (.iload_n 2, 1) := by decide +kernel
theorem dX7_parts_33 : decode cX7_parts 33 = .ok (.ifCond .eq 8, 3) := by decide +kernel
theorem dX7_parts_36 : decode cX7_parts 36 = .ok (.iload_n 3, 1) := by decide +kernel
theorem dX7_parts_37 : decode cX7_parts 37 = .ok (.iconst (-1), 1) := by decide +kernel
theorem dX7_parts_38 : decode cX7_parts 38 = .ok (.if_icmp .ne 7, 3) := by decide +kernel
theorem dX7_parts_41 : decode cX7_parts 41 = .ok (.iload_n 3, 1) := by decide +kernel
theorem dX7_parts_42 : decode cX7_parts 42 = .ok (.goto 11, 3) := by decide +kernel
theorem dX7_parts_45 : decode cX7_parts 45 = .ok (.aload_n 0, 1) := by decide +kernel
theorem dX7_parts_46 : decode cX7_parts 46 = .ok (.getfield 58, 3) := by decide +kernel
theorem dX7_parts_49 : decode cX7_parts 49 = .ok (.iload_n 3, 1) := by decide +kernel
theorem dX7_parts_50 : decode cX7_parts 50 = .ok (.invokevirtual 152, 3) := by decide +kernel
theorem dX7_parts_53 : decode cX7_parts 53 = .ok (.ireturn, 1) := by decide +kernel
theorem dX7_talkDown_0 : decode cX7_talkDown 0 = .ok (.aload_n 0, 1) := by decide +kernel
theorem dX7_talkDown_1 : decode cX7_talkDown 1 = .ok (.getfield 58, 3) := by decide +kernel
theorem dX7_talkDown_4 : decode cX7_talkDown 4 = .ok (.iload_n 1, 1) := by decide +kernel
theorem dX7_talkDown_5 : decode cX7_talkDown 5 = .ok (.invokevirtual 138, 3) := by decide +kernel
theorem dX7_talkDown_8 : decode cX7_talkDown 8 = .ok (.ifCond .eq 14, 3) := by decide +kernel
theorem dX7_talkDown_11 : decode cX7_talkDown 11 = .ok (.aload_n 0, 1) := by decide +kernel
theorem dX7_talkDown_12 : decode cX7_talkDown 12 = .ok (.getfield 58, 3) := by decide +kernel
theorem dX7_talkDown_15 : decode cX7_talkDown 15 = .ok (.iload_n 2, 1) := by decide +kernel
theorem dX7_talkDown_16 : decode cX7_talkDown 16 = .ok (.invokevirtual 138, 3) := by decide +kernel
theorem dX7_talkDown_19 : decode cX7_talkDown 19 = .ok (.ifCond .ne 6, 3) := by decide +kernel
theorem dX7_talkDown_22 : decode cX7_talkDown 22 = .ok (.ldc 144, 2) := by decide +kernel
theorem dX7_talkDown_24 : decode cX7_talkDown 24 = .ok (.ireturn, 1) := by decide +kernel
theorem dX7_talkDown_25 : decode cX7_talkDown 25 = .ok (.iload_n 3, 1) := by decide +kernel
theorem dX7_talkDown_26 : decode cX7_talkDown 26 = .ok (.ifCond .lt 8, 3) := by decide +kernel
theorem dX7_talkDown_29 : decode cX7_talkDown 29 = .ok (.iload_n 3, 1) := by decide +kernel
theorem dX7_talkDown_30 : decode cX7_talkDown 30 = .ok (.iconst 1, 1) := by decide +kernel
theorem dX7_talkDown_31 : decode cX7_talkDown 31 = .ok (.if_icmp .le 6, 3) := by decide +kernel
theorem dX7_talkDown_34 : decode cX7_talkDown 34 = .ok (.ldc 62, 2) := by decide +kernel
theorem dX7_talkDown_36 : decode cX7_talkDown 36 = .ok (.ireturn, 1) := by decide +kernel
theorem dX7_talkDown_37 : decode cX7_talkDown 37 = .ok (.aload_n 0, 1) := by decide +kernel
theorem dX7_talkDown_38 : decode cX7_talkDown 38 = .ok (.getfield 58, 3) := by decide +kernel
theorem dX7_talkDown_41 : decode cX7_talkDown 41 = .ok (.iload_n 2, 1) := by decide +kernel
theorem dX7_talkDown_42 : decode cX7_talkDown 42 = .ok (.aload_n 0, 1) := by decide +kernel
theorem dX7_talkDown_43 : decode cX7_talkDown 43 = .ok (.getfield 51, 3) := by decide +kernel
theorem dX7_talkDown_46 : decode cX7_talkDown 46 = .ok (.invokevirtual 219, 3) := by decide +kernel
theorem dX7_talkDown_49 : decode cX7_talkDown 49 = .ok (.iload_n 3, 1) := by decide +kernel
theorem dX7_talkDown_50 : decode cX7_talkDown 50 = .ok (.ifCond .ne 12, 3) := by decide +kernel
theorem dX7_talkDown_53 : decode cX7_talkDown 53 = .ok (.aload_n 0, 1) := by decide +kernel
theorem dX7_talkDown_54 : decode cX7_talkDown 54 = .ok (.getfield 51, 3) := by decide +kernel
theorem dX7_talkDown_57 : decode cX7_talkDown 57 = .ok (.iload_n 1, 1) := by decide +kernel
theorem dX7_talkDown_58 : decode cX7_talkDown 58 = .ok (.iaload, 1) := by decide +kernel
theorem dX7_talkDown_59 : decode cX7_talkDown 59 = .ok (.goto 8, 3) := by decide +kernel
theorem dX7_talkDown_62 : decode cX7_talkDown 62 = .ok (.aload_n 0, 1) := by decide +kernel
theorem dX7_talkDown_63 : decode cX7_talkDown 63 = .ok (.iload_n 1, 1) := by decide +kernel
theorem dX7_talkDown_64 : decode cX7_talkDown 64 = .ok (.invokevirtual 223, 3) := by decide +kernel
theorem dX7_talkDown_67 : decode cX7_talkDown 67 = .ok (.ireturn, 1) := by decide +kernel
theorem dX7_soonest_0 : decode cX7_soonest 0 = .ok (.aload_n 0, 1) := by decide +kernel
theorem dX7_soonest_1 : decode cX7_soonest 1 = .ok (.getfield 58, 3) := by decide +kernel
theorem dX7_soonest_4 : decode cX7_soonest 4 = .ok (.iload_n 1, 1) := by decide +kernel
theorem dX7_soonest_5 : decode cX7_soonest 5 = .ok (.invokevirtual 145, 3) := by decide +kernel
theorem dX7_soonest_8 : decode cX7_soonest 8 = .ok (.ifCond .ne 6, 3) := by decide +kernel
theorem dX7_soonest_11 : decode cX7_soonest 11 = .ok (.ldc 144, 2) := by decide +kernel
theorem dX7_soonest_13 : decode cX7_soonest 13 = .ok (.ireturn, 1) := by decide +kernel
theorem dX7_soonest_14 : decode cX7_soonest 14 = .ok (.aload_n 0, 1) := by decide +kernel
theorem dX7_soonest_15 : decode cX7_soonest 15 = .ok (.getfield 19, 3) := by decide +kernel
theorem dX7_soonest_18 : decode cX7_soonest 18 = .ok (.iload_n 1, 1) := by decide +kernel
theorem dX7_soonest_19 : decode cX7_soonest 19 = .ok (.invokevirtual 158, 3) := by decide +kernel
theorem dX7_soonest_22 : decode cX7_soonest 22 = .ok (.ifCond .eq 8, 3) := by decide +kernel
theorem dX7_soonest_25 : decode cX7_soonest 25 = .ok (.ldc 164, 2) := by decide +kernel
theorem dX7_soonest_27 : decode cX7_soonest 27 = .ok (.goto 19, 3) := by decide +kernel
theorem dX7_soonest_30 : decode cX7_soonest 30 = .ok (.aload_n 0, 1) := by decide +kernel
theorem dX7_soonest_31 : decode cX7_soonest 31 = .ok (.getfield 58, 3) := by decide +kernel
theorem dX7_soonest_34 : decode cX7_soonest 34 = .ok (.aload_n 0, 1) := by decide +kernel
theorem dX7_soonest_35 : decode cX7_soonest 35 = .ok (.getfield 19, 3) := by decide +kernel
theorem dX7_soonest_38 : decode cX7_soonest 38 = .ok (.iload_n 1, 1) := by decide +kernel
theorem dX7_soonest_39 : decode cX7_soonest 39 = .ok (.invokevirtual 148, 3) := by decide +kernel
theorem dX7_soonest_42 : decode cX7_soonest 42 = .ok (.iconst 3, 1) := by decide +kernel
theorem dX7_soonest_43 : decode cX7_soonest 43 = .ok (.invokestatic 226, 3) := by decide +kernel
theorem dX7_soonest_46 : decode cX7_soonest 46 = .ok (.ireturn, 1) := by decide +kernel
theorem dX7_smallest_0 : decode cX7_smallest 0 = .ok (.iload_n 1, 1) := by decide +kernel
theorem dX7_smallest_1 : decode cX7_smallest 1 = .ok (.ifCond .lt 8, 3) := by decide +kernel
theorem dX7_smallest_4 : decode cX7_smallest 4 = .ok (.iload_n 1, 1) := by decide +kernel
theorem dX7_smallest_5 : decode cX7_smallest 5 = .ok (.iconst 1, 1) := by decide +kernel
theorem dX7_smallest_6 : decode cX7_smallest 6 = .ok (.if_icmp .le 6, 3) := by decide +kernel
theorem dX7_smallest_9 : decode cX7_smallest 9 = .ok (.ldc 62, 2) := by decide +kernel
theorem dX7_smallest_11 : decode cX7_smallest 11 = .ok (.ireturn, 1) := by decide +kernel
theorem dX7_smallest_12 : decode cX7_smallest 12 = .ok (.iload_n 1, 1) := by decide +kernel
theorem dX7_smallest_13 : decode cX7_smallest 13 = .ok (.ifCond .ne 10, 3) := by decide +kernel
theorem dX7_smallest_16 : decode cX7_smallest 16 = .ok (.aload_n 0, 1) := by decide +kernel
theorem dX7_smallest_17 : decode cX7_smallest 17 = .ok (.invokevirtual 230, 3) := by decide +kernel
theorem dX7_smallest_20 : decode cX7_smallest 20 = .ok (.goto 7, 3) := by decide +kernel
theorem dX7_smallest_23 : decode cX7_smallest 23 = .ok (.aload_n 0, 1) := by decide +kernel
theorem dX7_smallest_24 : decode cX7_smallest 24 = .ok (.invokevirtual 233, 3) := by decide +kernel
theorem dX7_smallest_27 : decode cX7_smallest 27 = .ok (.ireturn, 1) := by decide +kernel
theorem dX7_better_0 : decode cX7_better 0 = .ok (.aload_n 0, 1) := by decide +kernel
theorem dX7_better_1 : decode cX7_better 1 = .ok (.getfield 58, 3) := by decide +kernel
theorem dX7_better_4 : decode cX7_better 4 = .ok (.iload_n 1, 1) := by decide +kernel
theorem dX7_better_5 : decode cX7_better 5 = .ok (.invokevirtual 145, 3) := by decide +kernel
theorem dX7_better_8 : decode cX7_better 8 = .ok (.ifCond .ne 6, 3) := by decide +kernel
theorem dX7_better_11 : decode cX7_better 11 = .ok (.ldc 144, 2) := by decide +kernel
theorem dX7_better_13 : decode cX7_better 13 = .ok (.ireturn, 1) := by decide +kernel
theorem dX7_better_14 : decode cX7_better 14 = .ok (.iload_n 2, 1) := by decide +kernel
theorem dX7_better_15 : decode cX7_better 15 = .ok (.ifCond .lt 10, 3) := by decide +kernel
theorem dX7_better_18 : decode cX7_better 18 = .ok (.iload_n 2, 1) := by decide +kernel
theorem dX7_better_19 : decode cX7_better 19 = .ok (.sipush 9999, 3) := by decide +kernel
theorem dX7_better_22 : decode cX7_better 22 = .ok (.if_icmp .le 6, 3) := by decide +kernel
theorem dX7_better_25 : decode cX7_better 25 = .ok (.ldc 62, 2) := by decide +kernel
theorem dX7_better_27 : decode cX7_better 27 = .ok (.ireturn, 1) := by decide +kernel
theorem dX7_better_28 : decode cX7_better 28 = .ok (.aload_n 0, 1) := by decide +kernel
theorem dX7_better_29 : decode cX7_better 29 = .ok (.getfield 19, 3) := by decide +kernel
theorem dX7_better_32 : decode cX7_better 32 = .ok (.iload_n 1, 1) := by decide +kernel
theorem dX7_better_33 : decode cX7_better 33 = .ok (.invokevirtual 158, 3) := by decide +kernel
theorem dX7_better_36 : decode cX7_better 36 = .ok (.ifCond .eq 6, 3) := by decide +kernel
theorem dX7_better_39 : decode cX7_better 39 = .ok (.ldc 164, 2) := by decide +kernel
theorem dX7_better_41 : decode cX7_better 41 = .ok (.ireturn, 1) := by decide +kernel
theorem dX7_better_42 : decode cX7_better 42 = .ok (.aload_n 0, 1) := by decide +kernel
theorem dX7_better_43 : decode cX7_better 43 = .ok (.getfield 58, 3) := by decide +kernel
theorem dX7_better_46 : decode cX7_better 46 = .ok (.aload_n 0, 1) := by decide +kernel
theorem dX7_better_47 : decode cX7_better 47 = .ok (.getfield 19, 3) := by decide +kernel
theorem dX7_better_50 : decode cX7_better 50 = .ok (.iload_n 1, 1) := by decide +kernel
theorem dX7_better_51 : decode cX7_better 51 = .ok (.invokevirtual 148, 3) := by decide +kernel
theorem dX7_better_54 : decode cX7_better 54 = .ok (.invokevirtual 161, 3) := by decide +kernel
theorem dX7_better_57 : decode cX7_better 57 = .ok (.ifCond .eq 5, 3) := by decide +kernel
theorem dX7_better_60 : decode cX7_better 60 = .ok (.iconst 1, 1) := by decide +kernel
theorem dX7_better_61 : decode cX7_better 61 = .ok (.ireturn, 1) := by decide +kernel
theorem dX7_better_62 : decode cX7_better 62 = .ok (.aload_n 0, 1) := by decide +kernel
theorem dX7_better_63 : decode cX7_better 63 = .ok (.iload_n 1, 1) := by decide +kernel
theorem dX7_better_64 : decode cX7_better 64 = .ok (.invokevirtual 155, 3) := by decide +kernel
theorem dX7_better_67 : decode cX7_better 67 = .ok (.aload_n 0, 1) := by decide +kernel
theorem dX7_better_68 : decode cX7_better 68 = .ok (.getfield 58, 3) := by decide +kernel
theorem dX7_better_71 : decode cX7_better 71 = .ok (.getfield 107, 3) := by decide +kernel
theorem dX7_better_74 : decode cX7_better 74 = .ok (.iload_n 2, 1) := by decide +kernel
theorem dX7_better_75 : decode cX7_better 75 = .ok (.imul, 1) := by decide +kernel
theorem dX7_better_76 : decode cX7_better 76 = .ok (.bipush 100, 2) := by decide +kernel
theorem dX7_better_78 : decode cX7_better 78 = .ok (.idiv, 1) := by decide +kernel
theorem dX7_better_79 : decode cX7_better 79 = .ok (.if_icmp .gt 7, 3) := by decide +kernel
theorem dX7_better_82 : decode cX7_better 82 = .ok (.iconst 0, 1) := by decide +kernel
theorem dX7_better_83 : decode cX7_better 83 = .ok (.goto 4, 3) := by decide +kernel
theorem dX7_better_86 : decode cX7_better 86 = .ok (.iconst 1, 1) := by decide +kernel
theorem dX7_better_87 : decode cX7_better 87 = .ok (.ireturn, 1) := by decide +kernel
theorem dX7_gains_0 : decode cX7_gains 0 = .ok (.aload_n 0, 1) := by decide +kernel
theorem dX7_gains_1 : decode cX7_gains 1 = .ok (.getfield 58, 3) := by decide +kernel
theorem dX7_gains_4 : decode cX7_gains 4 = .ok (.iload_n 1, 1) := by decide +kernel
theorem dX7_gains_5 : decode cX7_gains 5 = .ok (.invokevirtual 145, 3) := by decide +kernel
theorem dX7_gains_8 : decode cX7_gains 8 = .ok (.ifCond .eq 14, 3) := by decide +kernel
theorem dX7_gains_11 : decode cX7_gains 11 = .ok (.aload_n 0, 1) := by decide +kernel
theorem dX7_gains_12 : decode cX7_gains 12 = .ok (.getfield 58, 3) := by decide +kernel
theorem dX7_gains_15 : decode cX7_gains 15 = .ok (.iload_n 2, 1) := by decide +kernel
theorem dX7_gains_16 : decode cX7_gains 16 = .ok (.invokevirtual 194, 3) := by decide +kernel
theorem dX7_gains_19 : decode cX7_gains 19 = .ok (.ifCond .ne 6, 3) := by decide +kernel
theorem dX7_gains_22 : decode cX7_gains 22 = .ok (.ldc 144, 2) := by decide +kernel
theorem dX7_gains_24 : decode cX7_gains 24 = .ok (.ireturn, 1) := by decide +kernel
theorem dX7_gains_25 : decode cX7_gains 25 = .ok (.aload_n 0, 1) := by decide +kernel
theorem dX7_gains_26 : decode cX7_gains 26 = .ok (.getfield 19, 3) := by decide +kernel
theorem dX7_gains_29 : decode cX7_gains 29 = .ok (.iload_n 1, 1) := by decide +kernel
theorem dX7_gains_30 : decode cX7_gains 30 = .ok (.invokevirtual 158, 3) := by decide +kernel
theorem dX7_gains_33 : decode cX7_gains 33 = .ok (.ifCond .eq 6, 3) := by decide +kernel
theorem dX7_gains_36 : decode cX7_gains 36 = .ok (.ldc 164, 2) := by decide +kernel
theorem dX7_gains_38 : decode cX7_gains 38 = .ok (.ireturn, 1) := by decide +kernel
theorem dX7_gains_39 : decode cX7_gains 39 = .ok (.aload_n 0, 1) := by decide +kernel
theorem dX7_gains_40 : decode cX7_gains 40 = .ok (.getfield 58, 3) := by decide +kernel
theorem dX7_gains_43 : decode cX7_gains 43 = .ok (.aload_n 0, 1) := by decide +kernel
theorem dX7_gains_44 : decode cX7_gains 44 = .ok (.getfield 19, 3) := by decide +kernel
theorem dX7_gains_47 : decode cX7_gains 47 = .ok (.iload_n 1, 1) := by decide +kernel
theorem dX7_gains_48 : decode cX7_gains 48 = .ok (.invokevirtual 148, 3) := by decide +kernel
theorem dX7_gains_51 : decode cX7_gains 51 = .ok (.aload_n 0, 1) := by decide +kernel
theorem dX7_gains_52 : decode cX7_gains 52 = .ok (.getfield 58, 3) := by decide +kernel
theorem dX7_gains_55 : decode cX7_gains 55 = .ok (.iload_n 2, 1) := by decide +kernel
theorem dX7_gains_56 : decode cX7_gains 56 = .ok (.invokevirtual 210, 3) := by decide +kernel
theorem dX7_gains_59 : decode cX7_gains 59 = .ok (.invokevirtual 213, 3) := by decide +kernel
theorem dX7_gains_62 : decode cX7_gains 62 = .ok (.istore_n 3, 1) := by decide +kernel
theorem dX7_gains_63 : decode cX7_gains 63 = .ok (.aload_n 0, 1) := by decide +kernel
theorem dX7_gains_64 : decode cX7_gains 64 = .ok (.iload_n 1, 1) := by decide +kernel
theorem dX7_gains_65 : decode cX7_gains 65 = .ok (.invokevirtual 155, 3) := by decide +kernel
theorem dX7_gains_68 : decode cX7_gains 68 = .ok (.iload_n 3, 1) := by decide +kernel
theorem dX7_gains_69 : decode cX7_gains 69 = .ok (.isub, 1) := by decide +kernel
theorem dX7_gains_70 : decode cX7_gains 70 = .ok (.sipush 1000, 3) := by decide +kernel
theorem dX7_gains_73 : decode cX7_gains 73 = .ok (.iadd, 1) := by decide +kernel
theorem dX7_gains_74 : decode cX7_gains 74 = .ok (.ireturn, 1) := by decide +kernel
theorem dX7_free_0 : decode cX7_free 0 = .ok (.aload_n 0, 1) := by decide +kernel
theorem dX7_free_1 : decode cX7_free 1 = .ok (.invokevirtual 122, 3) := by decide +kernel
theorem dX7_free_4 : decode cX7_free 4 = .ok (.aload_n 0, 1) := by decide +kernel
theorem dX7_free_5 : decode cX7_free 5 = .ok (.getfield 19, 3) := by decide +kernel
theorem dX7_free_8 : decode cX7_free 8 = .ok (.getfield 119, 3) := by decide +kernel
theorem dX7_free_11 : decode cX7_free 11 = .ok (.iconst (-1), 1) := by decide +kernel
theorem dX7_free_12 : decode cX7_free 12 = .ok (.ixor, 1) := by decide +kernel
theorem dX7_free_13 : decode cX7_free 13 = .ok (.iand, 1) := by decide +kernel
theorem dX7_free_14 : decode cX7_free 14 = .ok (.ireturn, 1) := by decide +kernel
theorem dX7_share_0 : decode cX7_share 0 = .ok (.aload_n 0, 1) := by decide +kernel
theorem dX7_share_1 : decode cX7_share 1 = .ok (.getfield 58, 3) := by decide +kernel
theorem dX7_share_4 : decode cX7_share 4 = .ok (.iload_n 1, 1) := by decide +kernel
theorem dX7_share_5 : decode cX7_share 5 = .ok (.invokevirtual 145, 3) := by decide +kernel
theorem dX7_share_8 : decode cX7_share 8 = .ok (.ifCond .ne 6, 3) := by decide +kernel
theorem dX7_share_11 : decode cX7_share 11 = .ok (.ldc 144, 2) := by decide +kernel
theorem dX7_share_13 : decode cX7_share 13 = .ok (.ireturn, 1) := by decide +kernel
theorem dX7_share_14 : decode cX7_share 14 = .ok (.aload_n 0, 1) := by decide +kernel
theorem dX7_share_15 : decode cX7_share 15 = .ok (.getfield 19, 3) := by decide +kernel
theorem dX7_share_18 : decode cX7_share 18 = .ok (.iload_n 1, 1) := by decide +kernel
theorem dX7_share_19 : decode cX7_share 19 = .ok (.invokevirtual 158, 3) := by decide +kernel
theorem dX7_share_22 : decode cX7_share 22 = .ok (.ifCond .eq 6, 3) := by decide +kernel
theorem dX7_share_25 : decode cX7_share 25 = .ok (.ldc 164, 2) := by decide +kernel
theorem dX7_share_27 : decode cX7_share 27 = .ok (.ireturn, 1) := by decide +kernel
theorem dX7_share_28 : decode cX7_share 28 = .ok (.iconst 0, 1) := by decide +kernel
theorem dX7_share_29 : decode cX7_share 29 = .ok (.istore_n 2, 1) := by decide +kernel
theorem dX7_share_30 : decode cX7_share 30 = .ok (.iconst 0, 1) := by decide +kernel
theorem dX7_share_31 : decode cX7_share 31 = .ok (.istore_n 3, 1) := by decide +kernel
theorem dX7_share_32 : decode cX7_share 32 = .ok (.iload_n 3, 1) := by decide +kernel
theorem dX7_share_33 : decode cX7_share 33 = .ok (.aload_n 0, 1) := by decide +kernel
theorem dX7_share_34 : decode cX7_share 34 = .ok (.getfield 58, 3) := by decide +kernel
theorem dX7_share_37 : decode cX7_share 37 = .ok (.getfield 116, 3) := by decide +kernel
theorem dX7_share_40 : decode cX7_share 40 = .ok (.if_icmp .ge 32, 3) := by decide +kernel
theorem dX7_share_43 : decode cX7_share 43 = .ok (.iload_n 2, 1) := by decide +kernel
theorem dX7_share_44 : decode cX7_share 44 = .ok (.aload_n 0, 1) := by decide +kernel
theorem dX7_share_45 : decode cX7_share 45 = .ok (.getfield 19, 3) := by decide +kernel
theorem dX7_share_48 : decode cX7_share 48 = .ok (.iload_n 3, 1) := by decide +kernel
theorem dX7_share_49 : decode cX7_share 49 = .ok (.invokevirtual 158, 3) := by decide +kernel
theorem dX7_share_52 : decode cX7_share 52 = .ok (.ifCond .eq 7, 3) := by decide +kernel
theorem dX7_share_55 : decode cX7_share 55 = .ok (.iconst 0, 1) := by decide +kernel
theorem dX7_share_56 : decode cX7_share 56 = .ok (.goto 8, 3) := by decide +kernel
theorem dX7_share_59 : decode cX7_share 59 = .ok (.aload_n 0, 1) := by decide +kernel
theorem dX7_share_60 : decode cX7_share 60 = .ok (.iload_n 3, 1) := by decide +kernel
theorem dX7_share_61 : decode cX7_share 61 = .ok (.invokevirtual 155, 3) := by decide +kernel
theorem dX7_share_64 : decode cX7_share 64 = .ok (.iadd, 1) := by decide +kernel
theorem dX7_share_65 : decode cX7_share 65 = .ok (.istore_n 2, 1) := by decide +kernel
theorem dX7_share_66 : decode cX7_share 66 = .ok (.iinc 3 1, 3) := by decide +kernel
theorem dX7_share_69 : decode cX7_share 69 = .ok (.goto (-37), 3) := by decide +kernel
theorem dX7_share_72 : decode cX7_share 72 = .ok (.iload_n 2, 1) := by decide +kernel
theorem dX7_share_73 : decode cX7_share 73 = .ok (.ifCond .ne 7, 3) := by decide +kernel
theorem dX7_share_76 : decode cX7_share 76 = .ok (.iconst 0, 1) := by decide +kernel
theorem dX7_share_77 : decode cX7_share 77 = .ok (.goto 14, 3) := by decide +kernel
theorem dX7_share_80 : decode cX7_share 80 = .ok (.aload_n 0, 1) := by decide +kernel
theorem dX7_share_81 : decode cX7_share 81 = .ok (.iload_n 1, 1) := by decide +kernel
theorem dX7_share_82 : decode cX7_share 82 = .ok (.invokevirtual 155, 3) := by decide +kernel
theorem dX7_share_85 : decode cX7_share 85 = .ok (.sipush 1000, 3) := by decide +kernel
theorem dX7_share_88 : decode cX7_share 88 = .ok (.imul, 1) := by decide +kernel
theorem dX7_share_89 : decode cX7_share 89 = .ok (.iload_n 2, 1) := by decide +kernel
theorem dX7_share_90 : decode cX7_share 90 = .ok (.idiv, 1) := by decide +kernel
theorem dX7_share_91 : decode cX7_share 91 = .ok (.ireturn, 1) := by decide +kernel
theorem dX7_glacier_0 : decode cX7_glacier 0 = .ok (.iload_n 1, 1) := by decide +kernel
theorem dX7_glacier_1 : decode cX7_glacier 1 = .ok (.ifCond .lt 9, 3) := by decide +kernel
theorem dX7_glacier_4 : decode cX7_glacier 4 = .ok (.iload_n 1, 1) := by decide +kernel
theorem dX7_glacier_5 : decode cX7_glacier 5 = .ok (.bipush 60, 2) := by decide +kernel
theorem dX7_glacier_7 : decode cX7_glacier 7 = .ok (.if_icmp .le 6, 3) := by decide +kernel
theorem dX7_glacier_10 : decode cX7_glacier 10 = .ok (.ldc 62, 2) := by decide +kernel
theorem dX7_glacier_12 : decode cX7_glacier 12 = .ok (.ireturn, 1) := by decide +kernel
theorem dX7_glacier_13 : decode cX7_glacier 13 = .ok (.ldc2_w 236, 3) := by decide +kernel
theorem dX7_glacier_16 : decode cX7_glacier 16 = .ok (.lstore_n 2, 1) := by decide +kernel
theorem dX7_glacier_17 : decode cX7_glacier 17 = .ok (.iconst 0, 1) := by decide +kernel
theorem dX7_glacier_18 : decode cX7_glacier 18 = .ok (.istore 4, 2) := by decide +kernel
theorem dX7_glacier_20 : decode cX7_glacier 20 = .ok (.iload 4, 2) := by decide +kernel
theorem dX7_glacier_22 : decode cX7_glacier 22 = .ok (.iload_n 1, 1) := by decide +kernel
theorem dX7_glacier_23 : decode cX7_glacier 23 = .ok (.if_icmp .ge 27, 3) := by decide +kernel
theorem dX7_glacier_26 : decode cX7_glacier 26 = .ok (.lload_n 2, 1) := by decide +kernel
theorem dX7_glacier_27 : decode cX7_glacier 27 = .ok (.bipush 100, 2) := by decide +kernel
theorem dX7_glacier_29 : decode cX7_glacier 29 = .ok (.aload_n 0, 1) := by decide +kernel
theorem dX7_glacier_30 : decode cX7_glacier 30 = .ok (.getfield 58, 3) := by decide +kernel
theorem dX7_glacier_33 : decode cX7_glacier 33 = .ok (.getfield 107, 3) := by decide +kernel
theorem dX7_glacier_36 : decode cX7_glacier 36 = .ok (.isub, 1) := by decide +kernel
theorem dX7_glacier_37 : decode cX7_glacier 37 = .ok (.i2l, 1) := by decide +kernel
theorem dX7_glacier_38 : decode cX7_glacier 38 = .ok (.lmul, 1) := by decide +kernel
theorem dX7_glacier_39 : decode cX7_glacier 39 = .ok (.ldc2_w 238, 3) := by decide +kernel
theorem dX7_glacier_42 : decode cX7_glacier 42 = .ok (.ldiv, 1) := by decide +kernel
theorem dX7_glacier_43 : decode cX7_glacier 43 = .ok (.lstore_n 2, 1) := by decide +kernel
theorem dX7_glacier_44 : decode cX7_glacier 44 = .ok (.iinc 4 1, 3) := by decide +kernel
theorem dX7_glacier_47 : decode cX7_glacier 47 = .ok (.goto (-27), 3) := by decide +kernel
theorem dX7_glacier_50 : decode cX7_glacier 50 = .ok (.lload_n 2, 1) := by decide +kernel
theorem dX7_glacier_51 : decode cX7_glacier 51 = .ok (.l2i, 1) := by decide +kernel
theorem dX7_glacier_52 : decode cX7_glacier 52 = .ok (.ireturn, 1) := by decide +kernel
theorem dX7_ask_0 : decode cX7_ask 0 = .ok (.aload_n 0, 1) := by decide +kernel
theorem dX7_ask_1 : decode cX7_ask 1 = .ok (.getfield 58, 3) := by decide +kernel
theorem dX7_ask_4 : decode cX7_ask 4 = .ok (.iload_n 1, 1) := by decide +kernel
theorem dX7_ask_5 : decode cX7_ask 5 = .ok (.invokevirtual 194, 3) := by decide +kernel
theorem dX7_ask_8 : decode cX7_ask 8 = .ok (.ifCond .ne 6, 3) := by decide +kernel
theorem dX7_ask_11 : decode cX7_ask 11 = .ok (.ldc 144, 2) := by decide +kernel
theorem dX7_ask_13 : decode cX7_ask 13 = .ok (.ireturn, 1) := by decide +kernel
theorem dX7_ask_14 : decode cX7_ask 14 = .ok (.iload_n 2, 1) := by decide +kernel
theorem dX7_ask_15 : decode cX7_ask 15 = .ok (.ifCond .lt 9, 3) := by decide +kernel
theorem dX7_ask_18 : decode cX7_ask 18 = .ok (.iload_n 2, 1) := by decide +kernel
theorem dX7_ask_19 : decode cX7_ask 19 = .ok (.bipush 10, 2) := by decide +kernel
theorem dX7_ask_21 : decode cX7_ask 21 = .ok (.if_icmp .le 6, 3) := by decide +kernel
theorem dX7_ask_24 : decode cX7_ask 24 = .ok (.ldc 62, 2) := by decide +kernel
theorem dX7_ask_26 : decode cX7_ask 26 = .ok (.ireturn, 1) := by decide +kernel
theorem dX7_ask_27 : decode cX7_ask 27 = .ok (.aload_n 0, 1) := by decide +kernel
theorem dX7_ask_28 : decode cX7_ask 28 = .ok (.getfield 40, 3) := by decide +kernel
theorem dX7_ask_31 : decode cX7_ask 31 = .ok (.iload_n 1, 1) := by decide +kernel
theorem dX7_ask_32 : decode cX7_ask 32 = .ok (.iload_n 2, 1) := by decide +kernel
theorem dX7_ask_33 : decode cX7_ask 33 = .ok (.iload_n 3, 1) := by decide +kernel
theorem dX7_ask_34 : decode cX7_ask 34 = .ok (.invokevirtual 240, 3) := by decide +kernel
theorem dX7_ask_37 : decode cX7_ask 37 = .ok (.ifCond .eq 13, 3) := by decide +kernel
theorem dX7_ask_40 : decode cX7_ask 40 = .ok (.aload_n 0, 1) := by decide +kernel
theorem dX7_ask_41 : decode cX7_ask 41 = .ok (.getfield 40, 3) := by decide +kernel
theorem dX7_ask_44 : decode cX7_ask 44 = .ok (.getfield 96, 3) := by decide +kernel
theorem dX7_ask_47 : decode cX7_ask 47 = .ok (.goto 5, 3) := by decide +kernel
theorem dX7_ask_50 : decode cX7_ask 50 = .ok (.ldc 71, 2) := by decide +kernel
theorem dX7_ask_52 : decode cX7_ask 52 = .ok (.ireturn, 1) := by decide +kernel
theorem dX7_minds_0 : decode cX7_minds 0 = .ok (.iload_n 1, 1) := by decide +kernel
theorem dX7_minds_1 : decode cX7_minds 1 = .ok (.ifCond .lt 8, 3) := by decide +kernel
theorem dX7_minds_4 : decode cX7_minds 4 = .ok (.iload_n 1, 1) := by decide +kernel
theorem dX7_minds_5 : decode cX7_minds 5 = .ok (.iconst 2, 1) := by decide +kernel
theorem dX7_minds_6 : decode cX7_minds 6 = .ok (.if_icmp .le 6, 3) := by decide +kernel
theorem dX7_minds_9 : decode cX7_minds 9 = .ok (.ldc 62, 2) := by decide +kernel
theorem dX7_minds_11 : decode cX7_minds 11 = .ok (.ireturn, 1) := by decide +kernel
theorem dX7_minds_12 : decode cX7_minds 12 = .ok (.aload_n 0, 1) := by decide +kernel
theorem dX7_minds_13 : decode cX7_minds 13 = .ok (.getfield 40, 3) := by decide +kernel
theorem dX7_minds_16 : decode cX7_minds 16 = .ok (.aload_n 0, 1) := by decide +kernel
theorem dX7_minds_17 : decode cX7_minds 17 = .ok (.getfield 58, 3) := by decide +kernel
theorem dX7_minds_20 : decode cX7_minds 20 = .ok (.getfield 98, 3) := by decide +kernel
theorem dX7_minds_23 : decode cX7_minds 23 = .ok (.invokevirtual 243, 3) := by decide +kernel
theorem dX7_minds_26 : decode cX7_minds 26 = .ok (.iload_n 1, 1) := by decide +kernel
theorem dX7_minds_27 : decode cX7_minds 27 = .ok (.lookupswitch 41 #[(0, 25), (1, 33)], 25) := by decide +kernel
theorem dX7_minds_52 : decode cX7_minds 52 = .ok (.aload_n 0, 1) := by decide +kernel
theorem dX7_minds_53 : decode cX7_minds 53 = .ok (.getfield 40, 3) := by decide +kernel
theorem dX7_minds_56 : decode cX7_minds 56 = .ok (.getfield 247, 3) := by decide +kernel
theorem dX7_minds_59 : decode cX7_minds 59 = .ok (.ireturn, 1) := by decide +kernel
theorem dX7_minds_60 : decode cX7_minds 60 = .ok (.aload_n 0, 1) := by decide +kernel
theorem dX7_minds_61 : decode cX7_minds 61 = .ok (.getfield 40, 3) := by decide +kernel
theorem dX7_minds_64 : decode cX7_minds 64 = .ok (.getfield 250, 3) := by decide +kernel
theorem dX7_minds_67 : decode cX7_minds 67 = .ok (.ireturn, 1) := by decide +kernel
theorem dX7_minds_68 : decode cX7_minds 68 = .ok (.aload_n 0, 1) := by decide +kernel
theorem dX7_minds_69 : decode cX7_minds 69 = .ok (.getfield 40, 3) := by decide +kernel
theorem dX7_minds_72 : decode cX7_minds 72 = .ok (.getfield 253, 3) := by decide +kernel
theorem dX7_minds_75 : decode cX7_minds 75 = .ok (.ireturn, 1) := by decide +kernel
theorem dX7_askNext_0 : decode cX7_askNext 0 = .ok (.aload_n 0, 1) := by decide +kernel
theorem dX7_askNext_1 : decode cX7_askNext 1 = .ok (.getfield 40, 3) := by decide +kernel
theorem dX7_askNext_4 : decode cX7_askNext 4 = .ok (.aload_n 0, 1) := by decide +kernel
theorem dX7_askNext_5 : decode cX7_askNext 5 = .ok (.getfield 58, 3) := by decide +kernel
theorem dX7_askNext_8 : decode cX7_askNext 8 = .ok (.getfield 98, 3) := by decide +kernel
theorem dX7_askNext_11 : decode cX7_askNext 11 = .ok (.invokevirtual 243, 3) := by decide +kernel
theorem dX7_askNext_14 : decode cX7_askNext 14 = .ok (.aload_n 0, 1) := by decide +kernel
theorem dX7_askNext_15 : decode cX7_askNext 15 = .ok (.getfield 40, 3) := by decide +kernel
theorem dX7_askNext_18 : decode cX7_askNext 18 = .ok (.invokevirtual 256, 3) := by decide +kernel
theorem dX7_askNext_21 : decode cX7_askNext 21 = .ok (.ireturn, 1) := by decide +kernel
theorem dX7_write_0 : decode cX7_write 0 = .ok (.aload_n 0, 1) := by decide +kernel
theorem dX7_write_1 : decode cX7_write 1 = .ok (.getfield 58, 3) := by decide +kernel
theorem dX7_write_4 : decode cX7_write 4 = .ok (.iload_n 1, 1) := by decide +kernel
theorem dX7_write_5 : decode cX7_write 5 = .ok (.invokevirtual 138, 3) := by decide +kernel
theorem dX7_write_8 : decode cX7_write 8 = .ok (.ifCond .ne 6, 3) := by decide +kernel
theorem dX7_write_11 : decode cX7_write 11 = .ok (.ldc 144, 2) := by decide +kernel
theorem dX7_write_13 : decode cX7_write 13 = .ok (.ireturn, 1) := by decide +kernel
theorem dX7_write_14 : decode cX7_write 14 = .ok (.iload_n 2, 1) := by decide +kernel
theorem dX7_write_15 : decode cX7_write 15 = .ok (.ifCond .lt 8, 3) := by decide +kernel
theorem dX7_write_18 : decode cX7_write 18 = .ok (.iload_n 2, 1) := by decide +kernel
theorem dX7_write_19 : decode cX7_write 19 = .ok (.iconst 1, 1) := by decide +kernel
theorem dX7_write_20 : decode cX7_write 20 = .ok (.if_icmp .le 6, 3) := by decide +kernel
theorem dX7_write_23 : decode cX7_write 23 = .ok (.ldc 62, 2) := by decide +kernel
theorem dX7_write_25 : decode cX7_write 25 = .ok (.ireturn, 1) := by decide +kernel
theorem dX7_write_26 : decode cX7_write 26 = .ok (.aload_n 0, 1) := by decide +kernel
theorem dX7_write_27 : decode cX7_write 27 = .ok (.getfield 47, 3) := by decide +kernel
theorem dX7_write_30 : decode cX7_write 30 = .ok (.iload_n 1, 1) := by decide +kernel
theorem dX7_write_31 : decode cX7_write 31 = .ok (.iload_n 2, 1) := by decide +kernel
theorem dX7_write_32 : decode cX7_write 32 = .ok (.invokevirtual 259, 3) := by decide +kernel
theorem dX7_write_35 : decode cX7_write 35 = .ok (.ifCond .eq 13, 3) := by decide +kernel
theorem dX7_write_38 : decode cX7_write 38 = .ok (.aload_n 0, 1) := by decide +kernel
theorem dX7_write_39 : decode cX7_write 39 = .ok (.getfield 47, 3) := by decide +kernel
theorem dX7_write_42 : decode cX7_write 42 = .ok (.getfield 97, 3) := by decide +kernel
theorem dX7_write_45 : decode cX7_write 45 = .ok (.goto 5, 3) := by decide +kernel
theorem dX7_write_48 : decode cX7_write 48 = .ok (.ldc 71, 2) := by decide +kernel
theorem dX7_write_50 : decode cX7_write 50 = .ok (.ireturn, 1) := by decide +kernel
theorem dX7_tear_0 : decode cX7_tear 0 = .ok (.aload_n 0, 1) := by decide +kernel
theorem dX7_tear_1 : decode cX7_tear 1 = .ok (.getfield 40, 3) := by decide +kernel
theorem dX7_tear_4 : decode cX7_tear 4 = .ok (.getfield 96, 3) := by decide +kernel
theorem dX7_tear_7 : decode cX7_tear 7 = .ok (.aload_n 0, 1) := by decide +kernel
theorem dX7_tear_8 : decode cX7_tear 8 = .ok (.getfield 47, 3) := by decide +kernel
theorem dX7_tear_11 : decode cX7_tear 11 = .ok (.getfield 97, 3) := by decide +kernel
theorem dX7_tear_14 : decode cX7_tear 14 = .ok (.iadd, 1) := by decide +kernel
theorem dX7_tear_15 : decode cX7_tear 15 = .ok (.istore_n 1, 1) := by decide +kernel
theorem dX7_tear_16 : decode cX7_tear 16 = .ok (.aload_n 0, 1) := by decide +kernel
theorem dX7_tear_17 : decode cX7_tear 17 = .ok (.getfield 40, 3) := by decide +kernel
theorem dX7_tear_20 : decode cX7_tear 20 = .ok (.iconst 0, 1) := by decide +kernel
theorem dX7_tear_21 : decode cX7_tear 21 = .ok (.putfield 96, 3) := by decide +kernel
theorem dX7_tear_24 : decode cX7_tear 24 = .ok (.aload_n 0, 1) := by decide +kernel
theorem dX7_tear_25 : decode cX7_tear 25 = .ok (.getfield 47, 3) := by decide +kernel
theorem dX7_tear_28 : decode cX7_tear 28 = .ok (.iconst 0, 1) := by decide +kernel
theorem dX7_tear_29 : decode cX7_tear 29 = .ok (.putfield 97, 3) := by decide +kernel
theorem dX7_tear_32 : decode cX7_tear 32 = .ok (.iload_n 1, 1) := by decide +kernel
theorem dX7_tear_33 : decode cX7_tear 33 = .ok (.ireturn, 1) := by decide +kernel
theorem dX7_judge_0 : decode cX7_judge 0 = .ok (.aload_n 0, 1) := by decide +kernel
theorem dX7_judge_1 : decode cX7_judge 1 = .ok (.getfield 47, 3) := by decide +kernel
theorem dX7_judge_4 : decode cX7_judge 4 = .ok (.aload_n 0, 1) := by decide +kernel
theorem dX7_judge_5 : decode cX7_judge 5 = .ok (.invokevirtual 122, 3) := by decide +kernel
theorem dX7_judge_8 : decode cX7_judge 8 = .ok (.invokevirtual 262, 3) := by decide +kernel
theorem dX7_judge_11 : decode cX7_judge 11 = .ok (.ireturn, 1) := by decide +kernel
theorem dX7_seed_0 : decode cX7_seed 0 = .ok (.iload_n 1, 1) := by decide +kernel
theorem dX7_seed_1 : decode cX7_seed 1 = .ok (.ifCond .ge 6, 3) := by decide +kernel
theorem dX7_seed_4 : decode cX7_seed 4 = .ok (.ldc 62, 2) := by decide +kernel
theorem dX7_seed_6 : decode cX7_seed 6 = .ok (.ireturn, 1) := by decide +kernel
theorem dX7_seed_7 : decode cX7_seed 7 = .ok (.aload_n 0, 1) := by decide +kernel
theorem dX7_seed_8 : decode cX7_seed 8 = .ok (.getfield 265, 3) := by decide +kernel
theorem dX7_seed_11 : decode cX7_seed 11 = .ok (.istore_n 2, 1) := by decide +kernel
theorem dX7_seed_12 : decode cX7_seed 12 = .ok (.aload_n 0, 1) := by decide +kernel
theorem dX7_seed_13 : decode cX7_seed 13 = .ok (.iload_n 1, 1) := by decide +kernel
theorem dX7_seed_14 : decode cX7_seed 14 = .ok (.putfield 265, 3) := by decide +kernel
theorem dX7_seed_17 : decode cX7_seed 17 = .ok (.iload_n 2, 1) := by decide +kernel
theorem dX7_seed_18 : decode cX7_seed 18 = .ok (.ireturn, 1) := by decide +kernel
theorem dX7_keep_0 : decode cX7_keep 0 = .ok (.iload_n 1, 1) := by decide +kernel
theorem dX7_keep_1 : decode cX7_keep 1 = .ok (.ifCond .lt 8, 3) := by decide +kernel
theorem dX7_keep_4 : decode cX7_keep 4 = .ok (.iload_n 1, 1) := by decide +kernel
theorem dX7_keep_5 : decode cX7_keep 5 = .ok (.iconst 2, 1) := by decide +kernel
theorem dX7_keep_6 : decode cX7_keep 6 = .ok (.if_icmp .lt 6, 3) := by decide +kernel
theorem dX7_keep_9 : decode cX7_keep 9 = .ok (.ldc 144, 2) := by decide +kernel
theorem dX7_keep_11 : decode cX7_keep 11 = .ok (.ireturn, 1) := by decide +kernel
theorem dX7_keep_12 : decode cX7_keep 12 = .ok (.aload_n 0, 1) := by decide +kernel
theorem dX7_keep_13 : decode cX7_keep 13 = .ok (.getfield 33, 3) := by decide +kernel
theorem dX7_keep_16 : decode cX7_keep 16 = .ok (.iload_n 1, 1) := by decide +kernel
theorem dX7_keep_17 : decode cX7_keep 17 = .ok (.aload_n 0, 1) := by decide +kernel
theorem dX7_keep_18 : decode cX7_keep 18 = .ok (.getfield 19, 3) := by decide +kernel
theorem dX7_keep_21 : decode cX7_keep 21 = .ok (.aload_n 0, 1) := by decide +kernel
theorem dX7_keep_22 : decode cX7_keep 22 = .ok (.getfield 265, 3) := by decide +kernel
theorem dX7_keep_25 : decode cX7_keep 25 = .ok (.invokevirtual 268, 3) := by decide +kernel
theorem dX7_keep_28 : decode cX7_keep 28 = .ok (.aload_n 0, 1) := by decide +kernel
theorem dX7_keep_29 : decode cX7_keep 29 = .ok (.getfield 26, 3) := by decide +kernel
theorem dX7_keep_32 : decode cX7_keep 32 = .ok (.iconst 0, 1) := by decide +kernel
theorem dX7_keep_33 : decode cX7_keep 33 = .ok (.putfield 90, 3) := by decide +kernel
theorem dX7_keep_36 : decode cX7_keep 36 = .ok (.iconst 1, 1) := by decide +kernel
theorem dX7_keep_37 : decode cX7_keep 37 = .ok (.ireturn, 1) := by decide +kernel
theorem dX7_goBack_0 : decode cX7_goBack 0 = .ok (.iload_n 1, 1) := by decide +kernel
theorem dX7_goBack_1 : decode cX7_goBack 1 = .ok (.ifCond .lt 8, 3) := by decide +kernel
theorem dX7_goBack_4 : decode cX7_goBack 4 = .ok (.iload_n 1, 1) := by decide +kernel
theorem dX7_goBack_5 : decode cX7_goBack 5 = .ok (.iconst 2, 1) := by decide +kernel
theorem dX7_goBack_6 : decode cX7_goBack 6 = .ok (.if_icmp .lt 6, 3) := by decide +kernel
theorem dX7_goBack_9 : decode cX7_goBack 9 = .ok (.ldc 144, 2) := by decide +kernel
theorem dX7_goBack_11 : decode cX7_goBack 11 = .ok (.ireturn, 1) := by decide +kernel
theorem dX7_goBack_12 : decode cX7_goBack 12 = .ok (.aload_n 0, 1) := by decide +kernel
theorem dX7_goBack_13 : decode cX7_goBack 13 = .ok (.getfield 33, 3) := by decide +kernel
theorem dX7_goBack_16 : decode cX7_goBack 16 = .ok (.getfield 272, 3) := by decide +kernel
theorem dX7_goBack_19 : decode cX7_goBack 19 = .ok (.iload_n 1, 1) := by decide +kernel
theorem dX7_goBack_20 : decode cX7_goBack 20 = .ok (.baload, 1) := by decide +kernel
theorem dX7_goBack_21 : decode cX7_goBack 21 = .ok (.ifCond .ne 6, 3) := by decide +kernel
theorem dX7_goBack_24 : decode cX7_goBack 24 = .ok (.ldc 164, 2) := by decide +kernel
theorem dX7_goBack_26 : decode cX7_goBack 26 = .ok (.ireturn, 1) := by decide +kernel
theorem dX7_goBack_27 : decode cX7_goBack 27 = .ok (.aload_n 0, 1) := by decide +kernel
theorem dX7_goBack_28 : decode cX7_goBack 28 = .ok (.getfield 19, 3) := by decide +kernel
theorem dX7_goBack_31 : decode cX7_goBack 31 = .ok (.aload_n 0, 1) := by decide +kernel
theorem dX7_goBack_32 : decode cX7_goBack 32 = .ok (.getfield 33, 3) := by decide +kernel
theorem dX7_goBack_35 : decode cX7_goBack 35 = .ok (.getfield 276, 3) := by decide +kernel
theorem dX7_goBack_38 : decode cX7_goBack 38 = .ok (.iload_n 1, 1) := by decide +kernel
theorem dX7_goBack_39 : decode cX7_goBack 39 = .ok (.aaload, 1) := by decide +kernel
theorem dX7_goBack_40 : decode cX7_goBack 40 = .ok (.invokevirtual 280, 3) := by decide +kernel
theorem dX7_goBack_43 : decode cX7_goBack 43 = .ok (.aload_n 0, 1) := by decide +kernel
theorem dX7_goBack_44 : decode cX7_goBack 44 = .ok (.aload_n 0, 1) := by decide +kernel
theorem dX7_goBack_45 : decode cX7_goBack 45 = .ok (.getfield 33, 3) := by decide +kernel
theorem dX7_goBack_48 : decode cX7_goBack 48 = .ok (.getfield 283, 3) := by decide +kernel
theorem dX7_goBack_51 : decode cX7_goBack 51 = .ok (.iload_n 1, 1) := by decide +kernel
theorem dX7_goBack_52 : decode cX7_goBack 52 = .ok (.iaload, 1) := by decide +kernel
theorem dX7_goBack_53 : decode cX7_goBack 53 = .ok (.putfield 265, 3) := by decide +kernel
theorem dX7_goBack_56 : decode cX7_goBack 56 = .ok (.aload_n 0, 1) := by decide +kernel
theorem dX7_goBack_57 : decode cX7_goBack 57 = .ok (.getfield 26, 3) := by decide +kernel
theorem dX7_goBack_60 : decode cX7_goBack 60 = .ok (.iconst 0, 1) := by decide +kernel
theorem dX7_goBack_61 : decode cX7_goBack 61 = .ok (.putfield 90, 3) := by decide +kernel
theorem dX7_goBack_64 : decode cX7_goBack 64 = .ok (.iconst 1, 1) := by decide +kernel
theorem dX7_goBack_65 : decode cX7_goBack 65 = .ok (.ireturn, 1) := by decide +kernel
theorem dX7_inTheCountry_0 : decode cX7_inTheCountry 0 = .ok (.aload_n 0, 1) := by decide +kernel
theorem dX7_inTheCountry_1 : decode cX7_inTheCountry 1 = .ok (.getfield 58, 3) := by decide +kernel
theorem dX7_inTheCountry_4 : decode cX7_inTheCountry 4 = .ok (.aload_n 0, 1) := by decide +kernel
theorem dX7_inTheCountry_5 : decode cX7_inTheCountry 5 = .ok (.getfield 19, 3) := by decide +kernel
theorem dX7_inTheCountry_8 : decode cX7_inTheCountry 8 = .ok (.getfield 119, 3) := by decide +kernel
theorem dX7_inTheCountry_11 : decode cX7_inTheCountry 11 = .ok (.invokevirtual 210, 3) := by decide +kernel
theorem dX7_inTheCountry_14 : decode cX7_inTheCountry 14 = .ok (.ireturn, 1) := by decide +kernel
theorem dX7_dutyOf_0 : decode cX7_dutyOf 0 = .ok (.aload_n 0, 1) := by decide +kernel
theorem dX7_dutyOf_1 : decode cX7_dutyOf 1 = .ok (.getfield 58, 3) := by decide +kernel
theorem dX7_dutyOf_4 : decode cX7_dutyOf 4 = .ok (.aload_n 0, 1) := by decide +kernel
theorem dX7_dutyOf_5 : decode cX7_dutyOf 5 = .ok (.getfield 19, 3) := by decide +kernel
theorem dX7_dutyOf_8 : decode cX7_dutyOf 8 = .ok (.iload_n 1, 1) := by decide +kernel
theorem dX7_dutyOf_9 : decode cX7_dutyOf 9 = .ok (.invokevirtual 148, 3) := by decide +kernel
theorem dX7_dutyOf_12 : decode cX7_dutyOf 12 = .ok (.aload_n 0, 1) := by decide +kernel
theorem dX7_dutyOf_13 : decode cX7_dutyOf 13 = .ok (.invokevirtual 122, 3) := by decide +kernel
theorem dX7_dutyOf_16 : decode cX7_dutyOf 16 = .ok (.invokevirtual 213, 3) := by decide +kernel
theorem dX7_dutyOf_19 : decode cX7_dutyOf 19 = .ok (.ireturn, 1) := by decide +kernel
theorem dX7_stuckOnes_0 : decode cX7_stuckOnes 0 = .ok (.iconst 0, 1) := by decide +kernel
theorem dX7_stuckOnes_1 : decode cX7_stuckOnes 1 = .ok (.istore_n 1, 1) := by decide +kernel
theorem dX7_stuckOnes_2 : decode cX7_stuckOnes 2 = .ok (.iconst 0, 1) := by decide +kernel
theorem dX7_stuckOnes_3 : decode cX7_stuckOnes 3 = .ok (.istore_n 2, 1) := by decide +kernel
theorem dX7_stuckOnes_4 : decode cX7_stuckOnes 4 = .ok (.iload_n 2, 1) := by decide +kernel
theorem dX7_stuckOnes_5 : decode cX7_stuckOnes 5 = .ok (.aload_n 0, 1) := by decide +kernel
theorem dX7_stuckOnes_6 : decode cX7_stuckOnes 6 = .ok (.getfield 58, 3) := by decide +kernel
theorem dX7_stuckOnes_9 : decode cX7_stuckOnes 9 = .ok (.getfield 116, 3) := by decide +kernel
theorem dX7_stuckOnes_12 : decode cX7_stuckOnes 12 = .ok (.if_icmp .ge 44, 3) := by decide +kernel
theorem dX7_stuckOnes_15 : decode cX7_stuckOnes 15 = .ok (.aload_n 0, 1) := by decide +kernel
theorem dX7_stuckOnes_16 : decode cX7_stuckOnes 16 = .ok (.getfield 19, 3) := by decide +kernel
theorem dX7_stuckOnes_19 : decode cX7_stuckOnes 19 = .ok (.iload_n 2, 1) := by decide +kernel
theorem dX7_stuckOnes_20 : decode cX7_stuckOnes 20 = .ok (.invokevirtual 158, 3) := by decide +kernel
theorem dX7_stuckOnes_23 : decode cX7_stuckOnes 23 = .ok (.ifCond .ne 27, 3) := by decide +kernel
theorem dX7_stuckOnes_26 : decode cX7_stuckOnes 26 = .ok (.aload_n 0, 1) := by decide +kernel
theorem dX7_stuckOnes_27 : decode cX7_stuckOnes 27 = .ok (.getfield 58, 3) := by decide +kernel
theorem dX7_stuckOnes_30 : decode cX7_stuckOnes 30 = .ok (.aload_n 0, 1) := by decide +kernel
theorem dX7_stuckOnes_31 : decode cX7_stuckOnes 31 = .ok (.getfield 19, 3) := by decide +kernel
theorem dX7_stuckOnes_34 : decode cX7_stuckOnes 34 = .ok (.iload_n 2, 1) := by decide +kernel
theorem dX7_stuckOnes_35 : decode cX7_stuckOnes 35 = .ok (.invokevirtual 148, 3) := by decide +kernel
theorem dX7_stuckOnes_38 : decode cX7_stuckOnes 38 = .ok (.invokevirtual 161, 3) := by decide +kernel
theorem dX7_stuckOnes_41 : decode cX7_stuckOnes 41 = .ok (.ifCond .eq 9, 3) := by decide +kernel
theorem dX7_stuckOnes_44 : decode cX7_stuckOnes 44 = .ok (.iload_n 1, 1) := by decide +kernel
theorem dX7_stuckOnes_45 : decode cX7_stuckOnes 45 = .ok (.iconst 1, 1) := by decide +kernel
theorem dX7_stuckOnes_46 : decode cX7_stuckOnes 46 = .ok (.iload_n 2, 1) := by decide +kernel
theorem dX7_stuckOnes_47 : decode cX7_stuckOnes 47 = .ok (.ishl, 1) := by decide +kernel
theorem dX7_stuckOnes_48 : decode cX7_stuckOnes 48 = .ok (.ior, 1) := by decide +kernel
theorem dX7_stuckOnes_49 : decode cX7_stuckOnes 49 = .ok (.istore_n 1, 1) := by decide +kernel
theorem dX7_stuckOnes_50 : decode cX7_stuckOnes 50 = .ok (.iinc 2 1, 3) := by decide +kernel
theorem dX7_stuckOnes_53 : decode cX7_stuckOnes 53 = .ok (.goto (-49), 3) := by decide +kernel
theorem dX7_stuckOnes_56 : decode cX7_stuckOnes 56 = .ok (.iload_n 1, 1) := by decide +kernel
theorem dX7_stuckOnes_57 : decode cX7_stuckOnes 57 = .ok (.ireturn, 1) := by decide +kernel
theorem dX7_letPass_0 : decode cX7_letPass 0 = .ok (.aload_n 0, 1) := by decide +kernel
theorem dX7_letPass_1 : decode cX7_letPass 1 = .ok (.iload_n 1, 1) := by decide +kernel
theorem dX7_letPass_2 : decode cX7_letPass 2 = .ok (.invokevirtual 155, 3) := by decide +kernel
theorem dX7_letPass_5 : decode cX7_letPass 5 = .ok (.istore_n 2, 1) := by decide +kernel
theorem dX7_letPass_6 : decode cX7_letPass 6 = .ok (.aload_n 0, 1) := by decide +kernel
theorem dX7_letPass_7 : decode cX7_letPass 7 = .ok (.getfield 19, 3) := by decide +kernel
theorem dX7_letPass_10 : decode cX7_letPass 10 = .ok (.aload_n 0, 1) := by decide +kernel
theorem dX7_letPass_11 : decode cX7_letPass 11 = .ok (.getfield 19, 3) := by decide +kernel
theorem dX7_letPass_14 : decode cX7_letPass 14 = .ok (.getfield 132, 3) := by decide +kernel
theorem dX7_letPass_17 : decode cX7_letPass 17 = .ok (.iload_n 2, 1) := by decide +kernel
theorem dX7_letPass_18 : decode cX7_letPass 18 = .ok (.iadd, 1) := by decide +kernel
theorem dX7_letPass_19 : decode cX7_letPass 19 = .ok (.ldc 188, 2) := by decide +kernel
theorem dX7_letPass_21 : decode cX7_letPass 21 = .ok (.invokestatic 189, 3) := by decide +kernel
theorem dX7_letPass_24 : decode cX7_letPass 24 = .ok (.putfield 132, 3) := by decide +kernel
theorem dX7_letPass_27 : decode cX7_letPass 27 = .ok (.aload_n 0, 1) := by decide +kernel
theorem dX7_letPass_28 : decode cX7_letPass 28 = .ok (.getfield 19, 3) := by decide +kernel
theorem dX7_letPass_31 : decode cX7_letPass 31 = .ok (.iload_n 1, 1) := by decide +kernel
theorem dX7_letPass_32 : decode cX7_letPass 32 = .ok (.iconst 1, 1) := by decide +kernel
theorem dX7_letPass_33 : decode cX7_letPass 33 = .ok (.invokevirtual 172, 3) := by decide +kernel
theorem dX7_letPass_36 : decode cX7_letPass 36 = .ok (.iload_n 2, 1) := by decide +kernel
theorem dX7_letPass_37 : decode cX7_letPass 37 = .ok (.ireturn, 1) := by decide +kernel
theorem dX7_driftOneDay_0 : decode cX7_driftOneDay 0 = .ok (.aload_n 0, 1) := by decide +kernel
theorem dX7_driftOneDay_1 : decode cX7_driftOneDay 1 = .ok (.aload_n 0, 1) := by decide +kernel
theorem dX7_driftOneDay_2 : decode cX7_driftOneDay 2 = .ok (.getfield 58, 3) := by decide +kernel
theorem dX7_driftOneDay_5 : decode cX7_driftOneDay 5 = .ok (.getfield 116, 3) := by decide +kernel
theorem dX7_driftOneDay_8 : decode cX7_driftOneDay 8 = .ok (.invokevirtual 286, 3) := by decide +kernel
theorem dX7_driftOneDay_11 : decode cX7_driftOneDay 11 = .ok (.istore_n 1, 1) := by decide +kernel
theorem dX7_driftOneDay_12 : decode cX7_driftOneDay 12 = .ok (.aload_n 0, 1) := by decide +kernel
theorem dX7_driftOneDay_13 : decode cX7_driftOneDay 13 = .ok (.iconst 1, 1) := by decide +kernel
theorem dX7_driftOneDay_14 : decode cX7_driftOneDay 14 = .ok (.aload_n 0, 1) := by decide +kernel
theorem dX7_driftOneDay_15 : decode cX7_driftOneDay 15 = .ok (.getfield 58, 3) := by decide +kernel
theorem dX7_driftOneDay_18 : decode cX7_driftOneDay 18 = .ok (.getfield 98, 3) := by decide +kernel
theorem dX7_driftOneDay_21 : decode cX7_driftOneDay 21 = .ok (.ishl, 1) := by decide +kernel
theorem dX7_driftOneDay_22 : decode cX7_driftOneDay 22 = .ok (.invokevirtual 286, 3) := by decide +kernel
theorem dX7_driftOneDay_25 : decode cX7_driftOneDay 25 = .ok (.istore_n 2, 1) := by decide +kernel
theorem dX7_driftOneDay_26 : decode cX7_driftOneDay 26 = .ok (.aload_n 0, 1) := by decide +kernel
theorem dX7_driftOneDay_27 : decode cX7_driftOneDay 27 = .ok (.getfield 19, 3) := by decide +kernel
theorem dX7_driftOneDay_30 : decode cX7_driftOneDay 30 = .ok (.iload_n 1, 1) := by decide +kernel
theorem dX7_driftOneDay_31 : decode cX7_driftOneDay 31 = .ok (.iload_n 2, 1) := by decide +kernel
theorem dX7_driftOneDay_32 : decode cX7_driftOneDay 32 = .ok (.invokevirtual 197, 3) := by decide +kernel
theorem dX7_driftOneDay_35 : decode cX7_driftOneDay 35 = .ok (.aload_n 0, 1) := by decide +kernel
theorem dX7_driftOneDay_36 : decode cX7_driftOneDay 36 = .ok (.getfield 58, 3) := by decide +kernel
theorem dX7_driftOneDay_39 : decode cX7_driftOneDay 39 = .ok (.iload_n 2, 1) := by decide +kernel
theorem dX7_driftOneDay_40 : decode cX7_driftOneDay 40 = .ok (.invokevirtual 161, 3) := by decide +kernel
theorem dX7_driftOneDay_43 : decode cX7_driftOneDay 43 = .ok (.ifCond .eq 35, 3) := by decide +kernel
theorem dX7_driftOneDay_46 : decode cX7_driftOneDay 46 = .ok (.aload_n 0, 1) := by decide +kernel
theorem dX7_driftOneDay_47 : decode cX7_driftOneDay 47 = .ok (.getfield 19, 3) := by decide +kernel
theorem dX7_driftOneDay_50 : decode cX7_driftOneDay 50 = .ok (.iload_n 1, 1) := by decide +kernel
theorem dX7_driftOneDay_51 : decode cX7_driftOneDay 51 = .ok (.aload_n 0, 1) := by decide +kernel
theorem dX7_driftOneDay_52 : decode cX7_driftOneDay 52 = .ok (.bipush 100, 2) := by decide +kernel
theorem dX7_driftOneDay_54 : decode cX7_driftOneDay 54 = .ok (.invokevirtual 286, 3) := by decide +kernel
theorem dX7_driftOneDay_57 : decode cX7_driftOneDay 57 = .ok (.aload_n 0, 1) := by decide +kernel
theorem dX7_driftOneDay_58 : decode cX7_driftOneDay 58 = .ok (.getfield 58, 3) := by decide +kernel
theorem dX7_driftOneDay_61 : decode cX7_driftOneDay 61 = .ok (.getfield 107, 3) := by decide +kernel
theorem dX7_driftOneDay_64 : decode cX7_driftOneDay 64 = .ok (.if_icmp .lt 7, 3) := by decide +kernel
theorem dX7_driftOneDay_67 : decode cX7_driftOneDay 67 = .ok (.iconst 1, 1) := by decide +kernel
theorem dX7_driftOneDay_68 : decode cX7_driftOneDay 68 = .ok (.goto 4, 3) := by decide +kernel
theorem dX7_driftOneDay_71 : decode cX7_driftOneDay 71 = .ok (.iconst 0, 1) := by decide +kernel
theorem dX7_driftOneDay_72 : decode cX7_driftOneDay 72 = .ok (.invokevirtual 172, 3) := by decide +kernel
theorem dX7_driftOneDay_75 : decode cX7_driftOneDay 75 = .ok (.goto 9, 3) := by decide +kernel
theorem dX7_driftOneDay_78 : decode cX7_driftOneDay 78 = .ok (.aload_n 0, 1) := by decide +kernel
theorem dX7_driftOneDay_79 : decode cX7_driftOneDay 79 = .ok (.iload_n 1, 1) := by decide +kernel
theorem dX7_driftOneDay_80 : decode cX7_driftOneDay 80 = .ok (.invokevirtual 169, 3) := by decide +kernel
theorem dX7_driftOneDay_83 : decode cX7_driftOneDay 83 = .ok (.pop, 1) := by decide +kernel
theorem dX7_driftOneDay_84 : decode cX7_driftOneDay 84 = .ok (.return_, 1) := by decide +kernel
theorem dX7_draw_0 : decode cX7_draw 0 = .ok (.aload_n 0, 1) := by decide +kernel
theorem dX7_draw_1 : decode cX7_draw 1 = .ok (.aload_n 0, 1) := by decide +kernel
theorem dX7_draw_2 : decode cX7_draw 2 = .ok (.getfield 265, 3) := by decide +kernel
theorem dX7_draw_5 : decode cX7_draw 5 = .ok (.i2l, 1) := by decide +kernel
theorem dX7_draw_6 : decode cX7_draw 6 = .ok (.ldc2_w 289, 3) := by decide +kernel
theorem dX7_draw_9 : decode cX7_draw 9 = .ok (.lmul, 1) := by decide +kernel
theorem dX7_draw_10 : decode cX7_draw 10 = .ok (.ldc2_w 291, 3) := by decide +kernel
theorem dX7_draw_13 : decode cX7_draw 13 = .ok (.ladd, 1) := by decide +kernel
theorem dX7_draw_14 : decode cX7_draw 14 = .ok (.ldc2_w 293, 3) := by decide +kernel
theorem dX7_draw_17 : decode cX7_draw 17 = .ok (.land, 1) := by decide +kernel
theorem dX7_draw_18 : decode cX7_draw 18 = .ok (.l2i, 1) := by decide +kernel
theorem dX7_draw_19 : decode cX7_draw 19 = .ok (.putfield 265, 3) := by decide +kernel
theorem dX7_draw_22 : decode cX7_draw 22 = .ok (.iload_n 1, 1) := by decide +kernel
theorem dX7_draw_23 : decode cX7_draw 23 = .ok (.iconst 1, 1) := by decide +kernel
theorem dX7_draw_24 : decode cX7_draw 24 = .ok (.if_icmp .ge 7, 3) := by decide +kernel
theorem dX7_draw_27 : decode cX7_draw 27 = .ok (.iconst 0, 1) := by decide +kernel
theorem dX7_draw_28 : decode cX7_draw 28 = .ok (.goto 13, 3) := by decide +kernel
theorem dX7_draw_31 : decode cX7_draw 31 = .ok (.aload_n 0, 1) := by decide +kernel
theorem dX7_draw_32 : decode cX7_draw 32 = .ok (.getfield 265, 3) := by decide +kernel
theorem dX7_draw_35 : decode cX7_draw 35 = .ok (.ldc_w 295, 3) := by decide +kernel
theorem dX7_draw_38 : decode cX7_draw 38 = .ok (.idiv, 1) := by decide +kernel
theorem dX7_draw_39 : decode cX7_draw 39 = .ok (.iload_n 1, 1) := by decide +kernel
theorem dX7_draw_40 : decode cX7_draw 40 = .ok (.irem, 1) := by decide +kernel
theorem dX7_draw_41 : decode cX7_draw 41 = .ok (.ireturn, 1) := by decide +kernel
theorem dX7_cheapestParts_0 : decode cX7_cheapestParts 0 = .ok (.iconst (-1), 1) := by decide +kernel
theorem dX7_cheapestParts_1 : decode cX7_cheapestParts 1 = .ok (.istore_n 2, 1) := by decide +kernel
theorem dX7_cheapestParts_2 : decode cX7_cheapestParts 2 = .ok (.iconst 1, 1) := by decide +kernel
theorem dX7_cheapestParts_3 : decode cX7_cheapestParts 3 = .ok (.aload_n 0, 1) := by decide +kernel
theorem dX7_cheapestParts_4 : decode cX7_cheapestParts 4 = .ok (.getfield 58, 3) := by decide +kernel
theorem dX7_cheapestParts_7 : decode cX7_cheapestParts 7 = .ok (.getfield 98, 3) := by decide +kernel
theorem dX7_cheapestParts_10 : decode cX7_cheapestParts 10 = .ok (.ishl, 1) := by decide +kernel
theorem dX7_cheapestParts_11 : decode cX7_cheapestParts 11 = .ok (.istore_n 3, 1) := by decide +kernel
theorem dX7_cheapestParts_12 : decode cX7_cheapestParts 12 = .ok (.iconst 0, 1) := by decide +kernel
theorem dX7_cheapestParts_13 : decode cX7_cheapestParts 13 = .ok (.istore 4, 2) := by decide +kernel
theorem dX7_cheapestParts_15 : decode cX7_cheapestParts 15 = .ok (.iload 4, 2) := by decide +kernel
theorem dX7_cheapestParts_17 : decode cX7_cheapestParts 17 = .ok (.iload_n 3, 1) := by decide +kernel
theorem dX7_cheapestParts_18 : decode cX7_cheapestParts 18 = .ok (.if_icmp .ge 82, 3) := by decide +kernel
theorem dX7_cheapestParts_21 : decode cX7_cheapestParts 21 = .ok (.iload 4, 2) := by decide +kernel
theorem dX7_cheapestParts_23 : decode cX7_cheapestParts 23 = .ok (.iconst 1, 1) := by decide +kernel
theorem dX7_cheapestParts_24 : decode cX7_cheapestParts 24 = .ok (.iload_n 1, 1) := by decide +kernel
theorem dX7_cheapestParts_25 : decode cX7_cheapestParts 25 = .ok (.ishl, 1) := by decide +kernel
theorem dX7_cheapestParts_26 : decode cX7_cheapestParts 26 = .ok (.iand, 1) := by decide +kernel
theorem dX7_cheapestParts_27 : decode cX7_cheapestParts 27 = .ok (.ifCond .ne 7, 3) := by decide +kernel
theorem dX7_cheapestParts_30 : decode cX7_cheapestParts 30 = .ok (.iconst 1, 1) := by decide +kernel
theorem dX7_cheapestParts_31 : decode cX7_cheapestParts 31 = .ok (.goto 4, 3) := by decide +kernel
theorem dX7_cheapestParts_34 : decode cX7_cheapestParts 34 = .ok (.iconst 0, 1) := by decide +kernel
theorem dX7_cheapestParts_35 : decode cX7_cheapestParts 35 = .ok (.istore 5, 2) := by decide +kernel
theorem dX7_cheapestParts_37 : decode cX7_cheapestParts 37 = .ok (.iload 5, 2) := by decide +kernel
theorem dX7_cheapestParts_39 : decode cX7_cheapestParts 39 = .ok (.ifCond .eq 55, 3) := by decide +kernel
theorem dX7_cheapestParts_42 : decode cX7_cheapestParts 42 = .ok (.aload_n 0, 1) := by decide +kernel
theorem dX7_cheapestParts_43 : decode cX7_cheapestParts 43 = .ok (.getfield 58, 3) := by decide +kernel
theorem dX7_cheapestParts_46 : decode cX7_cheapestParts 46 = .ok (.aload_n 0, 1) := by decide +kernel
theorem dX7_cheapestParts_47 : decode cX7_cheapestParts 47 = .ok (.getfield 19, 3) := by decide +kernel
theorem dX7_cheapestParts_50 : decode cX7_cheapestParts 50 = .ok (.getfield 119, 3) := by decide +kernel
theorem dX7_cheapestParts_53 : decode cX7_cheapestParts 53 = .ok (.iload 4, 2) := by decide +kernel
theorem dX7_cheapestParts_55 : decode cX7_cheapestParts 55 = .ok (.ior, 1) := by decide +kernel
theorem dX7_cheapestParts_56 : decode cX7_cheapestParts 56 = .ok (.invokevirtual 210, 3) := by decide +kernel
theorem dX7_cheapestParts_59 : decode cX7_cheapestParts 59 = .ok (.iconst 1, 1) := by decide +kernel
theorem dX7_cheapestParts_60 : decode cX7_cheapestParts 60 = .ok (.iload_n 1, 1) := by decide +kernel
theorem dX7_cheapestParts_61 : decode cX7_cheapestParts 61 = .ok (.ishl, 1) := by decide +kernel
theorem dX7_cheapestParts_62 : decode cX7_cheapestParts 62 = .ok (.iand, 1) := by decide +kernel
theorem dX7_cheapestParts_63 : decode cX7_cheapestParts 63 = .ok (.ifCond .eq 31, 3) := by decide +kernel
theorem dX7_cheapestParts_66 : decode cX7_cheapestParts 66 = .ok (.iload_n 2, 1) := by decide +kernel
theorem dX7_cheapestParts_67 : decode cX7_cheapestParts 67 = .ok (.iconst (-1), 1) := by decide +kernel
theorem dX7_cheapestParts_68 : decode cX7_cheapestParts 68 = .ok (.if_icmp .eq 23, 3) := by decide +kernel
theorem dX7_cheapestParts_71 : decode cX7_cheapestParts 71 = .ok (.aload_n 0, 1) := by decide +kernel
theorem dX7_cheapestParts_72 : decode cX7_cheapestParts 72 = .ok (.getfield 58, 3) := by decide +kernel
theorem dX7_cheapestParts_75 : decode cX7_cheapestParts 75 = .ok (.iload 4, 2) := by decide +kernel
theorem dX7_cheapestParts_77 : decode cX7_cheapestParts 77 = .ok (.invokevirtual 152, 3) := by decide +kernel
theorem dX7_cheapestParts_80 : decode cX7_cheapestParts 80 = .ok (.aload_n 0, 1) := by decide +kernel
theorem dX7_cheapestParts_81 : decode cX7_cheapestParts 81 = .ok (.getfield 58, 3) := by decide +kernel
theorem dX7_cheapestParts_84 : decode cX7_cheapestParts 84 = .ok (.iload_n 2, 1) := by decide +kernel
theorem dX7_cheapestParts_85 : decode cX7_cheapestParts 85 = .ok (.invokevirtual 152, 3) := by decide +kernel
theorem dX7_cheapestParts_88 : decode cX7_cheapestParts 88 = .ok (.if_icmp .ge 6, 3) := by decide +kernel
theorem dX7_cheapestParts_91 : decode cX7_cheapestParts 91 = .ok (.iload 4, 2) := by decide +kernel
theorem dX7_cheapestParts_93 : decode cX7_cheapestParts 93 = .ok (.istore_n 2, 1) := by decide +kernel
theorem dX7_cheapestParts_94 : decode cX7_cheapestParts 94 = .ok (.iinc 4 1, 3) := by decide +kernel
theorem dX7_cheapestParts_97 : decode cX7_cheapestParts 97 = .ok (.goto (-82), 3) := by decide +kernel
theorem dX7_cheapestParts_100 : decode cX7_cheapestParts 100 = .ok (.iload_n 2, 1) := by decide +kernel
theorem dX7_cheapestParts_101 : decode cX7_cheapestParts 101 = .ok (.ireturn, 1) := by decide +kernel
theorem dX7_nextOnTheWay_0 : decode cX7_nextOnTheWay 0 = .ok (.iconst (-1), 1) := by decide +kernel
theorem dX7_nextOnTheWay_1 : decode cX7_nextOnTheWay 1 = .ok (.istore_n 2, 1) := by decide +kernel
theorem dX7_nextOnTheWay_2 : decode cX7_nextOnTheWay 2 = .ok (.iconst 0, 1) := by decide +kernel
theorem dX7_nextOnTheWay_3 : decode cX7_nextOnTheWay 3 = .ok (.istore_n 3, 1) := by decide +kernel
theorem dX7_nextOnTheWay_4 : decode cX7_nextOnTheWay 4 = .ok (.iload_n 3, 1) := by decide +kernel
theorem dX7_nextOnTheWay_5 : decode cX7_nextOnTheWay 5 = .ok (.aload_n 0, 1) := by decide +kernel
theorem dX7_nextOnTheWay_6 : decode cX7_nextOnTheWay 6 = .ok (.getfield 58, 3) := by decide +kernel
theorem dX7_nextOnTheWay_9 : decode cX7_nextOnTheWay 9 = .ok (.getfield 113, 3) := by decide +kernel
theorem dX7_nextOnTheWay_12 : decode cX7_nextOnTheWay 12 = .ok (.if_icmp .ge 96, 3) := by decide +kernel
theorem dX7_nextOnTheWay_15 : decode cX7_nextOnTheWay 15 = .ok (.aload_n 0, 1) := by decide +kernel
theorem dX7_nextOnTheWay_16 : decode cX7_nextOnTheWay 16 = .ok (.getfield 58, 3) := by decide +kernel
theorem dX7_nextOnTheWay_19 : decode cX7_nextOnTheWay 19 = .ok (.getfield 296, 3) := by decide +kernel
theorem dX7_nextOnTheWay_22 : decode cX7_nextOnTheWay 22 = .ok (.iload_n 3, 1) := by decide +kernel
theorem dX7_nextOnTheWay_23 : decode cX7_nextOnTheWay 23 = .ok (.iaload, 1) := by decide +kernel
theorem dX7_nextOnTheWay_24 : decode cX7_nextOnTheWay 24 = .ok (.istore 4, 2) := by decide +kernel
theorem dX7_nextOnTheWay_26 : decode cX7_nextOnTheWay 26 = .ok (.aload_n 0, 1) := by decide +kernel
theorem dX7_nextOnTheWay_27 : decode cX7_nextOnTheWay 27 = .ok (.getfield 58, 3) := by decide +kernel
theorem dX7_nextOnTheWay_30 : decode cX7_nextOnTheWay 30 = .ok (.getfield 299, 3) := by decide +kernel
theorem dX7_nextOnTheWay_33 : decode cX7_nextOnTheWay 33 = .ok (.iload_n 3, 1) := by decide +kernel
theorem dX7_nextOnTheWay_34 : decode cX7_nextOnTheWay 34 = .ok (.iaload, 1) := by decide +kernel
theorem dX7_nextOnTheWay_35 : decode cX7_nextOnTheWay 35 = .ok (.iload_n 1, 1) := by decide +kernel
theorem dX7_nextOnTheWay_36 : decode cX7_nextOnTheWay 36 = .ok (.if_icmp .ne 44, 3) := by decide +kernel
theorem dX7_nextOnTheWay_39 : decode cX7_nextOnTheWay 39 = .ok (.aload_n 0, 1) := by decide +kernel
theorem dX7_nextOnTheWay_40 : decode cX7_nextOnTheWay 40 = .ok (.getfield 51, 3) := by decide +kernel
theorem dX7_nextOnTheWay_43 : decode cX7_nextOnTheWay 43 = .ok (.iload 4, 2) := by decide +kernel
theorem dX7_nextOnTheWay_45 : decode cX7_nextOnTheWay 45 = .ok (.iaload, 1) := by decide +kernel
theorem dX7_nextOnTheWay_46 : decode cX7_nextOnTheWay 46 = .ok (.iconst (-1), 1) := by decide +kernel
theorem dX7_nextOnTheWay_47 : decode cX7_nextOnTheWay 47 = .ok (.if_icmp .eq 33, 3) := by decide +kernel
theorem dX7_nextOnTheWay_50 : decode cX7_nextOnTheWay 50 = .ok (.aload_n 0, 1) := by decide +kernel
theorem dX7_nextOnTheWay_51 : decode cX7_nextOnTheWay 51 = .ok (.getfield 58, 3) := by decide +kernel
theorem dX7_nextOnTheWay_54 : decode cX7_nextOnTheWay 54 = .ok (.getfield 302, 3) := by decide +kernel
theorem dX7_nextOnTheWay_57 : decode cX7_nextOnTheWay 57 = .ok (.iload_n 3, 1) := by decide +kernel
theorem dX7_nextOnTheWay_58 : decode cX7_nextOnTheWay 58 = .ok (.iaload, 1) := by decide +kernel
theorem dX7_nextOnTheWay_59 : decode cX7_nextOnTheWay 59 = .ok (.aload_n 0, 1) := by decide +kernel
theorem dX7_nextOnTheWay_60 : decode cX7_nextOnTheWay 60 = .ok (.getfield 51, 3) := by decide +kernel
theorem dX7_nextOnTheWay_63 : decode cX7_nextOnTheWay 63 = .ok (.iload 4, 2) := by decide +kernel
theorem dX7_nextOnTheWay_65 : decode cX7_nextOnTheWay 65 = .ok (.iaload, 1) := by decide +kernel
theorem dX7_nextOnTheWay_66 : decode cX7_nextOnTheWay 66 = .ok (.iadd, 1) := by decide +kernel
theorem dX7_nextOnTheWay_67 : decode cX7_nextOnTheWay 67 = .ok (.aload_n 0, 1) := by decide +kernel
theorem dX7_nextOnTheWay_68 : decode cX7_nextOnTheWay 68 = .ok (.getfield 51, 3) := by decide +kernel
theorem dX7_nextOnTheWay_71 : decode cX7_nextOnTheWay 71 = .ok (.iload_n 1, 1) := by decide +kernel
theorem dX7_nextOnTheWay_72 : decode cX7_nextOnTheWay 72 = .ok (.iaload, 1) := by decide +kernel
theorem dX7_nextOnTheWay_73 : decode cX7_nextOnTheWay 73 = .ok (.if_icmp .ne 7, 3) := by decide +kernel
theorem dX7_nextOnTheWay_76 : decode cX7_nextOnTheWay 76 = .ok (.iconst 1, 1) := by decide +kernel
theorem dX7_nextOnTheWay_77 : decode cX7_nextOnTheWay 77 = .ok (.goto 4, 3) := by decide +kernel
theorem dX7_nextOnTheWay_80 : decode cX7_nextOnTheWay 80 = .ok (.iconst 0, 1) := by decide +kernel
theorem dX7_nextOnTheWay_81 : decode cX7_nextOnTheWay 81 = .ok (.istore 5, 2) := by decide +kernel
theorem dX7_nextOnTheWay_83 : decode cX7_nextOnTheWay 83 = .ok (.iload 5, 2) := by decide +kernel
theorem dX7_nextOnTheWay_85 : decode cX7_nextOnTheWay 85 = .ok (.ifCond .eq 17, 3) := by decide +kernel
theorem dX7_nextOnTheWay_88 : decode cX7_nextOnTheWay 88 = .ok (.iload_n 2, 1) := by decide +kernel
theorem dX7_nextOnTheWay_89 : decode cX7_nextOnTheWay 89 = .ok (.iconst (-1), 1) := by decide +kernel
theorem dX7_nextOnTheWay_90 : decode cX7_nextOnTheWay 90 = .ok (.if_icmp .eq 9, 3) := by decide +kernel
theorem dX7_nextOnTheWay_93 : decode cX7_nextOnTheWay 93 = .ok (.iload 4, 2) := by decide +kernel
theorem dX7_nextOnTheWay_95 : decode cX7_nextOnTheWay 95 = .ok (.iload_n 2, 1) := by decide +kernel
theorem dX7_nextOnTheWay_96 : decode cX7_nextOnTheWay 96 = .ok (.if_icmp .ge 6, 3) := by decide +kernel
theorem dX7_nextOnTheWay_99 : decode cX7_nextOnTheWay 99 = .ok (.iload 4, 2) := by decide +kernel
theorem dX7_nextOnTheWay_101 : decode cX7_nextOnTheWay 101 = .ok (.istore_n 2, 1) := by decide +kernel
theorem dX7_nextOnTheWay_102 : decode cX7_nextOnTheWay 102 = .ok (.iinc 3 1, 3) := by decide +kernel
theorem dX7_nextOnTheWay_105 : decode cX7_nextOnTheWay 105 = .ok (.goto (-101), 3) := by decide +kernel
theorem dX7_nextOnTheWay_108 : decode cX7_nextOnTheWay 108 = .ok (.iload_n 2, 1) := by decide +kernel
theorem dX7_nextOnTheWay_109 : decode cX7_nextOnTheWay 109 = .ok (.ireturn, 1) := by decide +kernel
theorem dX7_fewestMinutes_0 : decode cX7_fewestMinutes 0 = .ok (.aload_n 0, 1) := by decide +kernel
theorem dX7_fewestMinutes_1 : decode cX7_fewestMinutes 1 = .ok (.iload_n 1, 1) := by decide +kernel
theorem dX7_fewestMinutes_2 : decode cX7_fewestMinutes 2 = .ok (.invokevirtual 161, 3) := by decide +kernel
theorem dX7_fewestMinutes_5 : decode cX7_fewestMinutes 5 = .ok (.ifCond .ne 5, 3) := by decide +kernel
theorem dX7_fewestMinutes_8 : decode cX7_fewestMinutes 8 = .ok (.iconst 0, 1) := by decide +kernel
theorem dX7_fewestMinutes_9 : decode cX7_fewestMinutes 9 = .ok (.ireturn, 1) := by decide +kernel
theorem dX7_fewestMinutes_10 : decode cX7_fewestMinutes 10 = .ok (.iload_n 2, 1) := by decide +kernel
theorem dX7_fewestMinutes_11 : decode cX7_fewestMinutes 11 = .ok (.ifCond .gt 5, 3) := by decide +kernel
theorem dX7_fewestMinutes_14 : decode cX7_fewestMinutes 14 = .ok (.iconst (-1), 1) := by decide +kernel
theorem dX7_fewestMinutes_15 : decode cX7_fewestMinutes 15 = .ok (.ireturn, 1) := by decide +kernel
theorem dX7_fewestMinutes_16 : decode cX7_fewestMinutes 16 = .ok (.iconst (-1), 1) := by decide +kernel
theorem dX7_fewestMinutes_17 : decode cX7_fewestMinutes 17 = .ok (.istore_n 3, 1) := by decide +kernel
theorem dX7_fewestMinutes_18 : decode cX7_fewestMinutes 18 = .ok (.iconst 0, 1) := by decide +kernel
theorem dX7_fewestMinutes_19 : decode cX7_fewestMinutes 19 = .ok (.istore 4, 2) := by decide +kernel
theorem dX7_fewestMinutes_21 : decode cX7_fewestMinutes 21 = .ok (.iload 4, 2) := by decide +kernel
theorem dX7_fewestMinutes_23 : decode cX7_fewestMinutes 23 = .ok (.aload_n 0, 1) := by decide +kernel
theorem dX7_fewestMinutes_24 : decode cX7_fewestMinutes 24 = .ok (.getfield 113, 3) := by decide +kernel
theorem dX7_fewestMinutes_27 : decode cX7_fewestMinutes 27 = .ok (.if_icmp .ge 81, 3) := by decide +kernel
theorem dX7_fewestMinutes_30 : decode cX7_fewestMinutes 30 = .ok (.aload_n 0, 1) := by decide +kernel
theorem dX7_fewestMinutes_31 : decode cX7_fewestMinutes 31 = .ok (.getfield 299, 3) := by decide +kernel
theorem dX7_fewestMinutes_34 : decode cX7_fewestMinutes 34 = .ok (.iload 4, 2) := by decide +kernel
theorem dX7_fewestMinutes_36 : decode cX7_fewestMinutes 36 = .ok (.iaload, 1) := by decide +kernel
theorem dX7_fewestMinutes_37 : decode cX7_fewestMinutes 37 = .ok (.istore 5, 2) := by decide +kernel
theorem dX7_fewestMinutes_39 : decode cX7_fewestMinutes 39 = .ok (.iload_n 1, 1) := by decide +kernel
theorem dX7_fewestMinutes_40 : decode cX7_fewestMinutes 40 = .ok (.iconst 1, 1) := by decide +kernel
theorem dX7_fewestMinutes_41 : decode cX7_fewestMinutes 41 = .ok (.iload 5, 2) := by decide +kernel
theorem dX7_fewestMinutes_43 : decode cX7_fewestMinutes 43 = .ok (.ishl, 1) := by decide +kernel
theorem dX7_fewestMinutes_44 : decode cX7_fewestMinutes 44 = .ok (.iand, 1) := by decide +kernel
theorem dX7_fewestMinutes_45 : decode cX7_fewestMinutes 45 = .ok (.ifCond .eq 57, 3) := by decide +kernel
theorem dX7_fewestMinutes_48 : decode cX7_fewestMinutes 48 = .ok (.aload_n 0, 1) := by decide +kernel
theorem dX7_fewestMinutes_49 : decode cX7_fewestMinutes 49 = .ok (.iload_n 1, 1) := by decide +kernel
theorem dX7_fewestMinutes_50 : decode cX7_fewestMinutes 50 = .ok (.iload 5, 2) := by decide +kernel
theorem dX7_fewestMinutes_52 : decode cX7_fewestMinutes 52 = .ok (.aload_n 0, 1) := by decide +kernel
theorem dX7_fewestMinutes_53 : decode cX7_fewestMinutes 53 = .ok (.getfield 296, 3) := by decide +kernel
theorem dX7_fewestMinutes_56 : decode cX7_fewestMinutes 56 = .ok (.iload 4, 2) := by decide +kernel
theorem dX7_fewestMinutes_58 : decode cX7_fewestMinutes 58 = .ok (.iaload, 1) := by decide +kernel
theorem dX7_fewestMinutes_59 : decode cX7_fewestMinutes 59 = .ok (.invokestatic 180, 3) := by decide +kernel
theorem dX7_fewestMinutes_62 : decode cX7_fewestMinutes 62 = .ok (.iload_n 2, 1) := by decide +kernel
theorem dX7_fewestMinutes_63 : decode cX7_fewestMinutes 63 = .ok (.iconst 1, 1) := by decide +kernel
theorem dX7_fewestMinutes_64 : decode cX7_fewestMinutes 64 = .ok (.isub, 1) := by decide +kernel
theorem dX7_fewestMinutes_65 : decode cX7_fewestMinutes 65 = .ok (.invokestatic 226, 3) := by decide +kernel
theorem dX7_fewestMinutes_68 : decode cX7_fewestMinutes 68 = .ok (.istore 6, 2) := by decide +kernel
theorem dX7_fewestMinutes_70 : decode cX7_fewestMinutes 70 = .ok (.aload_n 0, 1) := by decide +kernel
theorem dX7_fewestMinutes_71 : decode cX7_fewestMinutes 71 = .ok (.getfield 302, 3) := by decide +kernel
theorem dX7_fewestMinutes_74 : decode cX7_fewestMinutes 74 = .ok (.iload 4, 2) := by decide +kernel
theorem dX7_fewestMinutes_76 : decode cX7_fewestMinutes 76 = .ok (.iaload, 1) := by decide +kernel
theorem dX7_fewestMinutes_77 : decode cX7_fewestMinutes 77 = .ok (.iload 6, 2) := by decide +kernel
theorem dX7_fewestMinutes_79 : decode cX7_fewestMinutes 79 = .ok (.iadd, 1) := by decide +kernel
theorem dX7_fewestMinutes_80 : decode cX7_fewestMinutes 80 = .ok (.istore 7, 2) := by decide +kernel
theorem dX7_fewestMinutes_82 : decode cX7_fewestMinutes 82 = .ok (.iload 6, 2) := by decide +kernel
theorem dX7_fewestMinutes_84 : decode cX7_fewestMinutes 84 = .ok (.iconst (-1), 1) := by decide +kernel
theorem dX7_fewestMinutes_85 : decode cX7_fewestMinutes 85 = .ok (.if_icmp .eq 17, 3) := by decide +kernel
theorem dX7_fewestMinutes_88 : decode cX7_fewestMinutes 88 = .ok (.iload_n 3, 1) := by decide +kernel
theorem dX7_fewestMinutes_89 : decode cX7_fewestMinutes 89 = .ok (.iconst (-1), 1) := by decide +kernel
theorem dX7_fewestMinutes_90 : decode cX7_fewestMinutes 90 = .ok (.if_icmp .eq 9, 3) := by decide +kernel
theorem dX7_fewestMinutes_93 : decode cX7_fewestMinutes 93 = .ok (.iload 7, 2) := by decide +kernel
theorem dX7_fewestMinutes_95 : decode cX7_fewestMinutes 95 = .ok (.iload_n 3, 1) := by decide +kernel
theorem dX7_fewestMinutes_96 : decode cX7_fewestMinutes 96 = .ok (.if_icmp .ge 6, 3) := by decide +kernel
theorem dX7_fewestMinutes_99 : decode cX7_fewestMinutes 99 = .ok (.iload 7, 2) := by decide +kernel
theorem dX7_fewestMinutes_101 : decode cX7_fewestMinutes 101 = .ok (.istore_n 3, 1) := by decide +kernel
theorem dX7_fewestMinutes_102 : decode cX7_fewestMinutes 102 = .ok (.iinc 4 1, 3) := by decide +kernel
theorem dX7_fewestMinutes_105 : decode cX7_fewestMinutes 105 = .ok (.goto (-84), 3) := by decide +kernel
theorem dX7_fewestMinutes_108 : decode cX7_fewestMinutes 108 = .ok (.iload_n 3, 1) := by decide +kernel
theorem dX7_fewestMinutes_109 : decode cX7_fewestMinutes 109 = .ok (.ireturn, 1) := by decide +kernel
theorem dX7_afterTalk_0 : decode cX7_afterTalk 0 = .ok (.iload_n 0, 1) := by decide +kernel
theorem dX7_afterTalk_1 : decode cX7_afterTalk 1 = .ok (.iconst 1, 1) := by decide +kernel
theorem dX7_afterTalk_2 : decode cX7_afterTalk 2 = .ok (.iload_n 1, 1) := by decide +kernel
theorem dX7_afterTalk_3 : decode cX7_afterTalk 3 = .ok (.ishl, 1) := by decide +kernel
theorem dX7_afterTalk_4 : decode cX7_afterTalk 4 = .ok (.iconst (-1), 1) := by decide +kernel
theorem dX7_afterTalk_5 : decode cX7_afterTalk 5 = .ok (.ixor, 1) := by decide +kernel
theorem dX7_afterTalk_6 : decode cX7_afterTalk 6 = .ok (.iand, 1) := by decide +kernel
theorem dX7_afterTalk_7 : decode cX7_afterTalk 7 = .ok (.iconst 1, 1) := by decide +kernel
theorem dX7_afterTalk_8 : decode cX7_afterTalk 8 = .ok (.iload_n 2, 1) := by decide +kernel
theorem dX7_afterTalk_9 : decode cX7_afterTalk 9 = .ok (.ishl, 1) := by decide +kernel
theorem dX7_afterTalk_10 : decode cX7_afterTalk 10 = .ok (.ior, 1) := by decide +kernel
theorem dX7_afterTalk_11 : decode cX7_afterTalk 11 = .ok (.ireturn, 1) := by decide +kernel
theorem dX7_smallestRegister_0 : decode cX7_smallestRegister 0 = .ok (.aload_n 0, 1) := by decide +kernel
theorem dX7_smallestRegister_1 : decode cX7_smallestRegister 1 = .ok (.invokevirtual 122, 3) := by decide +kernel
theorem dX7_smallestRegister_4 : decode cX7_smallestRegister 4 = .ok (.istore_n 1, 1) := by decide +kernel
theorem dX7_smallestRegister_5 : decode cX7_smallestRegister 5 = .ok (.iload_n 1, 1) := by decide +kernel
theorem dX7_smallestRegister_6 : decode cX7_smallestRegister 6 = .ok (.istore_n 2, 1) := by decide +kernel
theorem dX7_smallestRegister_7 : decode cX7_smallestRegister 7 = .ok (.iconst 1, 1) := by decide +kernel
theorem dX7_smallestRegister_8 : decode cX7_smallestRegister 8 = .ok (.aload_n 0, 1) := by decide +kernel
theorem dX7_smallestRegister_9 : decode cX7_smallestRegister 9 = .ok (.getfield 58, 3) := by decide +kernel
theorem dX7_smallestRegister_12 : decode cX7_smallestRegister 12 = .ok (.getfield 98, 3) := by decide +kernel
theorem dX7_smallestRegister_15 : decode cX7_smallestRegister 15 = .ok (.ishl, 1) := by decide +kernel
theorem dX7_smallestRegister_16 : decode cX7_smallestRegister 16 = .ok (.istore_n 3, 1) := by decide +kernel
theorem dX7_smallestRegister_17 : decode cX7_smallestRegister 17 = .ok (.iconst 0, 1) := by decide +kernel
theorem dX7_smallestRegister_18 : decode cX7_smallestRegister 18 = .ok (.istore 4, 2) := by decide +kernel
theorem dX7_smallestRegister_20 : decode cX7_smallestRegister 20 = .ok (.iload 4, 2) := by decide +kernel
theorem dX7_smallestRegister_22 : decode cX7_smallestRegister 22 = .ok (.iload_n 3, 1) := by decide +kernel
theorem dX7_smallestRegister_23 : decode cX7_smallestRegister 23 = .ok (.if_icmp .ge 37, 3) := by decide +kernel
theorem dX7_smallestRegister_26 : decode cX7_smallestRegister 26 = .ok (.iload 4, 2) := by decide +kernel
theorem dX7_smallestRegister_28 : decode cX7_smallestRegister 28 = .ok (.invokestatic 305, 3) := by decide +kernel
theorem dX7_smallestRegister_31 : decode cX7_smallestRegister 31 = .ok (.iload_n 2, 1) := by decide +kernel
theorem dX7_smallestRegister_32 : decode cX7_smallestRegister 32 = .ok (.invokestatic 305, 3) := by decide +kernel
theorem dX7_smallestRegister_35 : decode cX7_smallestRegister 35 = .ok (.if_icmp .ge 19, 3) := by decide +kernel
theorem dX7_smallestRegister_38 : decode cX7_smallestRegister 38 = .ok (.aload_n 0, 1) := by decide +kernel
theorem dX7_smallestRegister_39 : decode cX7_smallestRegister 39 = .ok (.getfield 58, 3) := by decide +kernel
theorem dX7_smallestRegister_42 : decode cX7_smallestRegister 42 = .ok (.iload 4, 2) := by decide +kernel
theorem dX7_smallestRegister_44 : decode cX7_smallestRegister 44 = .ok (.invokevirtual 210, 3) := by decide +kernel
theorem dX7_smallestRegister_47 : decode cX7_smallestRegister 47 = .ok (.iload_n 1, 1) := by decide +kernel
theorem dX7_smallestRegister_48 : decode cX7_smallestRegister 48 = .ok (.if_icmp .ne 6, 3) := by decide +kernel
theorem dX7_smallestRegister_51 : decode cX7_smallestRegister 51 = .ok (.iload 4, 2) := by decide +kernel
theorem dX7_smallestRegister_53 : decode cX7_smallestRegister 53 = .ok (.istore_n 2, 1) := by decide +kernel
theorem dX7_smallestRegister_54 : decode cX7_smallestRegister 54 = .ok (.iinc 4 1, 3) := by decide +kernel
theorem dX7_smallestRegister_57 : decode cX7_smallestRegister 57 = .ok (.goto (-37), 3) := by decide +kernel
theorem dX7_smallestRegister_60 : decode cX7_smallestRegister 60 = .ok (.iload_n 2, 1) := by decide +kernel
theorem dX7_smallestRegister_61 : decode cX7_smallestRegister 61 = .ok (.ireturn, 1) := by decide +kernel
theorem dX7_needless_0 : decode cX7_needless 0 = .ok (.aload_n 0, 1) := by decide +kernel
theorem dX7_needless_1 : decode cX7_needless 1 = .ok (.invokevirtual 122, 3) := by decide +kernel
theorem dX7_needless_4 : decode cX7_needless 4 = .ok (.istore_n 1, 1) := by decide +kernel
theorem dX7_needless_5 : decode cX7_needless 5 = .ok (.iconst 0, 1) := by decide +kernel
theorem dX7_needless_6 : decode cX7_needless 6 = .ok (.istore_n 2, 1) := by decide +kernel
theorem dX7_needless_7 : decode cX7_needless 7 = .ok (.iconst 0, 1) := by decide +kernel
theorem dX7_needless_8 : decode cX7_needless 8 = .ok (.istore_n 3, 1) := by decide +kernel
theorem dX7_needless_9 : decode cX7_needless 9 = .ok (.iload_n 3, 1) := by decide +kernel
theorem dX7_needless_10 : decode cX7_needless 10 = .ok (.aload_n 0, 1) := by decide +kernel
theorem dX7_needless_11 : decode cX7_needless 11 = .ok (.getfield 58, 3) := by decide +kernel
theorem dX7_needless_14 : decode cX7_needless 14 = .ok (.getfield 98, 3) := by decide +kernel
theorem dX7_needless_17 : decode cX7_needless 17 = .ok (.if_icmp .ge 65, 3) := by decide +kernel
theorem dX7_needless_20 : decode cX7_needless 20 = .ok (.aload_n 0, 1) := by decide +kernel
theorem dX7_needless_21 : decode cX7_needless 21 = .ok (.getfield 19, 3) := by decide +kernel
theorem dX7_needless_24 : decode cX7_needless 24 = .ok (.getfield 119, 3) := by decide +kernel
theorem dX7_needless_27 : decode cX7_needless 27 = .ok (.iconst 1, 1) := by decide +kernel
theorem dX7_needless_28 : decode cX7_needless 28 = .ok (.iload_n 3, 1) := by decide +kernel
theorem dX7_needless_29 : decode cX7_needless 29 = .ok (.ishl, 1) := by decide +kernel
theorem dX7_needless_30 : decode cX7_needless 30 = .ok (.iand, 1) := by decide +kernel
theorem dX7_needless_31 : decode cX7_needless 31 = .ok (.ifCond .eq 7, 3) := by decide +kernel
theorem dX7_needless_34 : decode cX7_needless 34 = .ok (.iconst 1, 1) := by decide +kernel
theorem dX7_needless_35 : decode cX7_needless 35 = .ok (.goto 4, 3) := by decide +kernel
theorem dX7_needless_38 : decode cX7_needless 38 = .ok (.iconst 0, 1) := by decide +kernel
theorem dX7_needless_39 : decode cX7_needless 39 = .ok (.istore 4, 2) := by decide +kernel
theorem dX7_needless_41 : decode cX7_needless 41 = .ok (.iload 4, 2) := by decide +kernel
theorem dX7_needless_43 : decode cX7_needless 43 = .ok (.ifCond .eq 33, 3) := by decide +kernel
theorem dX7_needless_46 : decode cX7_needless 46 = .ok (.aload_n 0, 1) := by decide +kernel
theorem dX7_needless_47 : decode cX7_needless 47 = .ok (.getfield 58, 3) := by decide +kernel
theorem dX7_needless_50 : decode cX7_needless 50 = .ok (.aload_n 0, 1) := by decide +kernel
theorem dX7_needless_51 : decode cX7_needless 51 = .ok (.getfield 19, 3) := by decide +kernel
theorem dX7_needless_54 : decode cX7_needless 54 = .ok (.getfield 119, 3) := by decide +kernel
theorem dX7_needless_57 : decode cX7_needless 57 = .ok (.iconst 1, 1) := by decide +kernel
theorem dX7_needless_58 : decode cX7_needless 58 = .ok (.iload_n 3, 1) := by decide +kernel
theorem dX7_needless_59 : decode cX7_needless 59 = .ok (.ishl, 1) := by decide +kernel
theorem dX7_needless_60 : decode cX7_needless 60 = .ok (.iconst (-1), 1) := by decide +kernel
theorem dX7_needless_61 : decode cX7_needless 61 = .ok (.ixor, 1) := by decide +kernel
theorem dX7_needless_62 : decode cX7_needless 62 = .ok (.iand, 1) := by decide +kernel
theorem dX7_needless_63 : decode cX7_needless 63 = .ok (.invokevirtual 210, 3) := by decide +kernel
theorem dX7_needless_66 : decode cX7_needless 66 = .ok (.iload_n 1, 1) := by decide +kernel
theorem dX7_needless_67 : decode cX7_needless 67 = .ok (.if_icmp .ne 9, 3) := by decide +kernel
theorem dX7_needless_70 : decode cX7_needless 70 = .ok (.iload_n 2, 1) := by decide +kernel
theorem dX7_needless_71 : decode cX7_needless 71 = .ok (.iconst 1, 1) := by decide +kernel
theorem dX7_needless_72 : decode cX7_needless 72 = .ok (.iload_n 3, 1) := by decide +kernel
theorem dX7_needless_73 : decode cX7_needless 73 = .ok (.ishl, 1) := by decide +kernel
theorem dX7_needless_74 : decode cX7_needless 74 = .ok (.ior, 1) := by decide +kernel
theorem dX7_needless_75 : decode cX7_needless 75 = .ok (.istore_n 2, 1) := by decide +kernel
theorem dX7_needless_76 : decode cX7_needless 76 = .ok (.iinc 3 1, 3) := by decide +kernel
theorem dX7_needless_79 : decode cX7_needless 79 = .ok (.goto (-70), 3) := by decide +kernel
theorem dX7_needless_82 : decode cX7_needless 82 = .ok (.iload_n 2, 1) := by decide +kernel
theorem dX7_needless_83 : decode cX7_needless 83 = .ok (.ireturn, 1) := by decide +kernel
