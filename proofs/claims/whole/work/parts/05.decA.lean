theorem dX0_init_0 : decode cX0_init 0 = .ok (.aload_n 0, 1) := by decide +kernel
theorem dX0_init_1 : decode cX0_init 1 = .ok (.invokespecial 3, 3) := by decide +kernel
theorem dX0_init_4 : decode cX0_init 4 = .ok (.aload_n 0, 1) := by decide +kernel
theorem dX0_init_5 : decode cX0_init 5 = .ok (.bipush 15, 2) := by decide +kernel
theorem dX0_init_7 : decode cX0_init 7 = .ok (.newarray .int, 2) := by decide +kernel
theorem dX0_init_9 : decode cX0_init 9 = .ok (.putfield 9, 3) := by decide +kernel
theorem dX0_init_12 : decode cX0_init 12 = .ok (.aload_n 0, 1) := by decide +kernel
theorem dX0_init_13 : decode cX0_init 13 = .ok (.bipush 15, 2) := by decide +kernel
theorem dX0_init_15 : decode cX0_init 15 = .ok (.newarray .int, 2) := by decide +kernel
theorem dX0_init_17 : decode cX0_init 17 = .ok (.putfield 15, 3) := by decide +kernel
theorem dX0_init_20 : decode cX0_init 20 = .ok (.return_, 1) := by decide +kernel
theorem dX0_append_0 : decode cX0_append 0 = .ok (.aload_n 0, 1) := by decide +kernel
theorem dX0_append_1 : decode cX0_append 1 = .ok (.getfield 18, 3) := by decide +kernel
theorem dX0_append_4 : decode cX0_append 4 = .ok (.bipush 15, 2) := by decide +kernel
theorem dX0_append_6 : decode cX0_append 6 = .ok (.if_icmp .lt 5, 3) := by decide +kernel
theorem dX0_append_9 : decode cX0_append 9 = .ok (.iconst 0, 1) := by decide +kernel
theorem dX0_append_10 : decode cX0_append 10 = .ok (.ireturn, 1) := by decide +kernel
theorem dX0_append_11 : decode cX0_append 11 = .ok (.aload_n 0, 1) := by decide +kernel
theorem dX0_append_12 : decode cX0_append 12 = .ok (.getfield 9, 3) := by decide +kernel
theorem dX0_append_15 : decode cX0_append 15 = .ok (.aload_n 0, 1) := by decide +kernel
theorem dX0_append_16 : decode cX0_append 16 = .ok (.getfield 18, 3) := by decide +kernel
theorem dX0_append_19 : decode cX0_append 19 = .ok (.iload_n 1, 1) := by decide +kernel
theorem dX0_append_20 : decode cX0_append 20 = .ok (.iastore, 1) := by decide +kernel
theorem dX0_append_21 : decode cX0_append 21 = .ok (.aload_n 0, 1) := by decide +kernel
theorem dX0_append_22 : decode cX0_append 22 = .ok (.getfield 15, 3) := by decide +kernel
theorem dX0_append_25 : decode cX0_append 25 = .ok (.aload_n 0, 1) := by decide +kernel
theorem dX0_append_26 : decode cX0_append 26 = .ok (.getfield 18, 3) := by decide +kernel
theorem dX0_append_29 : decode cX0_append 29 = .ok (.iload_n 2, 1) := by decide +kernel
theorem dX0_append_30 : decode cX0_append 30 = .ok (.iastore, 1) := by decide +kernel
theorem dX0_append_31 : decode cX0_append 31 = .ok (.aload_n 0, 1) := by decide +kernel
theorem dX0_append_32 : decode cX0_append 32 = .ok (.dup, 1) := by decide +kernel
theorem dX0_append_33 : decode cX0_append 33 = .ok (.getfield 18, 3) := by decide +kernel
theorem dX0_append_36 : decode cX0_append 36 = .ok (.iconst 1, 1) := by decide +kernel
theorem dX0_append_37 : decode cX0_append 37 = .ok (.iadd, 1) := by decide +kernel
theorem dX0_append_38 : decode cX0_append 38 = .ok (.putfield 18, 3) := by decide +kernel
theorem dX0_append_41 : decode cX0_append 41 = .ok (.iconst 1, 1) := by decide +kernel
theorem dX0_append_42 : decode cX0_append 42 = .ok (.ireturn, 1) := by decide +kernel
theorem dX0_firstWrong_0 : decode cX0_firstWrong 0 = .ok (.iconst 0, 1) := by decide +kernel
theorem dX0_firstWrong_1 : decode cX0_firstWrong 1 = .ok (.istore_n 2, 1) := by decide +kernel
theorem dX0_firstWrong_2 : decode cX0_firstWrong 2 = .ok (.iload_n 2, 1) := by decide +kernel
theorem dX0_firstWrong_3 : decode cX0_firstWrong 3 = .ok (.aload_n 0, 1) := by decide +kernel
theorem dX0_firstWrong_4 : decode cX0_firstWrong 4 = .ok (.getfield 18, 3) := by decide +kernel
theorem dX0_firstWrong_7 : decode cX0_firstWrong 7 = .ok (.if_icmp .ge 30, 3) := by decide +kernel
theorem dX0_firstWrong_10 : decode cX0_firstWrong 10 = .ok (.iload_n 1, 1) := by decide +kernel
theorem dX0_firstWrong_11 : decode cX0_firstWrong 11 = .ok (.aload_n 0, 1) := by decide +kernel
theorem dX0_firstWrong_12 : decode cX0_firstWrong 12 = .ok (.getfield 9, 3) := by decide +kernel
theorem dX0_firstWrong_15 : decode cX0_firstWrong 15 = .ok (.iload_n 2, 1) := by decide +kernel
theorem dX0_firstWrong_16 : decode cX0_firstWrong 16 = .ok (.iaload, 1) := by decide +kernel
theorem dX0_firstWrong_17 : decode cX0_firstWrong 17 = .ok (.ishr, 1) := by decide +kernel
theorem dX0_firstWrong_18 : decode cX0_firstWrong 18 = .ok (.iconst 1, 1) := by decide +kernel
theorem dX0_firstWrong_19 : decode cX0_firstWrong 19 = .ok (.iand, 1) := by decide +kernel
theorem dX0_firstWrong_20 : decode cX0_firstWrong 20 = .ok (.aload_n 0, 1) := by decide +kernel
theorem dX0_firstWrong_21 : decode cX0_firstWrong 21 = .ok (.getfield 15, 3) := by decide +kernel
theorem dX0_firstWrong_24 : decode cX0_firstWrong 24 = .ok (.iload_n 2, 1) := by decide +kernel
theorem dX0_firstWrong_25 : decode cX0_firstWrong 25 = .ok (.iaload, 1) := by decide +kernel
theorem dX0_firstWrong_26 : decode cX0_firstWrong 26 = .ok (.if_icmp .eq 5, 3) := by decide +kernel
theorem dX0_firstWrong_29 : decode cX0_firstWrong 29 = .ok (.iload_n 2, 1) := by decide +kernel
theorem dX0_firstWrong_30 : decode cX0_firstWrong 30 = .ok (.ireturn, 1) := by decide +kernel
theorem dX0_firstWrong_31 : decode cX0_firstWrong 31 = .ok (.iinc 2 1, 3) := by decide +kernel
theorem dX0_firstWrong_34 : decode cX0_firstWrong 34 = .ok (.goto (-32), 3) := by decide +kernel
theorem dX0_firstWrong_37 : decode cX0_firstWrong 37 = .ok (.iconst (-1), 1) := by decide +kernel
theorem dX0_firstWrong_38 : decode cX0_firstWrong 38 = .ok (.ireturn, 1) := by decide +kernel
theorem dX1_init_0 : decode cX1_init 0 = .ok (.aload_n 0, 1) := by decide +kernel
theorem dX1_init_1 : decode cX1_init 1 = .ok (.invokespecial 3, 3) := by decide +kernel
theorem dX1_init_4 : decode cX1_init 4 = .ok (.aload_n 0, 1) := by decide +kernel
theorem dX1_init_5 : decode cX1_init 5 = .ok (.bipush 8, 2) := by decide +kernel
theorem dX1_init_7 : decode cX1_init 7 = .ok (.newarray .int, 2) := by decide +kernel
theorem dX1_init_9 : decode cX1_init 9 = .ok (.putfield 9, 3) := by decide +kernel
theorem dX1_init_12 : decode cX1_init 12 = .ok (.aload_n 0, 1) := by decide +kernel
theorem dX1_init_13 : decode cX1_init 13 = .ok (.bipush 10, 2) := by decide +kernel
theorem dX1_init_15 : decode cX1_init 15 = .ok (.newarray .int, 2) := by decide +kernel
theorem dX1_init_17 : decode cX1_init 17 = .ok (.putfield 15, 3) := by decide +kernel
theorem dX1_init_20 : decode cX1_init 20 = .ok (.aload_n 0, 1) := by decide +kernel
theorem dX1_init_21 : decode cX1_init 21 = .ok (.bipush 10, 2) := by decide +kernel
theorem dX1_init_23 : decode cX1_init 23 = .ok (.newarray .int, 2) := by decide +kernel
theorem dX1_init_25 : decode cX1_init 25 = .ok (.putfield 18, 3) := by decide +kernel
theorem dX1_init_28 : decode cX1_init 28 = .ok (.aload_n 0, 1) := by decide +kernel
theorem dX1_init_29 : decode cX1_init 29 = .ok (.bipush 10, 2) := by decide +kernel
theorem dX1_init_31 : decode cX1_init 31 = .ok (.newarray .int, 2) := by decide +kernel
theorem dX1_init_33 : decode cX1_init 33 = .ok (.putfield 21, 3) := by decide +kernel
theorem dX1_init_36 : decode cX1_init 36 = .ok (.aload_n 0, 1) := by decide +kernel
theorem dX1_init_37 : decode cX1_init 37 = .ok (.bipush 10, 2) := by decide +kernel
theorem dX1_init_39 : decode cX1_init 39 = .ok (.newarray .int, 2) := by decide +kernel
theorem dX1_init_41 : decode cX1_init 41 = .ok (.putfield 24, 3) := by decide +kernel
theorem dX1_init_44 : decode cX1_init 44 = .ok (.aload_n 0, 1) := by decide +kernel
theorem dX1_init_45 : decode cX1_init 45 = .ok (.bipush 10, 2) := by decide +kernel
theorem dX1_init_47 : decode cX1_init 47 = .ok (.newarray .int, 2) := by decide +kernel
theorem dX1_init_49 : decode cX1_init 49 = .ok (.putfield 27, 3) := by decide +kernel
theorem dX1_init_52 : decode cX1_init 52 = .ok (.aload_n 0, 1) := by decide +kernel
theorem dX1_init_53 : decode cX1_init 53 = .ok (.bipush 10, 2) := by decide +kernel
theorem dX1_init_55 : decode cX1_init 55 = .ok (.newarray .int, 2) := by decide +kernel
theorem dX1_init_57 : decode cX1_init 57 = .ok (.putfield 30, 3) := by decide +kernel
theorem dX1_init_60 : decode cX1_init 60 = .ok (.aload_n 0, 1) := by decide +kernel
theorem dX1_init_61 : decode cX1_init 61 = .ok (.iconst 5, 1) := by decide +kernel
theorem dX1_init_62 : decode cX1_init 62 = .ok (.newarray .int, 2) := by decide +kernel
theorem dX1_init_64 : decode cX1_init 64 = .ok (.putfield 33, 3) := by decide +kernel
theorem dX1_init_67 : decode cX1_init 67 = .ok (.aload_n 0, 1) := by decide +kernel
theorem dX1_init_68 : decode cX1_init 68 = .ok (.sipush 256, 3) := by decide +kernel
theorem dX1_init_71 : decode cX1_init 71 = .ok (.newarray .int, 2) := by decide +kernel
theorem dX1_init_73 : decode cX1_init 73 = .ok (.putfield 36, 3) := by decide +kernel
theorem dX1_init_76 : decode cX1_init 76 = .ok (.return_, 1) := by decide +kernel
theorem dX1_clear_0 : decode cX1_clear 0 = .ok (.aload_n 0, 1) := by decide +kernel
theorem dX1_clear_1 : decode cX1_clear 1 = .ok (.iconst 0, 1) := by decide +kernel
theorem dX1_clear_2 : decode cX1_clear 2 = .ok (.putfield 39, 3) := by decide +kernel
theorem dX1_clear_5 : decode cX1_clear 5 = .ok (.aload_n 0, 1) := by decide +kernel
theorem dX1_clear_6 : decode cX1_clear 6 = .ok (.iconst 0, 1) := by decide +kernel
theorem dX1_clear_7 : decode cX1_clear 7 = .ok (.putfield 43, 3) := by decide +kernel
theorem dX1_clear_10 : decode cX1_clear 10 = .ok (.aload_n 0, 1) := by decide +kernel
theorem dX1_clear_11 : decode cX1_clear 11 = .ok (.iconst 0, 1) := by decide +kernel
theorem dX1_clear_12 : decode cX1_clear 12 = .ok (.putfield 47, 3) := by decide +kernel
theorem dX1_clear_15 : decode cX1_clear 15 = .ok (.aload_n 0, 1) := by decide +kernel
theorem dX1_clear_16 : decode cX1_clear 16 = .ok (.iconst 0, 1) := by decide +kernel
theorem dX1_clear_17 : decode cX1_clear 17 = .ok (.putfield 50, 3) := by decide +kernel
theorem dX1_clear_20 : decode cX1_clear 20 = .ok (.aload_n 0, 1) := by decide +kernel
theorem dX1_clear_21 : decode cX1_clear 21 = .ok (.iconst 0, 1) := by decide +kernel
theorem dX1_clear_22 : decode cX1_clear 22 = .ok (.putfield 53, 3) := by decide +kernel
theorem dX1_clear_25 : decode cX1_clear 25 = .ok (.aload_n 0, 1) := by decide +kernel
theorem dX1_clear_26 : decode cX1_clear 26 = .ok (.iconst 0, 1) := by decide +kernel
theorem dX1_clear_27 : decode cX1_clear 27 = .ok (.putfield 56, 3) := by decide +kernel
theorem dX1_clear_30 : decode cX1_clear 30 = .ok (.aload_n 0, 1) := by decide +kernel
theorem dX1_clear_31 : decode cX1_clear 31 = .ok (.iconst 0, 1) := by decide +kernel
theorem dX1_clear_32 : decode cX1_clear 32 = .ok (.putfield 59, 3) := by decide +kernel
theorem dX1_clear_35 : decode cX1_clear 35 = .ok (.aload_n 0, 1) := by decide +kernel
theorem dX1_clear_36 : decode cX1_clear 36 = .ok (.iconst 0, 1) := by decide +kernel
theorem dX1_clear_37 : decode cX1_clear 37 = .ok (.putfield 62, 3) := by decide +kernel
theorem dX1_clear_40 : decode cX1_clear 40 = .ok (.return_, 1) := by decide +kernel
theorem dX1_isIdea_0 : decode cX1_isIdea 0 = .ok (.iload_n 1, 1) := by decide +kernel
theorem dX1_isIdea_1 : decode cX1_isIdea 1 = .ok (.ifCond .lt 15, 3) := by decide +kernel
theorem dX1_isIdea_4 : decode cX1_isIdea 4 = .ok (.iload_n 1, 1) := by decide +kernel
theorem dX1_isIdea_5 : decode cX1_isIdea 5 = .ok (.aload_n 0, 1) := by decide +kernel
theorem dX1_isIdea_6 : decode cX1_isIdea 6 = .ok (.getfield 50, 3) := by decide +kernel
theorem dX1_isIdea_9 : decode cX1_isIdea 9 = .ok (.if_icmp .ge 7, 3) := by decide +kernel
theorem dX1_isIdea_12 : decode cX1_isIdea 12 = .ok (.iconst 1, 1) := by decide +kernel
theorem dX1_isIdea_13 : decode cX1_isIdea 13 = .ok (.goto 4, 3) := by decide +kernel
theorem dX1_isIdea_16 : decode cX1_isIdea 16 = .ok (.iconst 0, 1) := by decide +kernel
theorem dX1_isIdea_17 : decode cX1_isIdea 17 = .ok (.ireturn, 1) := by decide +kernel
theorem dX1_isTraveller_0 : decode cX1_isTraveller 0 = .ok (.iload_n 1, 1) := by decide +kernel
theorem dX1_isTraveller_1 : decode cX1_isTraveller 1 = .ok (.ifCond .lt 15, 3) := by decide +kernel
theorem dX1_isTraveller_4 : decode cX1_isTraveller 4 = .ok (.iload_n 1, 1) := by decide +kernel
theorem dX1_isTraveller_5 : decode cX1_isTraveller 5 = .ok (.aload_n 0, 1) := by decide +kernel
theorem dX1_isTraveller_6 : decode cX1_isTraveller 6 = .ok (.getfield 62, 3) := by decide +kernel
theorem dX1_isTraveller_9 : decode cX1_isTraveller 9 = .ok (.if_icmp .ge 7, 3) := by decide +kernel
theorem dX1_isTraveller_12 : decode cX1_isTraveller 12 = .ok (.iconst 1, 1) := by decide +kernel
theorem dX1_isTraveller_13 : decode cX1_isTraveller 13 = .ok (.goto 4, 3) := by decide +kernel
theorem dX1_isTraveller_16 : decode cX1_isTraveller 16 = .ok (.iconst 0, 1) := by decide +kernel
theorem dX1_isTraveller_17 : decode cX1_isTraveller 17 = .ok (.ireturn, 1) := by decide +kernel
theorem dX1_isSet_0 : decode cX1_isSet 0 = .ok (.iload_n 1, 1) := by decide +kernel
theorem dX1_isSet_1 : decode cX1_isSet 1 = .ok (.ifCond .lt 17, 3) := by decide +kernel
theorem dX1_isSet_4 : decode cX1_isSet 4 = .ok (.iload_n 1, 1) := by decide +kernel
theorem dX1_isSet_5 : decode cX1_isSet 5 = .ok (.iconst 1, 1) := by decide +kernel
theorem dX1_isSet_6 : decode cX1_isSet 6 = .ok (.aload_n 0, 1) := by decide +kernel
theorem dX1_isSet_7 : decode cX1_isSet 7 = .ok (.getfield 50, 3) := by decide +kernel
theorem dX1_isSet_10 : decode cX1_isSet 10 = .ok (.ishl, 1) := by decide +kernel
theorem dX1_isSet_11 : decode cX1_isSet 11 = .ok (.if_icmp .ge 7, 3) := by decide +kernel
theorem dX1_isSet_14 : decode cX1_isSet 14 = .ok (.iconst 1, 1) := by decide +kernel
theorem dX1_isSet_15 : decode cX1_isSet 15 = .ok (.goto 4, 3) := by decide +kernel
theorem dX1_isSet_18 : decode cX1_isSet 18 = .ok (.iconst 0, 1) := by decide +kernel
theorem dX1_isSet_19 : decode cX1_isSet 19 = .ok (.ireturn, 1) := by decide +kernel
theorem dX1_findAllFrom_0 : decode cX1_findAllFrom 0 = .ok (.iconst 1, 1) := by decide +kernel
theorem dX1_findAllFrom_1 : decode cX1_findAllFrom 1 = .ok (.aload_n 0, 1) := by decide +kernel
theorem dX1_findAllFrom_2 : decode cX1_findAllFrom 2 = .ok (.getfield 50, 3) := by decide +kernel
theorem dX1_findAllFrom_5 : decode cX1_findAllFrom 5 = .ok (.ishl, 1) := by decide +kernel
theorem dX1_findAllFrom_6 : decode cX1_findAllFrom 6 = .ok (.istore_n 1, 1) := by decide +kernel
theorem dX1_findAllFrom_7 : decode cX1_findAllFrom 7 = .ok (.iconst 0, 1) := by decide +kernel
theorem dX1_findAllFrom_8 : decode cX1_findAllFrom 8 = .ok (.istore_n 2, 1) := by decide +kernel
theorem dX1_findAllFrom_9 : decode cX1_findAllFrom 9 = .ok (.iload_n 2, 1) := by decide +kernel
theorem dX1_findAllFrom_10 : decode cX1_findAllFrom 10 = .ok (.iload_n 1, 1) := by decide +kernel
theorem dX1_findAllFrom_11 : decode cX1_findAllFrom 11 = .ok (.if_icmp .ge 39, 3) := by decide +kernel
theorem dX1_findAllFrom_14 : decode cX1_findAllFrom 14 = .ok (.aload_n 0, 1) := by decide +kernel
theorem dX1_findAllFrom_15 : decode cX1_findAllFrom 15 = .ok (.getfield 36, 3) := by decide +kernel
theorem dX1_findAllFrom_18 : decode cX1_findAllFrom 18 = .ok (.iload_n 2, 1) := by decide +kernel
theorem dX1_findAllFrom_19 : decode cX1_findAllFrom 19 = .ok (.aload_n 0, 1) := by decide +kernel
theorem dX1_findAllFrom_20 : decode cX1_findAllFrom 20 = .ok (.iload_n 2, 1) := by decide +kernel
theorem dX1_findAllFrom_21 : decode cX1_findAllFrom 21 = .ok (.ifCond .ne 7, 3) := by decide +kernel
theorem dX1_findAllFrom_24 : decode cX1_findAllFrom 24 = .ok (.iconst 0, 1) := by decide +kernel
theorem dX1_findAllFrom_25 : decode cX1_findAllFrom 25 = .ok (.goto 15, 3) := by decide +kernel
theorem dX1_findAllFrom_28 : decode cX1_findAllFrom 28 = .ok (.iload_n 2, 1) := by decide +kernel
theorem dX1_findAllFrom_29 : decode cX1_findAllFrom 29 = .ok (.aload_n 0, 1) := by decide +kernel
theorem dX1_findAllFrom_30 : decode cX1_findAllFrom 30 = .ok (.getfield 36, 3) := by decide +kernel
theorem dX1_findAllFrom_33 : decode cX1_findAllFrom 33 = .ok (.iload_n 2, 1) := by decide +kernel
theorem dX1_findAllFrom_34 : decode cX1_findAllFrom 34 = .ok (.iload_n 2, 1) := by decide +kernel
theorem dX1_findAllFrom_35 : decode cX1_findAllFrom 35 = .ok (.iconst 1, 1) := by decide +kernel
theorem dX1_findAllFrom_36 : decode cX1_findAllFrom 36 = .ok (.isub, 1) := by decide +kernel
theorem dX1_findAllFrom_37 : decode cX1_findAllFrom 37 = .ok (.iand, 1) := by decide +kernel
theorem dX1_findAllFrom_38 : decode cX1_findAllFrom 38 = .ok (.iaload, 1) := by decide +kernel
theorem dX1_findAllFrom_39 : decode cX1_findAllFrom 39 = .ok (.ior, 1) := by decide +kernel
theorem dX1_findAllFrom_40 : decode cX1_findAllFrom 40 = .ok (.invokevirtual 65, 3) := by decide +kernel
theorem dX1_findAllFrom_43 : decode cX1_findAllFrom 43 = .ok (.iastore, 1) := by decide +kernel
theorem dX1_findAllFrom_44 : decode cX1_findAllFrom 44 = .ok (.iinc 2 1, 3) := by decide +kernel
theorem dX1_findAllFrom_47 : decode cX1_findAllFrom 47 = .ok (.goto (-38), 3) := by decide +kernel
theorem dX1_findAllFrom_50 : decode cX1_findAllFrom 50 = .ok (.return_, 1) := by decide +kernel
theorem dX1_joined_0 : decode cX1_joined 0 = .ok (.iload_n 1, 1) := by decide +kernel
theorem dX1_joined_1 : decode cX1_joined 1 = .ok (.istore_n 2, 1) := by decide +kernel
theorem dX1_joined_2 : decode cX1_joined 2 = .ok (.iconst 0, 1) := by decide +kernel
theorem dX1_joined_3 : decode cX1_joined 3 = .ok (.istore_n 3, 1) := by decide +kernel
theorem dX1_joined_4 : decode cX1_joined 4 = .ok (.iload_n 3, 1) := by decide +kernel
theorem dX1_joined_5 : decode cX1_joined 5 = .ok (.bipush 8, 2) := by decide +kernel
theorem dX1_joined_7 : decode cX1_joined 7 = .ok (.if_icmp .ge 81, 3) := by decide +kernel
theorem dX1_joined_10 : decode cX1_joined 10 = .ok (.iload_n 2, 1) := by decide +kernel
theorem dX1_joined_11 : decode cX1_joined 11 = .ok (.istore 4, 2) := by decide +kernel
theorem dX1_joined_13 : decode cX1_joined 13 = .ok (.iconst 0, 1) := by decide +kernel
theorem dX1_joined_14 : decode cX1_joined 14 = .ok (.istore 5, 2) := by decide +kernel
theorem dX1_joined_16 : decode cX1_joined 16 = .ok (.iload 5, 2) := by decide +kernel
theorem dX1_joined_18 : decode cX1_joined 18 = .ok (.aload_n 0, 1) := by decide +kernel
theorem dX1_joined_19 : decode cX1_joined 19 = .ok (.getfield 53, 3) := by decide +kernel
theorem dX1_joined_22 : decode cX1_joined 22 = .ok (.if_icmp .ge 51, 3) := by decide +kernel
theorem dX1_joined_25 : decode cX1_joined 25 = .ok (.iconst 1, 1) := by decide +kernel
theorem dX1_joined_26 : decode cX1_joined 26 = .ok (.aload_n 0, 1) := by decide +kernel
theorem dX1_joined_27 : decode cX1_joined 27 = .ok (.getfield 15, 3) := by decide +kernel
theorem dX1_joined_30 : decode cX1_joined 30 = .ok (.iload 5, 2) := by decide +kernel
theorem dX1_joined_32 : decode cX1_joined 32 = .ok (.iaload, 1) := by decide +kernel
theorem dX1_joined_33 : decode cX1_joined 33 = .ok (.ishl, 1) := by decide +kernel
theorem dX1_joined_34 : decode cX1_joined 34 = .ok (.iconst 1, 1) := by decide +kernel
theorem dX1_joined_35 : decode cX1_joined 35 = .ok (.aload_n 0, 1) := by decide +kernel
theorem dX1_joined_36 : decode cX1_joined 36 = .ok (.getfield 18, 3) := by decide +kernel
theorem dX1_joined_39 : decode cX1_joined 39 = .ok (.iload 5, 2) := by decide +kernel
theorem dX1_joined_41 : decode cX1_joined 41 = .ok (.iaload, 1) := by decide +kernel
theorem dX1_joined_42 : decode cX1_joined 42 = .ok (.ishl, 1) := by decide +kernel
theorem dX1_joined_43 : decode cX1_joined 43 = .ok (.ior, 1) := by decide +kernel
theorem dX1_joined_44 : decode cX1_joined 44 = .ok (.istore 6, 2) := by decide +kernel
theorem dX1_joined_46 : decode cX1_joined 46 = .ok (.iload_n 2, 1) := by decide +kernel
theorem dX1_joined_47 : decode cX1_joined 47 = .ok (.iload 6, 2) := by decide +kernel
theorem dX1_joined_49 : decode cX1_joined 49 = .ok (.iand, 1) := by decide +kernel
theorem dX1_joined_50 : decode cX1_joined 50 = .ok (.iload 6, 2) := by decide +kernel
theorem dX1_joined_52 : decode cX1_joined 52 = .ok (.if_icmp .ne 15, 3) := by decide +kernel
theorem dX1_joined_55 : decode cX1_joined 55 = .ok (.iload_n 2, 1) := by decide +kernel
theorem dX1_joined_56 : decode cX1_joined 56 = .ok (.iconst 1, 1) := by decide +kernel
theorem dX1_joined_57 : decode cX1_joined 57 = .ok (.aload_n 0, 1) := by decide +kernel
theorem dX1_joined_58 : decode cX1_joined 58 = .ok (.getfield 21, 3) := by decide +kernel
theorem dX1_joined_61 : decode cX1_joined 61 = .ok (.iload 5, 2) := by decide +kernel
theorem dX1_joined_63 : decode cX1_joined 63 = .ok (.iaload, 1) := by decide +kernel
theorem dX1_joined_64 : decode cX1_joined 64 = .ok (.ishl, 1) := by decide +kernel
theorem dX1_joined_65 : decode cX1_joined 65 = .ok (.ior, 1) := by decide +kernel
theorem dX1_joined_66 : decode cX1_joined 66 = .ok (.istore_n 2, 1) := by decide +kernel
theorem dX1_joined_67 : decode cX1_joined 67 = .ok (.iinc 5 1, 3) := by decide +kernel
theorem dX1_joined_70 : decode cX1_joined 70 = .ok (.goto (-54), 3) := by decide +kernel
theorem dX1_joined_73 : decode cX1_joined 73 = .ok (.iload_n 2, 1) := by decide +kernel
theorem dX1_joined_74 : decode cX1_joined 74 = .ok (.iload 4, 2) := by decide +kernel
theorem dX1_joined_76 : decode cX1_joined 76 = .ok (.if_icmp .ne 6, 3) := by decide +kernel
theorem dX1_joined_79 : decode cX1_joined 79 = .ok (.goto 9, 3) := by decide +kernel
theorem dX1_joined_82 : decode cX1_joined 82 = .ok (.iinc 3 1, 3) := by decide +kernel
theorem dX1_joined_85 : decode cX1_joined 85 = .ok (.goto (-81), 3) := by decide +kernel
theorem dX1_joined_88 : decode cX1_joined 88 = .ok (.iload_n 2, 1) := by decide +kernel
theorem dX1_joined_89 : decode cX1_joined 89 = .ok (.ireturn, 1) := by decide +kernel
theorem dX1_allFrom_0 : decode cX1_allFrom 0 = .ok (.aload_n 0, 1) := by decide +kernel
theorem dX1_allFrom_1 : decode cX1_allFrom 1 = .ok (.iload_n 1, 1) := by decide +kernel
theorem dX1_allFrom_2 : decode cX1_allFrom 2 = .ok (.invokevirtual 69, 3) := by decide +kernel
theorem dX1_allFrom_5 : decode cX1_allFrom 5 = .ok (.ifCond .eq 12, 3) := by decide +kernel
theorem dX1_allFrom_8 : decode cX1_allFrom 8 = .ok (.aload_n 0, 1) := by decide +kernel
theorem dX1_allFrom_9 : decode cX1_allFrom 9 = .ok (.getfield 36, 3) := by decide +kernel
theorem dX1_allFrom_12 : decode cX1_allFrom 12 = .ok (.iload_n 1, 1) := by decide +kernel
theorem dX1_allFrom_13 : decode cX1_allFrom 13 = .ok (.iaload, 1) := by decide +kernel
theorem dX1_allFrom_14 : decode cX1_allFrom 14 = .ok (.goto 4, 3) := by decide +kernel
theorem dX1_allFrom_17 : decode cX1_allFrom 17 = .ok (.iconst 0, 1) := by decide +kernel
theorem dX1_allFrom_18 : decode cX1_allFrom 18 = .ok (.ireturn, 1) := by decide +kernel
theorem dX1_sizeOf_0 : decode cX1_sizeOf 0 = .ok (.iconst 0, 1) := by decide +kernel
theorem dX1_sizeOf_1 : decode cX1_sizeOf 1 = .ok (.istore_n 2, 1) := by decide +kernel
theorem dX1_sizeOf_2 : decode cX1_sizeOf 2 = .ok (.iconst 0, 1) := by decide +kernel
theorem dX1_sizeOf_3 : decode cX1_sizeOf 3 = .ok (.istore_n 3, 1) := by decide +kernel
theorem dX1_sizeOf_4 : decode cX1_sizeOf 4 = .ok (.iload_n 3, 1) := by decide +kernel
theorem dX1_sizeOf_5 : decode cX1_sizeOf 5 = .ok (.aload_n 0, 1) := by decide +kernel
theorem dX1_sizeOf_6 : decode cX1_sizeOf 6 = .ok (.getfield 50, 3) := by decide +kernel
theorem dX1_sizeOf_9 : decode cX1_sizeOf 9 = .ok (.if_icmp .ge 30, 3) := by decide +kernel
theorem dX1_sizeOf_12 : decode cX1_sizeOf 12 = .ok (.iload_n 2, 1) := by decide +kernel
theorem dX1_sizeOf_13 : decode cX1_sizeOf 13 = .ok (.iload_n 1, 1) := by decide +kernel
theorem dX1_sizeOf_14 : decode cX1_sizeOf 14 = .ok (.iconst 1, 1) := by decide +kernel
theorem dX1_sizeOf_15 : decode cX1_sizeOf 15 = .ok (.iload_n 3, 1) := by decide +kernel
theorem dX1_sizeOf_16 : decode cX1_sizeOf 16 = .ok (.ishl, 1) := by decide +kernel
theorem dX1_sizeOf_17 : decode cX1_sizeOf 17 = .ok (.iand, 1) := by decide +kernel
theorem dX1_sizeOf_18 : decode cX1_sizeOf 18 = .ok (.ifCond .eq 12, 3) := by decide +kernel
theorem dX1_sizeOf_21 : decode cX1_sizeOf 21 = .ok (.aload_n 0, 1) := by decide +kernel
theorem dX1_sizeOf_22 : decode cX1_sizeOf 22 = .ok (.getfield 9, 3) := by decide +kernel
theorem dX1_sizeOf_25 : decode cX1_sizeOf 25 = .ok (.iload_n 3, 1) := by decide +kernel
theorem dX1_sizeOf_26 : decode cX1_sizeOf 26 = .ok (.iaload, 1) := by decide +kernel
theorem dX1_sizeOf_27 : decode cX1_sizeOf 27 = .ok (.goto 4, 3) := by decide +kernel
theorem dX1_sizeOf_30 : decode cX1_sizeOf 30 = .ok (.iconst 0, 1) := by decide +kernel
theorem dX1_sizeOf_31 : decode cX1_sizeOf 31 = .ok (.iadd, 1) := by decide +kernel
theorem dX1_sizeOf_32 : decode cX1_sizeOf 32 = .ok (.istore_n 2, 1) := by decide +kernel
theorem dX1_sizeOf_33 : decode cX1_sizeOf 33 = .ok (.iinc 3 1, 3) := by decide +kernel
theorem dX1_sizeOf_36 : decode cX1_sizeOf 36 = .ok (.goto (-32), 3) := by decide +kernel
theorem dX1_sizeOf_39 : decode cX1_sizeOf 39 = .ok (.iload_n 2, 1) := by decide +kernel
theorem dX1_sizeOf_40 : decode cX1_sizeOf 40 = .ok (.ireturn, 1) := by decide +kernel
theorem dX1_isStuck_0 : decode cX1_isStuck 0 = .ok (.aload_n 0, 1) := by decide +kernel
theorem dX1_isStuck_1 : decode cX1_isStuck 1 = .ok (.iload_n 1, 1) := by decide +kernel
theorem dX1_isStuck_2 : decode cX1_isStuck 2 = .ok (.invokevirtual 73, 3) := by decide +kernel
theorem dX1_isStuck_5 : decode cX1_isStuck 5 = .ok (.aload_n 0, 1) := by decide +kernel
theorem dX1_isStuck_6 : decode cX1_isStuck 6 = .ok (.getfield 43, 3) := by decide +kernel
theorem dX1_isStuck_9 : decode cX1_isStuck 9 = .ok (.if_icmp .le 7, 3) := by decide +kernel
theorem dX1_isStuck_12 : decode cX1_isStuck 12 = .ok (.iconst 1, 1) := by decide +kernel
theorem dX1_isStuck_13 : decode cX1_isStuck 13 = .ok (.goto 4, 3) := by decide +kernel
theorem dX1_isStuck_16 : decode cX1_isStuck 16 = .ok (.iconst 0, 1) := by decide +kernel
theorem dX1_isStuck_17 : decode cX1_isStuck 17 = .ok (.ireturn, 1) := by decide +kernel
theorem dX1_duty_0 : decode cX1_duty 0 = .ok (.iconst 0, 1) := by decide +kernel
theorem dX1_duty_1 : decode cX1_duty 1 = .ok (.istore_n 3, 1) := by decide +kernel
theorem dX1_duty_2 : decode cX1_duty 2 = .ok (.iconst 0, 1) := by decide +kernel
theorem dX1_duty_3 : decode cX1_duty 3 = .ok (.istore 4, 2) := by decide +kernel
theorem dX1_duty_5 : decode cX1_duty 5 = .ok (.iload 4, 2) := by decide +kernel
theorem dX1_duty_7 : decode cX1_duty 7 = .ok (.aload_n 0, 1) := by decide +kernel
theorem dX1_duty_8 : decode cX1_duty 8 = .ok (.getfield 50, 3) := by decide +kernel
theorem dX1_duty_11 : decode cX1_duty 11 = .ok (.if_icmp .ge 76, 3) := by decide +kernel
theorem dX1_duty_14 : decode cX1_duty 14 = .ok (.iconst 1, 1) := by decide +kernel
theorem dX1_duty_15 : decode cX1_duty 15 = .ok (.iload 4, 2) := by decide +kernel
theorem dX1_duty_17 : decode cX1_duty 17 = .ok (.ishl, 1) := by decide +kernel
theorem dX1_duty_18 : decode cX1_duty 18 = .ok (.istore 5, 2) := by decide +kernel
theorem dX1_duty_20 : decode cX1_duty 20 = .ok (.iload_n 1, 1) := by decide +kernel
theorem dX1_duty_21 : decode cX1_duty 21 = .ok (.iload_n 2, 1) := by decide +kernel
theorem dX1_duty_22 : decode cX1_duty 22 = .ok (.iconst (-1), 1) := by decide +kernel
theorem dX1_duty_23 : decode cX1_duty 23 = .ok (.ixor, 1) := by decide +kernel
theorem dX1_duty_24 : decode cX1_duty 24 = .ok (.iand, 1) := by decide +kernel
theorem dX1_duty_25 : decode cX1_duty 25 = .ok (.iload 5, 2) := by decide +kernel
theorem dX1_duty_27 : decode cX1_duty 27 = .ok (.iand, 1) := by decide +kernel
theorem dX1_duty_28 : decode cX1_duty 28 = .ok (.ifCond .eq 53, 3) := by decide +kernel
theorem dX1_duty_31 : decode cX1_duty 31 = .ok (.aload_n 0, 1) := by decide +kernel
theorem dX1_duty_32 : decode cX1_duty 32 = .ok (.iload_n 1, 1) := by decide +kernel
theorem dX1_duty_33 : decode cX1_duty 33 = .ok (.iload 5, 2) := by decide +kernel
theorem dX1_duty_35 : decode cX1_duty 35 = .ok (.iconst (-1), 1) := by decide +kernel
theorem dX1_duty_36 : decode cX1_duty 36 = .ok (.ixor, 1) := by decide +kernel
theorem dX1_duty_37 : decode cX1_duty 37 = .ok (.iand, 1) := by decide +kernel
theorem dX1_duty_38 : decode cX1_duty 38 = .ok (.invokevirtual 76, 3) := by decide +kernel
theorem dX1_duty_41 : decode cX1_duty 41 = .ok (.iload 5, 2) := by decide +kernel
theorem dX1_duty_43 : decode cX1_duty 43 = .ok (.iand, 1) := by decide +kernel
theorem dX1_duty_44 : decode cX1_duty 44 = .ok (.ifCond .eq 7, 3) := by decide +kernel
theorem dX1_duty_47 : decode cX1_duty 47 = .ok (.iconst 1, 1) := by decide +kernel
theorem dX1_duty_48 : decode cX1_duty 48 = .ok (.goto 4, 3) := by decide +kernel
theorem dX1_duty_51 : decode cX1_duty 51 = .ok (.iconst 0, 1) := by decide +kernel
theorem dX1_duty_52 : decode cX1_duty 52 = .ok (.istore 6, 2) := by decide +kernel
theorem dX1_duty_54 : decode cX1_duty 54 = .ok (.iload_n 3, 1) := by decide +kernel
theorem dX1_duty_55 : decode cX1_duty 55 = .ok (.iload 6, 2) := by decide +kernel
theorem dX1_duty_57 : decode cX1_duty 57 = .ok (.ifCond .eq 15, 3) := by decide +kernel
theorem dX1_duty_60 : decode cX1_duty 60 = .ok (.aload_n 0, 1) := by decide +kernel
theorem dX1_duty_61 : decode cX1_duty 61 = .ok (.getfield 9, 3) := by decide +kernel
theorem dX1_duty_64 : decode cX1_duty 64 = .ok (.iload 4, 2) := by decide +kernel
theorem dX1_duty_66 : decode cX1_duty 66 = .ok (.iaload, 1) := by decide +kernel
theorem dX1_duty_67 : decode cX1_duty 67 = .ok (.iconst 2, 1) := by decide +kernel
theorem dX1_duty_68 : decode cX1_duty 68 = .ok (.idiv, 1) := by decide +kernel
theorem dX1_duty_69 : decode cX1_duty 69 = .ok (.goto 10, 3) := by decide +kernel
theorem dX1_duty_72 : decode cX1_duty 72 = .ok (.aload_n 0, 1) := by decide +kernel
theorem dX1_duty_73 : decode cX1_duty 73 = .ok (.getfield 9, 3) := by decide +kernel
theorem dX1_duty_76 : decode cX1_duty 76 = .ok (.iload 4, 2) := by decide +kernel
theorem dX1_duty_78 : decode cX1_duty 78 = .ok (.iaload, 1) := by decide +kernel
theorem dX1_duty_79 : decode cX1_duty 79 = .ok (.iadd, 1) := by decide +kernel
theorem dX1_duty_80 : decode cX1_duty 80 = .ok (.istore_n 3, 1) := by decide +kernel
theorem dX1_duty_81 : decode cX1_duty 81 = .ok (.iinc 4 1, 3) := by decide +kernel
theorem dX1_duty_84 : decode cX1_duty 84 = .ok (.goto (-79), 3) := by decide +kernel
theorem dX1_duty_87 : decode cX1_duty 87 = .ok (.iload_n 3, 1) := by decide +kernel
theorem dX1_duty_88 : decode cX1_duty 88 = .ok (.ireturn, 1) := by decide +kernel
theorem dX1_quickest_0 : decode cX1_quickest 0 = .ok (.iconst (-1), 1) := by decide +kernel
theorem dX1_quickest_1 : decode cX1_quickest 1 = .ok (.istore_n 3, 1) := by decide +kernel
theorem dX1_quickest_2 : decode cX1_quickest 2 = .ok (.iconst 0, 1) := by decide +kernel
theorem dX1_quickest_3 : decode cX1_quickest 3 = .ok (.istore 4, 2) := by decide +kernel
theorem dX1_quickest_5 : decode cX1_quickest 5 = .ok (.iload 4, 2) := by decide +kernel
theorem dX1_quickest_7 : decode cX1_quickest 7 = .ok (.aload_n 0, 1) := by decide +kernel
theorem dX1_quickest_8 : decode cX1_quickest 8 = .ok (.getfield 56, 3) := by decide +kernel
theorem dX1_quickest_11 : decode cX1_quickest 11 = .ok (.if_icmp .ge 67, 3) := by decide +kernel
theorem dX1_quickest_14 : decode cX1_quickest 14 = .ok (.aload_n 0, 1) := by decide +kernel
theorem dX1_quickest_15 : decode cX1_quickest 15 = .ok (.getfield 24, 3) := by decide +kernel
theorem dX1_quickest_18 : decode cX1_quickest 18 = .ok (.iload 4, 2) := by decide +kernel
theorem dX1_quickest_20 : decode cX1_quickest 20 = .ok (.iaload, 1) := by decide +kernel
theorem dX1_quickest_21 : decode cX1_quickest 21 = .ok (.iload_n 1, 1) := by decide +kernel
theorem dX1_quickest_22 : decode cX1_quickest 22 = .ok (.if_icmp .ne 18, 3) := by decide +kernel
theorem dX1_quickest_25 : decode cX1_quickest 25 = .ok (.aload_n 0, 1) := by decide +kernel
theorem dX1_quickest_26 : decode cX1_quickest 26 = .ok (.getfield 27, 3) := by decide +kernel
theorem dX1_quickest_29 : decode cX1_quickest 29 = .ok (.iload 4, 2) := by decide +kernel
theorem dX1_quickest_31 : decode cX1_quickest 31 = .ok (.iaload, 1) := by decide +kernel
theorem dX1_quickest_32 : decode cX1_quickest 32 = .ok (.iload_n 2, 1) := by decide +kernel
theorem dX1_quickest_33 : decode cX1_quickest 33 = .ok (.if_icmp .ne 7, 3) := by decide +kernel
theorem dX1_quickest_36 : decode cX1_quickest 36 = .ok (.iconst 1, 1) := by decide +kernel
theorem dX1_quickest_37 : decode cX1_quickest 37 = .ok (.goto 4, 3) := by decide +kernel
theorem dX1_quickest_40 : decode cX1_quickest 40 = .ok (.iconst 0, 1) := by decide +kernel
theorem dX1_quickest_41 : decode cX1_quickest 41 = .ok (.istore 5, 2) := by decide +kernel
theorem dX1_quickest_43 : decode cX1_quickest 43 = .ok (.iload 5, 2) := by decide +kernel
theorem dX1_quickest_45 : decode cX1_quickest 45 = .ok (.ifCond .eq 27, 3) := by decide +kernel
theorem dX1_quickest_48 : decode cX1_quickest 48 = .ok (.iload_n 3, 1) := by decide +kernel
theorem dX1_quickest_49 : decode cX1_quickest 49 = .ok (.iconst (-1), 1) := by decide +kernel
theorem dX1_quickest_50 : decode cX1_quickest 50 = .ok (.if_icmp .eq 14, 3) := by decide +kernel
theorem dX1_quickest_53 : decode cX1_quickest 53 = .ok (.aload_n 0, 1) := by decide +kernel
theorem dX1_quickest_54 : decode cX1_quickest 54 = .ok (.getfield 30, 3) := by decide +kernel
theorem dX1_quickest_57 : decode cX1_quickest 57 = .ok (.iload 4, 2) := by decide +kernel
theorem dX1_quickest_59 : decode cX1_quickest 59 = .ok (.iaload, 1) := by decide +kernel
theorem dX1_quickest_60 : decode cX1_quickest 60 = .ok (.iload_n 3, 1) := by decide +kernel
theorem dX1_quickest_61 : decode cX1_quickest 61 = .ok (.if_icmp .ge 11, 3) := by decide +kernel
theorem dX1_quickest_64 : decode cX1_quickest 64 = .ok (.aload_n 0, 1) := by decide +kernel
theorem dX1_quickest_65 : decode cX1_quickest 65 = .ok (.getfield 30, 3) := by decide +kernel
theorem dX1_quickest_68 : decode cX1_quickest 68 = .ok (.iload 4, 2) := by decide +kernel
theorem dX1_quickest_70 : decode cX1_quickest 70 = .ok (.iaload, 1) := by decide +kernel
theorem dX1_quickest_71 : decode cX1_quickest 71 = .ok (.istore_n 3, 1) := by decide +kernel
theorem dX1_quickest_72 : decode cX1_quickest 72 = .ok (.iinc 4 1, 3) := by decide +kernel
theorem dX1_quickest_75 : decode cX1_quickest 75 = .ok (.goto (-70), 3) := by decide +kernel
theorem dX1_quickest_78 : decode cX1_quickest 78 = .ok (.iload_n 3, 1) := by decide +kernel
theorem dX1_quickest_79 : decode cX1_quickest 79 = .ok (.ireturn, 1) := by decide +kernel
theorem dX1_findMinutes_0 : decode cX1_findMinutes 0 = .ok (.iconst 0, 1) := by decide +kernel
theorem dX1_findMinutes_1 : decode cX1_findMinutes 1 = .ok (.istore_n 3, 1) := by decide +kernel
theorem dX1_findMinutes_2 : decode cX1_findMinutes 2 = .ok (.iload_n 3, 1) := by decide +kernel
theorem dX1_findMinutes_3 : decode cX1_findMinutes 3 = .ok (.bipush 8, 2) := by decide +kernel
theorem dX1_findMinutes_5 : decode cX1_findMinutes 5 = .ok (.if_icmp .ge 22, 3) := by decide +kernel
theorem dX1_findMinutes_8 : decode cX1_findMinutes 8 = .ok (.aload_n 2, 1) := by decide +kernel
theorem dX1_findMinutes_9 : decode cX1_findMinutes 9 = .ok (.iload_n 3, 1) := by decide +kernel
theorem dX1_findMinutes_10 : decode cX1_findMinutes 10 = .ok (.iload_n 3, 1) := by decide +kernel
theorem dX1_findMinutes_11 : decode cX1_findMinutes 11 = .ok (.iload_n 1, 1) := by decide +kernel
theorem dX1_findMinutes_12 : decode cX1_findMinutes 12 = .ok (.if_icmp .ne 7, 3) := by decide +kernel
theorem dX1_findMinutes_15 : decode cX1_findMinutes 15 = .ok (.iconst 0, 1) := by decide +kernel
theorem dX1_findMinutes_16 : decode cX1_findMinutes 16 = .ok (.goto 4, 3) := by decide +kernel
theorem dX1_findMinutes_19 : decode cX1_findMinutes 19 = .ok (.iconst (-1), 1) := by decide +kernel
theorem dX1_findMinutes_20 : decode cX1_findMinutes 20 = .ok (.iastore, 1) := by decide +kernel
theorem dX1_findMinutes_21 : decode cX1_findMinutes 21 = .ok (.iinc 3 1, 3) := by decide +kernel
theorem dX1_findMinutes_24 : decode cX1_findMinutes 24 = .ok (.goto (-22), 3) := by decide +kernel
theorem dX1_findMinutes_27 : decode cX1_findMinutes 27 = .ok (.iconst 1, 1) := by decide +kernel
theorem dX1_findMinutes_28 : decode cX1_findMinutes 28 = .ok (.istore_n 3, 1) := by decide +kernel
theorem dX1_findMinutes_29 : decode cX1_findMinutes 29 = .ok (.iload_n 3, 1) := by decide +kernel
theorem dX1_findMinutes_30 : decode cX1_findMinutes 30 = .ok (.aload_n 0, 1) := by decide +kernel
theorem dX1_findMinutes_31 : decode cX1_findMinutes 31 = .ok (.getfield 50, 3) := by decide +kernel
theorem dX1_findMinutes_34 : decode cX1_findMinutes 34 = .ok (.if_icmp .ge 95, 3) := by decide +kernel
theorem dX1_findMinutes_37 : decode cX1_findMinutes 37 = .ok (.iconst 0, 1) := by decide +kernel
theorem dX1_findMinutes_38 : decode cX1_findMinutes 38 = .ok (.istore 4, 2) := by decide +kernel
theorem dX1_findMinutes_40 : decode cX1_findMinutes 40 = .ok (.iload 4, 2) := by decide +kernel
theorem dX1_findMinutes_42 : decode cX1_findMinutes 42 = .ok (.aload_n 0, 1) := by decide +kernel
theorem dX1_findMinutes_43 : decode cX1_findMinutes 43 = .ok (.getfield 56, 3) := by decide +kernel
theorem dX1_findMinutes_46 : decode cX1_findMinutes 46 = .ok (.if_icmp .ge 77, 3) := by decide +kernel
theorem dX1_findMinutes_49 : decode cX1_findMinutes 49 = .ok (.aload_n 2, 1) := by decide +kernel
theorem dX1_findMinutes_50 : decode cX1_findMinutes 50 = .ok (.aload_n 0, 1) := by decide +kernel
theorem dX1_findMinutes_51 : decode cX1_findMinutes 51 = .ok (.getfield 27, 3) := by decide +kernel
theorem dX1_findMinutes_54 : decode cX1_findMinutes 54 = .ok (.iload 4, 2) := by decide +kernel
theorem dX1_findMinutes_56 : decode cX1_findMinutes 56 = .ok (.iaload, 1) := by decide +kernel
theorem dX1_findMinutes_57 : decode cX1_findMinutes 57 = .ok (.iaload, 1) := by decide +kernel
theorem dX1_findMinutes_58 : decode cX1_findMinutes 58 = .ok (.istore 5, 2) := by decide +kernel
theorem dX1_findMinutes_60 : decode cX1_findMinutes 60 = .ok (.aload_n 2, 1) := by decide +kernel
theorem dX1_findMinutes_61 : decode cX1_findMinutes 61 = .ok (.aload_n 0, 1) := by decide +kernel
theorem dX1_findMinutes_62 : decode cX1_findMinutes 62 = .ok (.getfield 24, 3) := by decide +kernel
theorem dX1_findMinutes_65 : decode cX1_findMinutes 65 = .ok (.iload 4, 2) := by decide +kernel
theorem dX1_findMinutes_67 : decode cX1_findMinutes 67 = .ok (.iaload, 1) := by decide +kernel
theorem dX1_findMinutes_68 : decode cX1_findMinutes 68 = .ok (.iaload, 1) := by decide +kernel
theorem dX1_findMinutes_69 : decode cX1_findMinutes 69 = .ok (.istore 6, 2) := by decide +kernel
theorem dX1_findMinutes_71 : decode cX1_findMinutes 71 = .ok (.iload 5, 2) := by decide +kernel
theorem dX1_findMinutes_73 : decode cX1_findMinutes 73 = .ok (.iconst (-1), 1) := by decide +kernel
theorem dX1_findMinutes_74 : decode cX1_findMinutes 74 = .ok (.if_icmp .eq 43, 3) := by decide +kernel
theorem dX1_findMinutes_77 : decode cX1_findMinutes 77 = .ok (.iload 6, 2) := by decide +kernel
theorem dX1_findMinutes_79 : decode cX1_findMinutes 79 = .ok (.iconst (-1), 1) := by decide +kernel
theorem dX1_findMinutes_80 : decode cX1_findMinutes 80 = .ok (.if_icmp .eq 18, 3) := by decide +kernel
theorem dX1_findMinutes_83 : decode cX1_findMinutes 83 = .ok (.aload_n 0, 1) := by decide +kernel
theorem dX1_findMinutes_84 : decode cX1_findMinutes 84 = .ok (.getfield 30, 3) := by decide +kernel
theorem dX1_findMinutes_87 : decode cX1_findMinutes 87 = .ok (.iload 4, 2) := by decide +kernel
theorem dX1_findMinutes_89 : decode cX1_findMinutes 89 = .ok (.iaload, 1) := by decide +kernel
theorem dX1_findMinutes_90 : decode cX1_findMinutes 90 = .ok (.iload 5, 2) := by decide +kernel
theorem dX1_findMinutes_92 : decode cX1_findMinutes 92 = .ok (.iadd, 1) := by decide +kernel
theorem dX1_findMinutes_93 : decode cX1_findMinutes 93 = .ok (.iload 6, 2) := by decide +kernel
theorem dX1_findMinutes_95 : decode cX1_findMinutes 95 = .ok (.if_icmp .ge 22, 3) := by decide +kernel
theorem dX1_findMinutes_98 : decode cX1_findMinutes 98 = .ok (.aload_n 2, 1) := by decide +kernel
theorem dX1_findMinutes_99 : decode cX1_findMinutes 99 = .ok (.aload_n 0, 1) := by decide +kernel
theorem dX1_findMinutes_100 : decode cX1_findMinutes 100 = .ok (.getfield 24, 3) := by decide +kernel
theorem dX1_findMinutes_103 : decode cX1_findMinutes 103 = .ok (.iload 4, 2) := by decide +kernel
theorem dX1_findMinutes_105 : decode cX1_findMinutes 105 = .ok (.iaload, 1) := by decide +kernel
theorem dX1_findMinutes_106 : decode cX1_findMinutes 106 = .ok (.aload_n 0, 1) := by decide +kernel
theorem dX1_findMinutes_107 : decode cX1_findMinutes 107 = .ok (.getfield 30, 3) := by decide +kernel
theorem dX1_findMinutes_110 : decode cX1_findMinutes 110 = .ok (.iload 4, 2) := by decide +kernel
theorem dX1_findMinutes_112 : decode cX1_findMinutes 112 = .ok (.iaload, 1) := by decide +kernel
theorem dX1_findMinutes_113 : decode cX1_findMinutes 113 = .ok (.iload 5, 2) := by decide +kernel
theorem dX1_findMinutes_115 : decode cX1_findMinutes 115 = .ok (.iadd, 1) := by decide +kernel
theorem dX1_findMinutes_116 : decode cX1_findMinutes 116 = .ok (.iastore, 1) := by decide +kernel
theorem dX1_findMinutes_117 : decode cX1_findMinutes 117 = .ok (.iinc 4 1, 3) := by decide +kernel
theorem dX1_findMinutes_120 : decode cX1_findMinutes 120 = .ok (.goto (-80), 3) := by decide +kernel
theorem dX1_findMinutes_123 : decode cX1_findMinutes 123 = .ok (.iinc 3 1, 3) := by decide +kernel
theorem dX1_findMinutes_126 : decode cX1_findMinutes 126 = .ok (.goto (-97), 3) := by decide +kernel
theorem dX1_findMinutes_129 : decode cX1_findMinutes 129 = .ok (.return_, 1) := by decide +kernel
theorem dX2_init_0 : decode cX2_init 0 = .ok (.aload_n 0, 1) := by decide +kernel
theorem dX2_init_1 : decode cX2_init 1 = .ok (.invokespecial 3, 3) := by decide +kernel
theorem dX2_init_4 : decode cX2_init 4 = .ok (.aload_n 0, 1) := by decide +kernel
theorem dX2_init_5 : decode cX2_init 5 = .ok (.iconst 2, 1) := by decide +kernel
theorem dX2_init_6 : decode cX2_init 6 = .ok (.anewarray 9, 3) := by decide +kernel
theorem dX2_init_9 : decode cX2_init 9 = .ok (.putfield 11, 3) := by decide +kernel
theorem dX2_init_12 : decode cX2_init 12 = .ok (.aload_n 0, 1) := by decide +kernel
theorem dX2_init_13 : decode cX2_init 13 = .ok (.iconst 2, 1) := by decide +kernel
theorem dX2_init_14 : decode cX2_init 14 = .ok (.newarray .int, 2) := by decide +kernel
theorem dX2_init_16 : decode cX2_init 16 = .ok (.putfield 17, 3) := by decide +kernel
theorem dX2_init_19 : decode cX2_init 19 = .ok (.aload_n 0, 1) := by decide +kernel
theorem dX2_init_20 : decode cX2_init 20 = .ok (.iconst 2, 1) := by decide +kernel
theorem dX2_init_21 : decode cX2_init 21 = .ok (.newarray .boolean, 2) := by decide +kernel
theorem dX2_init_23 : decode cX2_init 23 = .ok (.putfield 21, 3) := by decide +kernel
theorem dX2_init_26 : decode cX2_init 26 = .ok (.iconst 0, 1) := by decide +kernel
theorem dX2_init_27 : decode cX2_init 27 = .ok (.istore_n 1, 1) := by decide +kernel
theorem dX2_init_28 : decode cX2_init 28 = .ok (.iload_n 1, 1) := by decide +kernel
theorem dX2_init_29 : decode cX2_init 29 = .ok (.iconst 2, 1) := by decide +kernel
theorem dX2_init_30 : decode cX2_init 30 = .ok (.if_icmp .ge 22, 3) := by decide +kernel
theorem dX2_init_33 : decode cX2_init 33 = .ok (.aload_n 0, 1) := by decide +kernel
theorem dX2_init_34 : decode cX2_init 34 = .ok (.getfield 11, 3) := by decide +kernel
theorem dX2_init_37 : decode cX2_init 37 = .ok (.iload_n 1, 1) := by decide +kernel
theorem dX2_init_38 : decode cX2_init 38 = .ok (.new 9, 3) := by decide +kernel
theorem dX2_init_41 : decode cX2_init 41 = .ok (.dup, 1) := by decide +kernel
theorem dX2_init_42 : decode cX2_init 42 = .ok (.invokespecial 25, 3) := by decide +kernel
theorem dX2_init_45 : decode cX2_init 45 = .ok (.aastore, 1) := by decide +kernel
theorem dX2_init_46 : decode cX2_init 46 = .ok (.iinc 1 1, 3) := by decide +kernel
theorem dX2_init_49 : decode cX2_init 49 = .ok (.goto (-21), 3) := by decide +kernel
theorem dX2_init_52 : decode cX2_init 52 = .ok (.return_, 1) := by decide +kernel
theorem dX2_take_0 : decode cX2_take 0 = .ok (.iload_n 1, 1) := by decide +kernel
theorem dX2_take_1 : decode cX2_take 1 = .ok (.ifCond .lt 32, 3) := by decide +kernel
theorem dX2_take_4 : decode cX2_take 4 = .ok (.iload_n 1, 1) := by decide +kernel
theorem dX2_take_5 : decode cX2_take 5 = .ok (.iconst 2, 1) := by decide +kernel
theorem dX2_take_6 : decode cX2_take 6 = .ok (.if_icmp .ge 27, 3) := by decide +kernel
theorem dX2_take_9 : decode cX2_take 9 = .ok (.aload_n 0, 1) := by decide +kernel
theorem dX2_take_10 : decode cX2_take 10 = .ok (.getfield 11, 3) := by decide +kernel
theorem dX2_take_13 : decode cX2_take 13 = .ok (.iload_n 1, 1) := by decide +kernel
theorem dX2_take_14 : decode cX2_take 14 = .ok (.aaload, 1) := by decide +kernel
theorem dX2_take_15 : decode cX2_take 15 = .ok (.aload_n 2, 1) := by decide +kernel
theorem dX2_take_16 : decode cX2_take 16 = .ok (.invokevirtual 26, 3) := by decide +kernel
theorem dX2_take_19 : decode cX2_take 19 = .ok (.aload_n 0, 1) := by decide +kernel
theorem dX2_take_20 : decode cX2_take 20 = .ok (.getfield 17, 3) := by decide +kernel
theorem dX2_take_23 : decode cX2_take 23 = .ok (.iload_n 1, 1) := by decide +kernel
theorem dX2_take_24 : decode cX2_take 24 = .ok (.iload_n 3, 1) := by decide +kernel
theorem dX2_take_25 : decode cX2_take 25 = .ok (.iastore, 1) := by decide +kernel
theorem dX2_take_26 : decode cX2_take 26 = .ok (.aload_n 0, 1) := by decide +kernel
theorem dX2_take_27 : decode cX2_take 27 = .ok (.getfield 21, 3) := by decide +kernel
theorem dX2_take_30 : decode cX2_take 30 = .ok (.iload_n 1, 1) := by decide +kernel
theorem dX2_take_31 : decode cX2_take 31 = .ok (.iconst 1, 1) := by decide +kernel
theorem dX2_take_32 : decode cX2_take 32 = .ok (.bastore, 1) := by decide +kernel
theorem dX2_take_33 : decode cX2_take 33 = .ok (.return_, 1) := by decide +kernel
theorem dX2_forget_0 : decode cX2_forget 0 = .ok (.iconst 0, 1) := by decide +kernel
theorem dX2_forget_1 : decode cX2_forget 1 = .ok (.istore_n 1, 1) := by decide +kernel
theorem dX2_forget_2 : decode cX2_forget 2 = .ok (.iload_n 1, 1) := by decide +kernel
theorem dX2_forget_3 : decode cX2_forget 3 = .ok (.iconst 2, 1) := by decide +kernel
theorem dX2_forget_4 : decode cX2_forget 4 = .ok (.if_icmp .ge 16, 3) := by decide +kernel
theorem dX2_forget_7 : decode cX2_forget 7 = .ok (.aload_n 0, 1) := by decide +kernel
theorem dX2_forget_8 : decode cX2_forget 8 = .ok (.getfield 21, 3) := by decide +kernel
theorem dX2_forget_11 : decode cX2_forget 11 = .ok (.iload_n 1, 1) := by decide +kernel
theorem dX2_forget_12 : decode cX2_forget 12 = .ok (.iconst 0, 1) := by decide +kernel
theorem dX2_forget_13 : decode cX2_forget 13 = .ok (.bastore, 1) := by decide +kernel
theorem dX2_forget_14 : decode cX2_forget 14 = .ok (.iinc 1 1, 3) := by decide +kernel
theorem dX2_forget_17 : decode cX2_forget 17 = .ok (.goto (-15), 3) := by decide +kernel
theorem dX2_forget_20 : decode cX2_forget 20 = .ok (.return_, 1) := by decide +kernel
theorem dX3_init_0 : decode cX3_init 0 = .ok (.aload_n 0, 1) := by decide +kernel
theorem dX3_init_1 : decode cX3_init 1 = .ok (.invokespecial 3, 3) := by decide +kernel
theorem dX3_init_4 : decode cX3_init 4 = .ok (.aload_n 0, 1) := by decide +kernel
theorem dX3_init_5 : decode cX3_init 5 = .ok (.bipush 20, 2) := by decide +kernel
theorem dX3_init_7 : decode cX3_init 7 = .ok (.anewarray 9, 3) := by decide +kernel
theorem dX3_init_10 : decode cX3_init 10 = .ok (.putfield 11, 3) := by decide +kernel
theorem dX3_init_13 : decode cX3_init 13 = .ok (.iconst 0, 1) := by decide +kernel
theorem dX3_init_14 : decode cX3_init 14 = .ok (.istore_n 1, 1) := by decide +kernel
theorem dX3_init_15 : decode cX3_init 15 = .ok (.iload_n 1, 1) := by decide +kernel
theorem dX3_init_16 : decode cX3_init 16 = .ok (.bipush 20, 2) := by decide +kernel
theorem dX3_init_18 : decode cX3_init 18 = .ok (.if_icmp .ge 22, 3) := by decide +kernel
theorem dX3_init_21 : decode cX3_init 21 = .ok (.aload_n 0, 1) := by decide +kernel
theorem dX3_init_22 : decode cX3_init 22 = .ok (.getfield 11, 3) := by decide +kernel
theorem dX3_init_25 : decode cX3_init 25 = .ok (.iload_n 1, 1) := by decide +kernel
theorem dX3_init_26 : decode cX3_init 26 = .ok (.new 9, 3) := by decide +kernel
theorem dX3_init_29 : decode cX3_init 29 = .ok (.dup, 1) := by decide +kernel
theorem dX3_init_30 : decode cX3_init 30 = .ok (.invokespecial 17, 3) := by decide +kernel
theorem dX3_init_33 : decode cX3_init 33 = .ok (.aastore, 1) := by decide +kernel
theorem dX3_init_34 : decode cX3_init 34 = .ok (.iinc 1 1, 3) := by decide +kernel
theorem dX3_init_37 : decode cX3_init 37 = .ok (.goto (-22), 3) := by decide +kernel
theorem dX3_init_40 : decode cX3_init 40 = .ok (.return_, 1) := by decide +kernel
theorem dX3_remember_0 : decode cX3_remember 0 = .ok (.aload_n 0, 1) := by decide +kernel
theorem dX3_remember_1 : decode cX3_remember 1 = .ok (.getfield 11, 3) := by decide +kernel
theorem dX3_remember_4 : decode cX3_remember 4 = .ok (.aload_n 0, 1) := by decide +kernel
theorem dX3_remember_5 : decode cX3_remember 5 = .ok (.getfield 18, 3) := by decide +kernel
theorem dX3_remember_8 : decode cX3_remember 8 = .ok (.aaload, 1) := by decide +kernel
theorem dX3_remember_9 : decode cX3_remember 9 = .ok (.aload_n 1, 1) := by decide +kernel
theorem dX3_remember_10 : decode cX3_remember 10 = .ok (.invokevirtual 22, 3) := by decide +kernel
theorem dX3_remember_13 : decode cX3_remember 13 = .ok (.aload_n 0, 1) := by decide +kernel
theorem dX3_remember_14 : decode cX3_remember 14 = .ok (.aload_n 0, 1) := by decide +kernel
theorem dX3_remember_15 : decode cX3_remember 15 = .ok (.getfield 18, 3) := by decide +kernel
theorem dX3_remember_18 : decode cX3_remember 18 = .ok (.iconst 1, 1) := by decide +kernel
theorem dX3_remember_19 : decode cX3_remember 19 = .ok (.iadd, 1) := by decide +kernel
theorem dX3_remember_20 : decode cX3_remember 20 = .ok (.bipush 20, 2) := by decide +kernel
theorem dX3_remember_22 : decode cX3_remember 22 = .ok (.irem, 1) := by decide +kernel
theorem dX3_remember_23 : decode cX3_remember 23 = .ok (.putfield 18, 3) := by decide +kernel
theorem dX3_remember_26 : decode cX3_remember 26 = .ok (.aload_n 0, 1) := by decide +kernel
theorem dX3_remember_27 : decode cX3_remember 27 = .ok (.aload_n 0, 1) := by decide +kernel
theorem dX3_remember_28 : decode cX3_remember 28 = .ok (.getfield 26, 3) := by decide +kernel
theorem dX3_remember_31 : decode cX3_remember 31 = .ok (.iconst 1, 1) := by decide +kernel
theorem dX3_remember_32 : decode cX3_remember 32 = .ok (.iadd, 1) := by decide +kernel
theorem dX3_remember_33 : decode cX3_remember 33 = .ok (.bipush 20, 2) := by decide +kernel
theorem dX3_remember_35 : decode cX3_remember 35 = .ok (.invokestatic 29, 3) := by decide +kernel
theorem dX3_remember_38 : decode cX3_remember 38 = .ok (.putfield 26, 3) := by decide +kernel
theorem dX3_remember_41 : decode cX3_remember 41 = .ok (.return_, 1) := by decide +kernel
theorem dX3_bringBack_0 : decode cX3_bringBack 0 = .ok (.aload_n 0, 1) := by decide +kernel
theorem dX3_bringBack_1 : decode cX3_bringBack 1 = .ok (.getfield 26, 3) := by decide +kernel
theorem dX3_bringBack_4 : decode cX3_bringBack 4 = .ok (.ifCond .le 42, 3) := by decide +kernel
theorem dX3_bringBack_7 : decode cX3_bringBack 7 = .ok (.aload_n 0, 1) := by decide +kernel
theorem dX3_bringBack_8 : decode cX3_bringBack 8 = .ok (.aload_n 0, 1) := by decide +kernel
theorem dX3_bringBack_9 : decode cX3_bringBack 9 = .ok (.getfield 18, 3) := by decide +kernel
theorem dX3_bringBack_12 : decode cX3_bringBack 12 = .ok (.bipush 20, 2) := by decide +kernel
theorem dX3_bringBack_14 : decode cX3_bringBack 14 = .ok (.iadd, 1) := by decide +kernel
theorem dX3_bringBack_15 : decode cX3_bringBack 15 = .ok (.iconst 1, 1) := by decide +kernel
theorem dX3_bringBack_16 : decode cX3_bringBack 16 = .ok (.isub, 1) := by decide +kernel
theorem dX3_bringBack_17 : decode cX3_bringBack 17 = .ok (.bipush 20, 2) := by decide +kernel
theorem dX3_bringBack_19 : decode cX3_bringBack 19 = .ok (.irem, 1) := by decide +kernel
theorem dX3_bringBack_20 : decode cX3_bringBack 20 = .ok (.putfield 18, 3) := by decide +kernel
theorem dX3_bringBack_23 : decode cX3_bringBack 23 = .ok (.aload_n 1, 1) := by decide +kernel
theorem dX3_bringBack_24 : decode cX3_bringBack 24 = .ok (.aload_n 0, 1) := by decide +kernel
theorem dX3_bringBack_25 : decode cX3_bringBack 25 = .ok (.getfield 11, 3) := by decide +kernel
theorem dX3_bringBack_28 : decode cX3_bringBack 28 = .ok (.aload_n 0, 1) := by decide +kernel
theorem dX3_bringBack_29 : decode cX3_bringBack 29 = .ok (.getfield 18, 3) := by decide +kernel
theorem dX3_bringBack_32 : decode cX3_bringBack 32 = .ok (.aaload, 1) := by decide +kernel
theorem dX3_bringBack_33 : decode cX3_bringBack 33 = .ok (.invokevirtual 22, 3) := by decide +kernel
theorem dX3_bringBack_36 : decode cX3_bringBack 36 = .ok (.aload_n 0, 1) := by decide +kernel
theorem dX3_bringBack_37 : decode cX3_bringBack 37 = .ok (.dup, 1) := by decide +kernel
theorem dX3_bringBack_38 : decode cX3_bringBack 38 = .ok (.getfield 26, 3) := by decide +kernel
theorem dX3_bringBack_41 : decode cX3_bringBack 41 = .ok (.iconst 1, 1) := by decide +kernel
theorem dX3_bringBack_42 : decode cX3_bringBack 42 = .ok (.isub, 1) := by decide +kernel
theorem dX3_bringBack_43 : decode cX3_bringBack 43 = .ok (.putfield 26, 3) := by decide +kernel
theorem dX3_bringBack_46 : decode cX3_bringBack 46 = .ok (.return_, 1) := by decide +kernel
theorem dX4_init_0 : decode cX4_init 0 = .ok (.aload_n 0, 1) := by decide +kernel
theorem dX4_init_1 : decode cX4_init 1 = .ok (.invokespecial 3, 3) := by decide +kernel
theorem dX4_init_4 : decode cX4_init 4 = .ok (.aload_n 0, 1) := by decide +kernel
theorem dX4_init_5 : decode cX4_init 5 = .ok (.iconst 5, 1) := by decide +kernel
theorem dX4_init_6 : decode cX4_init 6 = .ok (.newarray .int, 2) := by decide +kernel
theorem dX4_init_8 : decode cX4_init 8 = .ok (.putfield 9, 3) := by decide +kernel
theorem dX4_init_11 : decode cX4_init 11 = .ok (.return_, 1) := by decide +kernel
theorem dX4_begin_0 : decode cX4_begin 0 = .ok (.iconst 0, 1) := by decide +kernel
theorem dX4_begin_1 : decode cX4_begin 1 = .ok (.istore_n 2, 1) := by decide +kernel
theorem dX4_begin_2 : decode cX4_begin 2 = .ok (.iload_n 2, 1) := by decide +kernel
theorem dX4_begin_3 : decode cX4_begin 3 = .ok (.iconst 5, 1) := by decide +kernel
theorem dX4_begin_4 : decode cX4_begin 4 = .ok (.if_icmp .ge 33, 3) := by decide +kernel
theorem dX4_begin_7 : decode cX4_begin 7 = .ok (.aload_n 0, 1) := by decide +kernel
theorem dX4_begin_8 : decode cX4_begin 8 = .ok (.getfield 9, 3) := by decide +kernel
theorem dX4_begin_11 : decode cX4_begin 11 = .ok (.iload_n 2, 1) := by decide +kernel
theorem dX4_begin_12 : decode cX4_begin 12 = .ok (.aload_n 1, 1) := by decide +kernel
theorem dX4_begin_13 : decode cX4_begin 13 = .ok (.iload_n 2, 1) := by decide +kernel
theorem dX4_begin_14 : decode cX4_begin 14 = .ok (.invokevirtual 15, 3) := by decide +kernel
theorem dX4_begin_17 : decode cX4_begin 17 = .ok (.ifCond .eq 12, 3) := by decide +kernel
theorem dX4_begin_20 : decode cX4_begin 20 = .ok (.aload_n 1, 1) := by decide +kernel
theorem dX4_begin_21 : decode cX4_begin 21 = .ok (.getfield 21, 3) := by decide +kernel
theorem dX4_begin_24 : decode cX4_begin 24 = .ok (.iload_n 2, 1) := by decide +kernel
theorem dX4_begin_25 : decode cX4_begin 25 = .ok (.iaload, 1) := by decide +kernel
theorem dX4_begin_26 : decode cX4_begin 26 = .ok (.goto 4, 3) := by decide +kernel
theorem dX4_begin_29 : decode cX4_begin 29 = .ok (.iconst 0, 1) := by decide +kernel
theorem dX4_begin_30 : decode cX4_begin 30 = .ok (.iastore, 1) := by decide +kernel
theorem dX4_begin_31 : decode cX4_begin 31 = .ok (.iinc 2 1, 3) := by decide +kernel
theorem dX4_begin_34 : decode cX4_begin 34 = .ok (.goto (-32), 3) := by decide +kernel
theorem dX4_begin_37 : decode cX4_begin 37 = .ok (.aload_n 0, 1) := by decide +kernel
theorem dX4_begin_38 : decode cX4_begin 38 = .ok (.aload_n 1, 1) := by decide +kernel
theorem dX4_begin_39 : decode cX4_begin 39 = .ok (.getfield 22, 3) := by decide +kernel
theorem dX4_begin_42 : decode cX4_begin 42 = .ok (.putfield 26, 3) := by decide +kernel
theorem dX4_begin_45 : decode cX4_begin 45 = .ok (.aload_n 0, 1) := by decide +kernel
theorem dX4_begin_46 : decode cX4_begin 46 = .ok (.iconst 0, 1) := by decide +kernel
theorem dX4_begin_47 : decode cX4_begin 47 = .ok (.putfield 27, 3) := by decide +kernel
theorem dX4_begin_50 : decode cX4_begin 50 = .ok (.aload_n 0, 1) := by decide +kernel
theorem dX4_begin_51 : decode cX4_begin 51 = .ok (.iconst 0, 1) := by decide +kernel
theorem dX4_begin_52 : decode cX4_begin 52 = .ok (.putfield 30, 3) := by decide +kernel
theorem dX4_begin_55 : decode cX4_begin 55 = .ok (.aload_n 0, 1) := by decide +kernel
theorem dX4_begin_56 : decode cX4_begin 56 = .ok (.iconst 0, 1) := by decide +kernel
theorem dX4_begin_57 : decode cX4_begin 57 = .ok (.putfield 33, 3) := by decide +kernel
theorem dX4_begin_60 : decode cX4_begin 60 = .ok (.return_, 1) := by decide +kernel
theorem dX4_become_0 : decode cX4_become 0 = .ok (.iconst 0, 1) := by decide +kernel
theorem dX4_become_1 : decode cX4_become 1 = .ok (.istore_n 2, 1) := by decide +kernel
theorem dX4_become_2 : decode cX4_become 2 = .ok (.iload_n 2, 1) := by decide +kernel
theorem dX4_become_3 : decode cX4_become 3 = .ok (.iconst 5, 1) := by decide +kernel
theorem dX4_become_4 : decode cX4_become 4 = .ok (.if_icmp .ge 21, 3) := by decide +kernel
theorem dX4_become_7 : decode cX4_become 7 = .ok (.aload_n 0, 1) := by decide +kernel
theorem dX4_become_8 : decode cX4_become 8 = .ok (.getfield 9, 3) := by decide +kernel
theorem dX4_become_11 : decode cX4_become 11 = .ok (.iload_n 2, 1) := by decide +kernel
theorem dX4_become_12 : decode cX4_become 12 = .ok (.aload_n 1, 1) := by decide +kernel
theorem dX4_become_13 : decode cX4_become 13 = .ok (.getfield 9, 3) := by decide +kernel
theorem dX4_become_16 : decode cX4_become 16 = .ok (.iload_n 2, 1) := by decide +kernel
theorem dX4_become_17 : decode cX4_become 17 = .ok (.iaload, 1) := by decide +kernel
theorem dX4_become_18 : decode cX4_become 18 = .ok (.iastore, 1) := by decide +kernel
theorem dX4_become_19 : decode cX4_become 19 = .ok (.iinc 2 1, 3) := by decide +kernel
theorem dX4_become_22 : decode cX4_become 22 = .ok (.goto (-20), 3) := by decide +kernel
theorem dX4_become_25 : decode cX4_become 25 = .ok (.aload_n 0, 1) := by decide +kernel
theorem dX4_become_26 : decode cX4_become 26 = .ok (.aload_n 1, 1) := by decide +kernel
theorem dX4_become_27 : decode cX4_become 27 = .ok (.getfield 26, 3) := by decide +kernel
theorem dX4_become_30 : decode cX4_become 30 = .ok (.putfield 26, 3) := by decide +kernel
theorem dX4_become_33 : decode cX4_become 33 = .ok (.aload_n 0, 1) := by decide +kernel
theorem dX4_become_34 : decode cX4_become 34 = .ok (.aload_n 1, 1) := by decide +kernel
theorem dX4_become_35 : decode cX4_become 35 = .ok (.getfield 27, 3) := by decide +kernel
theorem dX4_become_38 : decode cX4_become 38 = .ok (.putfield 27, 3) := by decide +kernel
theorem dX4_become_41 : decode cX4_become 41 = .ok (.aload_n 0, 1) := by decide +kernel
theorem dX4_become_42 : decode cX4_become 42 = .ok (.aload_n 1, 1) := by decide +kernel
theorem dX4_become_43 : decode cX4_become 43 = .ok (.getfield 30, 3) := by decide +kernel
theorem dX4_become_46 : decode cX4_become 46 = .ok (.putfield 30, 3) := by decide +kernel
theorem dX4_become_49 : decode cX4_become 49 = .ok (.aload_n 0, 1) := by decide +kernel
theorem dX4_become_50 : decode cX4_become 50 = .ok (.aload_n 1, 1) := by decide +kernel
theorem dX4_become_51 : decode cX4_become 51 = .ok (.getfield 33, 3) := by decide +kernel
theorem dX4_become_54 : decode cX4_become 54 = .ok (.putfield 33, 3) := by decide +kernel
theorem dX4_become_57 : decode cX4_become 57 = .ok (.return_, 1) := by decide +kernel
theorem dX4_mindOf_0 : decode cX4_mindOf 0 = .ok (.iload_n 1, 1) := by decide +kernel
theorem dX4_mindOf_1 : decode cX4_mindOf 1 = .ok (.ifCond .lt 17, 3) := by decide +kernel
theorem dX4_mindOf_4 : decode cX4_mindOf 4 = .ok (.iload_n 1, 1) := by decide +kernel
theorem dX4_mindOf_5 : decode cX4_mindOf 5 = .ok (.iconst 5, 1) := by decide +kernel
theorem dX4_mindOf_6 : decode cX4_mindOf 6 = .ok (.if_icmp .ge 12, 3) := by decide +kernel
theorem dX4_mindOf_9 : decode cX4_mindOf 9 = .ok (.aload_n 0, 1) := by decide +kernel
theorem dX4_mindOf_10 : decode cX4_mindOf 10 = .ok (.getfield 9, 3) := by decide +kernel
theorem dX4_mindOf_13 : decode cX4_mindOf 13 = .ok (.iload_n 1, 1) := by decide +kernel
theorem dX4_mindOf_14 : decode cX4_mindOf 14 = .ok (.iaload, 1) := by decide +kernel
theorem dX4_mindOf_15 : decode cX4_mindOf 15 = .ok (.goto 4, 3) := by decide +kernel
theorem dX4_mindOf_18 : decode cX4_mindOf 18 = .ok (.iconst 0, 1) := by decide +kernel
theorem dX4_mindOf_19 : decode cX4_mindOf 19 = .ok (.ireturn, 1) := by decide +kernel
theorem dX4_setMind_0 : decode cX4_setMind 0 = .ok (.iload_n 1, 1) := by decide +kernel
theorem dX4_setMind_1 : decode cX4_setMind 1 = .ok (.ifCond .lt 15, 3) := by decide +kernel
theorem dX4_setMind_4 : decode cX4_setMind 4 = .ok (.iload_n 1, 1) := by decide +kernel
theorem dX4_setMind_5 : decode cX4_setMind 5 = .ok (.iconst 5, 1) := by decide +kernel
theorem dX4_setMind_6 : decode cX4_setMind 6 = .ok (.if_icmp .ge 10, 3) := by decide +kernel
theorem dX4_setMind_9 : decode cX4_setMind 9 = .ok (.aload_n 0, 1) := by decide +kernel
theorem dX4_setMind_10 : decode cX4_setMind 10 = .ok (.getfield 9, 3) := by decide +kernel
theorem dX4_setMind_13 : decode cX4_setMind 13 = .ok (.iload_n 1, 1) := by decide +kernel
theorem dX4_setMind_14 : decode cX4_setMind 14 = .ok (.iload_n 2, 1) := by decide +kernel
theorem dX4_setMind_15 : decode cX4_setMind 15 = .ok (.iastore, 1) := by decide +kernel
theorem dX4_setMind_16 : decode cX4_setMind 16 = .ok (.return_, 1) := by decide +kernel
theorem dX4_isGone_0 : decode cX4_isGone 0 = .ok (.aload_n 0, 1) := by decide +kernel
theorem dX4_isGone_1 : decode cX4_isGone 1 = .ok (.getfield 27, 3) := by decide +kernel
theorem dX4_isGone_4 : decode cX4_isGone 4 = .ok (.iconst 1, 1) := by decide +kernel
theorem dX4_isGone_5 : decode cX4_isGone 5 = .ok (.iload_n 1, 1) := by decide +kernel
theorem dX4_isGone_6 : decode cX4_isGone 6 = .ok (.ishl, 1) := by decide +kernel
theorem dX4_isGone_7 : decode cX4_isGone 7 = .ok (.iand, 1) := by decide +kernel
theorem dX4_isGone_8 : decode cX4_isGone 8 = .ok (.ifCond .eq 7, 3) := by decide +kernel
theorem dX4_isGone_11 : decode cX4_isGone 11 = .ok (.iconst 1, 1) := by decide +kernel
theorem dX4_isGone_12 : decode cX4_isGone 12 = .ok (.goto 4, 3) := by decide +kernel
theorem dX4_isGone_15 : decode cX4_isGone 15 = .ok (.iconst 0, 1) := by decide +kernel
theorem dX4_isGone_16 : decode cX4_isGone 16 = .ok (.ireturn, 1) := by decide +kernel
theorem dX4_comes_0 : decode cX4_comes 0 = .ok (.aload_n 0, 1) := by decide +kernel
theorem dX4_comes_1 : decode cX4_comes 1 = .ok (.iload_n 1, 1) := by decide +kernel
theorem dX4_comes_2 : decode cX4_comes 2 = .ok (.iload_n 2, 1) := by decide +kernel
theorem dX4_comes_3 : decode cX4_comes 3 = .ok (.invokevirtual 36, 3) := by decide +kernel
theorem dX4_comes_6 : decode cX4_comes 6 = .ok (.aload_n 0, 1) := by decide +kernel
theorem dX4_comes_7 : decode cX4_comes 7 = .ok (.dup, 1) := by decide +kernel
theorem dX4_comes_8 : decode cX4_comes 8 = .ok (.getfield 27, 3) := by decide +kernel
theorem dX4_comes_11 : decode cX4_comes 11 = .ok (.iconst 1, 1) := by decide +kernel
theorem dX4_comes_12 : decode cX4_comes 12 = .ok (.iload_n 1, 1) := by decide +kernel
theorem dX4_comes_13 : decode cX4_comes 13 = .ok (.ishl, 1) := by decide +kernel
theorem dX4_comes_14 : decode cX4_comes 14 = .ok (.iconst (-1), 1) := by decide +kernel
theorem dX4_comes_15 : decode cX4_comes 15 = .ok (.ixor, 1) := by decide +kernel
theorem dX4_comes_16 : decode cX4_comes 16 = .ok (.iand, 1) := by decide +kernel
theorem dX4_comes_17 : decode cX4_comes 17 = .ok (.putfield 27, 3) := by decide +kernel
theorem dX4_comes_20 : decode cX4_comes 20 = .ok (.return_, 1) := by decide +kernel
theorem dX4_leaves_0 : decode cX4_leaves 0 = .ok (.iload_n 2, 1) := by decide +kernel
theorem dX4_leaves_1 : decode cX4_leaves 1 = .ok (.ifCond .eq 17, 3) := by decide +kernel
theorem dX4_leaves_4 : decode cX4_leaves 4 = .ok (.aload_n 0, 1) := by decide +kernel
theorem dX4_leaves_5 : decode cX4_leaves 5 = .ok (.dup, 1) := by decide +kernel
theorem dX4_leaves_6 : decode cX4_leaves 6 = .ok (.getfield 26, 3) := by decide +kernel
theorem dX4_leaves_9 : decode cX4_leaves 9 = .ok (.aload_n 0, 1) := by decide +kernel
theorem dX4_leaves_10 : decode cX4_leaves 10 = .ok (.iload_n 1, 1) := by decide +kernel
theorem dX4_leaves_11 : decode cX4_leaves 11 = .ok (.invokevirtual 40, 3) := by decide +kernel
theorem dX4_leaves_14 : decode cX4_leaves 14 = .ok (.ior, 1) := by decide +kernel
theorem dX4_leaves_15 : decode cX4_leaves 15 = .ok (.putfield 26, 3) := by decide +kernel
theorem dX4_leaves_18 : decode cX4_leaves 18 = .ok (.aload_n 0, 1) := by decide +kernel
theorem dX4_leaves_19 : decode cX4_leaves 19 = .ok (.dup, 1) := by decide +kernel
theorem dX4_leaves_20 : decode cX4_leaves 20 = .ok (.getfield 27, 3) := by decide +kernel
theorem dX4_leaves_23 : decode cX4_leaves 23 = .ok (.iconst 1, 1) := by decide +kernel
theorem dX4_leaves_24 : decode cX4_leaves 24 = .ok (.iload_n 1, 1) := by decide +kernel
theorem dX4_leaves_25 : decode cX4_leaves 25 = .ok (.ishl, 1) := by decide +kernel
theorem dX4_leaves_26 : decode cX4_leaves 26 = .ok (.ior, 1) := by decide +kernel
theorem dX4_leaves_27 : decode cX4_leaves 27 = .ok (.putfield 27, 3) := by decide +kernel
theorem dX4_leaves_30 : decode cX4_leaves 30 = .ok (.return_, 1) := by decide +kernel
theorem dX5_init_0 : decode cX5_init 0 = .ok (.aload_n 0, 1) := by decide +kernel
theorem dX5_init_1 : decode cX5_init 1 = .ok (.invokespecial 3, 3) := by decide +kernel
theorem dX5_init_4 : decode cX5_init 4 = .ok (.aload_n 0, 1) := by decide +kernel
theorem dX5_init_5 : decode cX5_init 5 = .ok (.bipush 6, 2) := by decide +kernel
theorem dX5_init_7 : decode cX5_init 7 = .ok (.newarray .int, 2) := by decide +kernel
theorem dX5_init_9 : decode cX5_init 9 = .ok (.putfield 9, 3) := by decide +kernel
theorem dX5_init_12 : decode cX5_init 12 = .ok (.aload_n 0, 1) := by decide +kernel
theorem dX5_init_13 : decode cX5_init 13 = .ok (.bipush 6, 2) := by decide +kernel
theorem dX5_init_15 : decode cX5_init 15 = .ok (.newarray .int, 2) := by decide +kernel
theorem dX5_init_17 : decode cX5_init 17 = .ok (.putfield 15, 3) := by decide +kernel
theorem dX5_init_20 : decode cX5_init 20 = .ok (.aload_n 0, 1) := by decide +kernel
theorem dX5_init_21 : decode cX5_init 21 = .ok (.bipush 6, 2) := by decide +kernel
theorem dX5_init_23 : decode cX5_init 23 = .ok (.newarray .boolean, 2) := by decide +kernel
theorem dX5_init_25 : decode cX5_init 25 = .ok (.putfield 18, 3) := by decide +kernel
theorem dX5_init_28 : decode cX5_init 28 = .ok (.aload_n 0, 1) := by decide +kernel
theorem dX5_init_29 : decode cX5_init 29 = .ok (.bipush 8, 2) := by decide +kernel
theorem dX5_init_31 : decode cX5_init 31 = .ok (.newarray .int, 2) := by decide +kernel
theorem dX5_init_33 : decode cX5_init 33 = .ok (.putfield 22, 3) := by decide +kernel
theorem dX5_init_36 : decode cX5_init 36 = .ok (.return_, 1) := by decide +kernel
theorem dX5_append_0 : decode cX5_append 0 = .ok (.aload_n 0, 1) := by decide +kernel
theorem dX5_append_1 : decode cX5_append 1 = .ok (.getfield 25, 3) := by decide +kernel
theorem dX5_append_4 : decode cX5_append 4 = .ok (.bipush 6, 2) := by decide +kernel
theorem dX5_append_6 : decode cX5_append 6 = .ok (.if_icmp .lt 5, 3) := by decide +kernel
theorem dX5_append_9 : decode cX5_append 9 = .ok (.iconst 0, 1) := by decide +kernel
theorem dX5_append_10 : decode cX5_append 10 = .ok (.ireturn, 1) := by decide +kernel
theorem dX5_append_11 : decode cX5_append 11 = .ok (.aload_n 0, 1) := by decide +kernel
theorem dX5_append_12 : decode cX5_append 12 = .ok (.getfield 9, 3) := by decide +kernel
theorem dX5_append_15 : decode cX5_append 15 = .ok (.aload_n 0, 1) := by decide +kernel
theorem dX5_append_16 : decode cX5_append 16 = .ok (.getfield 25, 3) := by decide +kernel
theorem dX5_append_19 : decode cX5_append 19 = .ok (.iload_n 1, 1) := by decide +kernel
theorem dX5_append_20 : decode cX5_append 20 = .ok (.iastore, 1) := by decide +kernel
theorem dX5_append_21 : decode cX5_append 21 = .ok (.aload_n 0, 1) := by decide +kernel
theorem dX5_append_22 : decode cX5_append 22 = .ok (.getfield 15, 3) := by decide +kernel
theorem dX5_append_25 : decode cX5_append 25 = .ok (.aload_n 0, 1) := by decide +kernel
theorem dX5_append_26 : decode cX5_append 26 = .ok (.getfield 25, 3) := by decide +kernel
theorem dX5_append_29 : decode cX5_append 29 = .ok (.iload_n 2, 1) := by decide +kernel
theorem dX5_append_30 : decode cX5_append 30 = .ok (.iastore, 1) := by decide +kernel
theorem dX5_append_31 : decode cX5_append 31 = .ok (.aload_n 0, 1) := by decide +kernel
theorem dX5_append_32 : decode cX5_append 32 = .ok (.getfield 18, 3) := by decide +kernel
theorem dX5_append_35 : decode cX5_append 35 = .ok (.aload_n 0, 1) := by decide +kernel
theorem dX5_append_36 : decode cX5_append 36 = .ok (.getfield 25, 3) := by decide +kernel
theorem dX5_append_39 : decode cX5_append 39 = .ok (.iload_n 3, 1) := by decide +kernel
theorem dX5_append_40 : decode cX5_append 40 = .ok (.bastore, 1) := by decide +kernel
theorem dX5_append_41 : decode cX5_append 41 = .ok (.aload_n 0, 1) := by decide +kernel
theorem dX5_append_42 : decode cX5_append 42 = .ok (.dup, 1) := by decide +kernel
theorem dX5_append_43 : decode cX5_append 43 = .ok (.getfield 25, 3) := by decide +kernel
theorem dX5_append_46 : decode cX5_append 46 = .ok (.iconst 1, 1) := by decide +kernel
theorem dX5_append_47 : decode cX5_append 47 = .ok (.iadd, 1) := by decide +kernel
theorem dX5_append_48 : decode cX5_append 48 = .ok (.putfield 25, 3) := by decide +kernel
theorem dX5_append_51 : decode cX5_append 51 = .ok (.iconst 1, 1) := by decide +kernel
theorem dX5_append_52 : decode cX5_append 52 = .ok (.ireturn, 1) := by decide +kernel
theorem dX5_look_0 : decode cX5_look 0 = .ok (.aload_n 0, 1) := by decide +kernel
theorem dX5_look_1 : decode cX5_look 1 = .ok (.iconst 0, 1) := by decide +kernel
theorem dX5_look_2 : decode cX5_look 2 = .ok (.putfield 29, 3) := by decide +kernel
theorem dX5_look_5 : decode cX5_look 5 = .ok (.aload_n 0, 1) := by decide +kernel
theorem dX5_look_6 : decode cX5_look 6 = .ok (.iconst (-1), 1) := by decide +kernel
theorem dX5_look_7 : decode cX5_look 7 = .ok (.putfield 32, 3) := by decide +kernel
theorem dX5_look_10 : decode cX5_look 10 = .ok (.aload_n 0, 1) := by decide +kernel
theorem dX5_look_11 : decode cX5_look 11 = .ok (.iconst 0, 1) := by decide +kernel
theorem dX5_look_12 : decode cX5_look 12 = .ok (.putfield 35, 3) := by decide +kernel
theorem dX5_look_15 : decode cX5_look 15 = .ok (.iconst 0, 1) := by decide +kernel
theorem dX5_look_16 : decode cX5_look 16 = .ok (.istore_n 2, 1) := by decide +kernel
theorem dX5_look_17 : decode cX5_look 17 = .ok (.iload_n 2, 1) := by decide +kernel
theorem dX5_look_18 : decode cX5_look 18 = .ok (.bipush 8, 2) := by decide +kernel
theorem dX5_look_20 : decode cX5_look 20 = .ok (.if_icmp .ge 16, 3) := by decide +kernel
theorem dX5_look_23 : decode cX5_look 23 = .ok (.aload_n 0, 1) := by decide +kernel
theorem dX5_look_24 : decode cX5_look 24 = .ok (.getfield 22, 3) := by decide +kernel
theorem dX5_look_27 : decode cX5_look 27 = .ok (.iload_n 2, 1) := by decide +kernel
theorem dX5_look_28 : decode cX5_look 28 = .ok (.iconst 0, 1) := by decide +kernel
theorem dX5_look_29 : decode cX5_look 29 = .ok (.iastore, 1) := by decide +kernel
theorem dX5_look_30 : decode cX5_look 30 = .ok (.iinc 2 1, 3) := by decide +kernel
theorem dX5_look_33 : decode cX5_look 33 = .ok (.goto (-16), 3) := by decide +kernel
theorem dX5_look_36 : decode cX5_look 36 = .ok (.iconst 1, 1) := by decide +kernel
theorem dX5_look_37 : decode cX5_look 37 = .ok (.iload_n 1, 1) := by decide +kernel
theorem dX5_look_38 : decode cX5_look 38 = .ok (.ishl, 1) := by decide +kernel
theorem dX5_look_39 : decode cX5_look 39 = .ok (.istore_n 2, 1) := by decide +kernel
theorem dX5_look_40 : decode cX5_look 40 = .ok (.iconst 0, 1) := by decide +kernel
theorem dX5_look_41 : decode cX5_look 41 = .ok (.istore_n 3, 1) := by decide +kernel
theorem dX5_look_42 : decode cX5_look 42 = .ok (.iload_n 3, 1) := by decide +kernel
theorem dX5_look_43 : decode cX5_look 43 = .ok (.iload_n 2, 1) := by decide +kernel
theorem dX5_look_44 : decode cX5_look 44 = .ok (.if_icmp .ge 72, 3) := by decide +kernel
theorem dX5_look_47 : decode cX5_look 47 = .ok (.aload_n 0, 1) := by decide +kernel
theorem dX5_look_48 : decode cX5_look 48 = .ok (.iload_n 3, 1) := by decide +kernel
theorem dX5_look_49 : decode cX5_look 49 = .ok (.invokevirtual 38, 3) := by decide +kernel
theorem dX5_look_52 : decode cX5_look 52 = .ok (.ifCond .eq 58, 3) := by decide +kernel
theorem dX5_look_55 : decode cX5_look 55 = .ok (.aload_n 0, 1) := by decide +kernel
theorem dX5_look_56 : decode cX5_look 56 = .ok (.aload_n 0, 1) := by decide +kernel
theorem dX5_look_57 : decode cX5_look 57 = .ok (.getfield 29, 3) := by decide +kernel
theorem dX5_look_60 : decode cX5_look 60 = .ok (.ifCond .ne 7, 3) := by decide +kernel
theorem dX5_look_63 : decode cX5_look 63 = .ok (.iload_n 3, 1) := by decide +kernel
theorem dX5_look_64 : decode cX5_look 64 = .ok (.goto 7, 3) := by decide +kernel
theorem dX5_look_67 : decode cX5_look 67 = .ok (.aload_n 0, 1) := by decide +kernel
theorem dX5_look_68 : decode cX5_look 68 = .ok (.getfield 32, 3) := by decide +kernel
theorem dX5_look_71 : decode cX5_look 71 = .ok (.putfield 32, 3) := by decide +kernel
theorem dX5_look_74 : decode cX5_look 74 = .ok (.aload_n 0, 1) := by decide +kernel
theorem dX5_look_75 : decode cX5_look 75 = .ok (.aload_n 0, 1) := by decide +kernel
theorem dX5_look_76 : decode cX5_look 76 = .ok (.getfield 29, 3) := by decide +kernel
theorem dX5_look_79 : decode cX5_look 79 = .ok (.ifCond .ne 7, 3) := by decide +kernel
theorem dX5_look_82 : decode cX5_look 82 = .ok (.iload_n 3, 1) := by decide +kernel
theorem dX5_look_83 : decode cX5_look 83 = .ok (.goto 9, 3) := by decide +kernel
theorem dX5_look_86 : decode cX5_look 86 = .ok (.aload_n 0, 1) := by decide +kernel
theorem dX5_look_87 : decode cX5_look 87 = .ok (.getfield 35, 3) := by decide +kernel
theorem dX5_look_90 : decode cX5_look 90 = .ok (.iload_n 3, 1) := by decide +kernel
theorem dX5_look_91 : decode cX5_look 91 = .ok (.iand, 1) := by decide +kernel
theorem dX5_look_92 : decode cX5_look 92 = .ok (.putfield 35, 3) := by decide +kernel
theorem dX5_look_95 : decode cX5_look 95 = .ok (.aload_n 0, 1) := by decide +kernel
theorem dX5_look_96 : decode cX5_look 96 = .ok (.dup, 1) := by decide +kernel
theorem dX5_look_97 : decode cX5_look 97 = .ok (.getfield 29, 3) := by decide +kernel
theorem dX5_look_100 : decode cX5_look 100 = .ok (.iconst 1, 1) := by decide +kernel
theorem dX5_look_101 : decode cX5_look 101 = .ok (.iadd, 1) := by decide +kernel
theorem dX5_look_102 : decode cX5_look 102 = .ok (.putfield 29, 3) := by decide +kernel
theorem dX5_look_105 : decode cX5_look 105 = .ok (.aload_n 0, 1) := by decide +kernel
theorem dX5_look_106 : decode cX5_look 106 = .ok (.iload_n 3, 1) := by decide +kernel
theorem dX5_look_107 : decode cX5_look 107 = .ok (.invokevirtual 42, 3) := by decide +kernel
theorem dX5_look_110 : decode cX5_look 110 = .ok (.iinc 3 1, 3) := by decide +kernel
theorem dX5_look_113 : decode cX5_look 113 = .ok (.goto (-71), 3) := by decide +kernel
theorem dX5_look_116 : decode cX5_look 116 = .ok (.return_, 1) := by decide +kernel
theorem dX5_countIdeas_0 : decode cX5_countIdeas 0 = .ok (.iconst 0, 1) := by decide +kernel
theorem dX5_countIdeas_1 : decode cX5_countIdeas 1 = .ok (.istore_n 2, 1) := by decide +kernel
theorem dX5_countIdeas_2 : decode cX5_countIdeas 2 = .ok (.iload_n 2, 1) := by decide +kernel
theorem dX5_countIdeas_3 : decode cX5_countIdeas 3 = .ok (.bipush 8, 2) := by decide +kernel
theorem dX5_countIdeas_5 : decode cX5_countIdeas 5 = .ok (.if_icmp .ge 23, 3) := by decide +kernel
theorem dX5_countIdeas_8 : decode cX5_countIdeas 8 = .ok (.aload_n 0, 1) := by decide +kernel
theorem dX5_countIdeas_9 : decode cX5_countIdeas 9 = .ok (.getfield 22, 3) := by decide +kernel
theorem dX5_countIdeas_12 : decode cX5_countIdeas 12 = .ok (.iload_n 2, 1) := by decide +kernel
theorem dX5_countIdeas_13 : decode cX5_countIdeas 13 = .ok (.dup2, 1) := by decide +kernel
theorem dX5_countIdeas_14 : decode cX5_countIdeas 14 = .ok (.iaload, 1) := by decide +kernel
theorem dX5_countIdeas_15 : decode cX5_countIdeas 15 = .ok (.iload_n 1, 1) := by decide +kernel
theorem dX5_countIdeas_16 : decode cX5_countIdeas 16 = .ok (.iload_n 2, 1) := by decide +kernel
theorem dX5_countIdeas_17 : decode cX5_countIdeas 17 = .ok (.ishr, 1) := by decide +kernel
theorem dX5_countIdeas_18 : decode cX5_countIdeas 18 = .ok (.iconst 1, 1) := by decide +kernel
theorem dX5_countIdeas_19 : decode cX5_countIdeas 19 = .ok (.iand, 1) := by decide +kernel
theorem dX5_countIdeas_20 : decode cX5_countIdeas 20 = .ok (.iadd, 1) := by decide +kernel
theorem dX5_countIdeas_21 : decode cX5_countIdeas 21 = .ok (.iastore, 1) := by decide +kernel
theorem dX5_countIdeas_22 : decode cX5_countIdeas 22 = .ok (.iinc 2 1, 3) := by decide +kernel
theorem dX5_countIdeas_25 : decode cX5_countIdeas 25 = .ok (.goto (-23), 3) := by decide +kernel
theorem dX5_countIdeas_28 : decode cX5_countIdeas 28 = .ok (.return_, 1) := by decide +kernel
theorem dX5_fits_0 : decode cX5_fits 0 = .ok (.iconst 0, 1) := by decide +kernel
theorem dX5_fits_1 : decode cX5_fits 1 = .ok (.istore_n 2, 1) := by decide +kernel
theorem dX5_fits_2 : decode cX5_fits 2 = .ok (.iload_n 2, 1) := by decide +kernel
theorem dX5_fits_3 : decode cX5_fits 3 = .ok (.aload_n 0, 1) := by decide +kernel
theorem dX5_fits_4 : decode cX5_fits 4 = .ok (.getfield 25, 3) := by decide +kernel
theorem dX5_fits_7 : decode cX5_fits 7 = .ok (.if_icmp .ge 43, 3) := by decide +kernel
theorem dX5_fits_10 : decode cX5_fits 10 = .ok (.iload_n 1, 1) := by decide +kernel
theorem dX5_fits_11 : decode cX5_fits 11 = .ok (.aload_n 0, 1) := by decide +kernel
theorem dX5_fits_12 : decode cX5_fits 12 = .ok (.getfield 9, 3) := by decide +kernel
theorem dX5_fits_15 : decode cX5_fits 15 = .ok (.iload_n 2, 1) := by decide +kernel
theorem dX5_fits_16 : decode cX5_fits 16 = .ok (.iaload, 1) := by decide +kernel
theorem dX5_fits_17 : decode cX5_fits 17 = .ok (.iand, 1) := by decide +kernel
theorem dX5_fits_18 : decode cX5_fits 18 = .ok (.aload_n 0, 1) := by decide +kernel
theorem dX5_fits_19 : decode cX5_fits 19 = .ok (.getfield 9, 3) := by decide +kernel
theorem dX5_fits_22 : decode cX5_fits 22 = .ok (.iload_n 2, 1) := by decide +kernel
theorem dX5_fits_23 : decode cX5_fits 23 = .ok (.iaload, 1) := by decide +kernel
theorem dX5_fits_24 : decode cX5_fits 24 = .ok (.aload_n 0, 1) := by decide +kernel
theorem dX5_fits_25 : decode cX5_fits 25 = .ok (.getfield 15, 3) := by decide +kernel
theorem dX5_fits_28 : decode cX5_fits 28 = .ok (.iload_n 2, 1) := by decide +kernel
theorem dX5_fits_29 : decode cX5_fits 29 = .ok (.iaload, 1) := by decide +kernel
theorem dX5_fits_30 : decode cX5_fits 30 = .ok (.invokestatic 46, 3) := by decide +kernel
theorem dX5_fits_33 : decode cX5_fits 33 = .ok (.aload_n 0, 1) := by decide +kernel
theorem dX5_fits_34 : decode cX5_fits 34 = .ok (.getfield 18, 3) := by decide +kernel
theorem dX5_fits_37 : decode cX5_fits 37 = .ok (.iload_n 2, 1) := by decide +kernel
theorem dX5_fits_38 : decode cX5_fits 38 = .ok (.baload, 1) := by decide +kernel
theorem dX5_fits_39 : decode cX5_fits 39 = .ok (.if_icmp .eq 5, 3) := by decide +kernel
theorem dX5_fits_42 : decode cX5_fits 42 = .ok (.iconst 0, 1) := by decide +kernel
theorem dX5_fits_43 : decode cX5_fits 43 = .ok (.ireturn, 1) := by decide +kernel
theorem dX5_fits_44 : decode cX5_fits 44 = .ok (.iinc 2 1, 3) := by decide +kernel
theorem dX5_fits_47 : decode cX5_fits 47 = .ok (.goto (-45), 3) := by decide +kernel
theorem dX5_fits_50 : decode cX5_fits 50 = .ok (.iconst 1, 1) := by decide +kernel
theorem dX5_fits_51 : decode cX5_fits 51 = .ok (.ireturn, 1) := by decide +kernel
theorem dX5_isSo_0 : decode cX5_isSo 0 = .ok (.iload_n 2, 1) := by decide +kernel
theorem dX5_isSo_1 : decode cX5_isSo 1 = .ok (.lookupswitch 48 #[(0, 27), (1, 37)], 27) := by decide +kernel
theorem dX5_isSo_28 : decode cX5_isSo 28 = .ok (.iload_n 0, 1) := by decide +kernel
theorem dX5_isSo_29 : decode cX5_isSo 29 = .ok (.ifCond .eq 7, 3) := by decide +kernel
theorem dX5_isSo_32 : decode cX5_isSo 32 = .ok (.iconst 1, 1) := by decide +kernel
theorem dX5_isSo_33 : decode cX5_isSo 33 = .ok (.goto 4, 3) := by decide +kernel
theorem dX5_isSo_36 : decode cX5_isSo 36 = .ok (.iconst 0, 1) := by decide +kernel
theorem dX5_isSo_37 : decode cX5_isSo 37 = .ok (.ireturn, 1) := by decide +kernel
theorem dX5_isSo_38 : decode cX5_isSo 38 = .ok (.iload_n 0, 1) := by decide +kernel
theorem dX5_isSo_39 : decode cX5_isSo 39 = .ok (.iload_n 1, 1) := by decide +kernel
theorem dX5_isSo_40 : decode cX5_isSo 40 = .ok (.if_icmp .ne 7, 3) := by decide +kernel
theorem dX5_isSo_43 : decode cX5_isSo 43 = .ok (.iconst 1, 1) := by decide +kernel
theorem dX5_isSo_44 : decode cX5_isSo 44 = .ok (.goto 4, 3) := by decide +kernel
theorem dX5_isSo_47 : decode cX5_isSo 47 = .ok (.iconst 0, 1) := by decide +kernel
theorem dX5_isSo_48 : decode cX5_isSo 48 = .ok (.ireturn, 1) := by decide +kernel
theorem dX5_isSo_49 : decode cX5_isSo 49 = .ok (.iload_n 0, 1) := by decide +kernel
theorem dX5_isSo_50 : decode cX5_isSo 50 = .ok (.invokestatic 50, 3) := by decide +kernel
theorem dX5_isSo_53 : decode cX5_isSo 53 = .ok (.iload_n 2, 1) := by decide +kernel
theorem dX5_isSo_54 : decode cX5_isSo 54 = .ok (.iconst 2, 1) := by decide +kernel
theorem dX5_isSo_55 : decode cX5_isSo 55 = .ok (.isub, 1) := by decide +kernel
theorem dX5_isSo_56 : decode cX5_isSo 56 = .ok (.if_icmp .ne 7, 3) := by decide +kernel
theorem dX5_isSo_59 : decode cX5_isSo 59 = .ok (.iconst 1, 1) := by decide +kernel
theorem dX5_isSo_60 : decode cX5_isSo 60 = .ok (.goto 4, 3) := by decide +kernel
theorem dX5_isSo_63 : decode cX5_isSo 63 = .ok (.iconst 0, 1) := by decide +kernel
theorem dX5_isSo_64 : decode cX5_isSo 64 = .ok (.ireturn, 1) := by decide +kernel
theorem dX5_bestIdea_0 : decode cX5_bestIdea 0 = .ok (.iconst (-1), 1) := by decide +kernel
theorem dX5_bestIdea_1 : decode cX5_bestIdea 1 = .ok (.istore_n 1, 1) := by decide +kernel
theorem dX5_bestIdea_2 : decode cX5_bestIdea 2 = .ok (.aload_n 0, 1) := by decide +kernel
theorem dX5_bestIdea_3 : decode cX5_bestIdea 3 = .ok (.getfield 29, 3) := by decide +kernel
theorem dX5_bestIdea_6 : decode cX5_bestIdea 6 = .ok (.istore_n 2, 1) := by decide +kernel
theorem dX5_bestIdea_7 : decode cX5_bestIdea 7 = .ok (.iconst 0, 1) := by decide +kernel
theorem dX5_bestIdea_8 : decode cX5_bestIdea 8 = .ok (.istore_n 3, 1) := by decide +kernel
theorem dX5_bestIdea_9 : decode cX5_bestIdea 9 = .ok (.iload_n 3, 1) := by decide +kernel
theorem dX5_bestIdea_10 : decode cX5_bestIdea 10 = .ok (.bipush 8, 2) := by decide +kernel
theorem dX5_bestIdea_12 : decode cX5_bestIdea 12 = .ok (.if_icmp .ge 42, 3) := by decide +kernel
theorem dX5_bestIdea_15 : decode cX5_bestIdea 15 = .ok (.aload_n 0, 1) := by decide +kernel
theorem dX5_bestIdea_16 : decode cX5_bestIdea 16 = .ok (.getfield 22, 3) := by decide +kernel
theorem dX5_bestIdea_19 : decode cX5_bestIdea 19 = .ok (.iload_n 3, 1) := by decide +kernel
theorem dX5_bestIdea_20 : decode cX5_bestIdea 20 = .ok (.iaload, 1) := by decide +kernel
theorem dX5_bestIdea_21 : decode cX5_bestIdea 21 = .ok (.aload_n 0, 1) := by decide +kernel
theorem dX5_bestIdea_22 : decode cX5_bestIdea 22 = .ok (.getfield 29, 3) := by decide +kernel
theorem dX5_bestIdea_25 : decode cX5_bestIdea 25 = .ok (.aload_n 0, 1) := by decide +kernel
theorem dX5_bestIdea_26 : decode cX5_bestIdea 26 = .ok (.getfield 22, 3) := by decide +kernel
theorem dX5_bestIdea_29 : decode cX5_bestIdea 29 = .ok (.iload_n 3, 1) := by decide +kernel
theorem dX5_bestIdea_30 : decode cX5_bestIdea 30 = .ok (.iaload, 1) := by decide +kernel
theorem dX5_bestIdea_31 : decode cX5_bestIdea 31 = .ok (.isub, 1) := by decide +kernel
theorem dX5_bestIdea_32 : decode cX5_bestIdea 32 = .ok (.invokestatic 56, 3) := by decide +kernel
theorem dX5_bestIdea_35 : decode cX5_bestIdea 35 = .ok (.istore 4, 2) := by decide +kernel
theorem dX5_bestIdea_37 : decode cX5_bestIdea 37 = .ok (.iload 4, 2) := by decide +kernel
theorem dX5_bestIdea_39 : decode cX5_bestIdea 39 = .ok (.iload_n 2, 1) := by decide +kernel
theorem dX5_bestIdea_40 : decode cX5_bestIdea 40 = .ok (.if_icmp .ge 8, 3) := by decide +kernel
theorem dX5_bestIdea_43 : decode cX5_bestIdea 43 = .ok (.iload_n 3, 1) := by decide +kernel
theorem dX5_bestIdea_44 : decode cX5_bestIdea 44 = .ok (.istore_n 1, 1) := by decide +kernel
theorem dX5_bestIdea_45 : decode cX5_bestIdea 45 = .ok (.iload 4, 2) := by decide +kernel
theorem dX5_bestIdea_47 : decode cX5_bestIdea 47 = .ok (.istore_n 2, 1) := by decide +kernel
theorem dX5_bestIdea_48 : decode cX5_bestIdea 48 = .ok (.iinc 3 1, 3) := by decide +kernel
theorem dX5_bestIdea_51 : decode cX5_bestIdea 51 = .ok (.goto (-42), 3) := by decide +kernel
theorem dX5_bestIdea_54 : decode cX5_bestIdea 54 = .ok (.iload_n 1, 1) := by decide +kernel
theorem dX5_bestIdea_55 : decode cX5_bestIdea 55 = .ok (.ireturn, 1) := by decide +kernel
theorem dX6_init_0 : decode cX6_init 0 = .ok (.aload_n 0, 1) := by decide +kernel
theorem dX6_init_1 : decode cX6_init 1 = .ok (.invokespecial 3, 3) := by decide +kernel
theorem dX6_init_4 : decode cX6_init 4 = .ok (.aload_n 0, 1) := by decide +kernel
theorem dX6_init_5 : decode cX6_init 5 = .ok (.sipush 240, 3) := by decide +kernel
theorem dX6_init_8 : decode cX6_init 8 = .ok (.newarray .int, 2) := by decide +kernel
theorem dX6_init_10 : decode cX6_init 10 = .ok (.putfield 9, 3) := by decide +kernel
theorem dX6_init_13 : decode cX6_init 13 = .ok (.aload_n 0, 1) := by decide +kernel
theorem dX6_init_14 : decode cX6_init 14 = .ok (.iconst (-1), 1) := by decide +kernel
theorem dX6_init_15 : decode cX6_init 15 = .ok (.putfield 15, 3) := by decide +kernel
theorem dX6_init_18 : decode cX6_init 18 = .ok (.aload_n 0, 1) := by decide +kernel
theorem dX6_init_19 : decode cX6_init 19 = .ok (.new 19, 3) := by decide +kernel
theorem dX6_init_22 : decode cX6_init 22 = .ok (.dup, 1) := by decide +kernel
theorem dX6_init_23 : decode cX6_init 23 = .ok (.invokespecial 21, 3) := by decide +kernel
theorem dX6_init_26 : decode cX6_init 26 = .ok (.putfield 22, 3) := by decide +kernel
theorem dX6_init_29 : decode cX6_init 29 = .ok (.return_, 1) := by decide +kernel
theorem dX6_append_0 : decode cX6_append 0 = .ok (.aload_n 0, 1) := by decide +kernel
theorem dX6_append_1 : decode cX6_append 1 = .ok (.getfield 26, 3) := by decide +kernel
theorem dX6_append_4 : decode cX6_append 4 = .ok (.sipush 240, 3) := by decide +kernel
theorem dX6_append_7 : decode cX6_append 7 = .ok (.if_icmp .lt 5, 3) := by decide +kernel
theorem dX6_append_10 : decode cX6_append 10 = .ok (.iconst 0, 1) := by decide +kernel
theorem dX6_append_11 : decode cX6_append 11 = .ok (.ireturn, 1) := by decide +kernel
theorem dX6_append_12 : decode cX6_append 12 = .ok (.aload_n 0, 1) := by decide +kernel
theorem dX6_append_13 : decode cX6_append 13 = .ok (.getfield 9, 3) := by decide +kernel
theorem dX6_append_16 : decode cX6_append 16 = .ok (.aload_n 0, 1) := by decide +kernel
theorem dX6_append_17 : decode cX6_append 17 = .ok (.getfield 26, 3) := by decide +kernel
theorem dX6_append_20 : decode cX6_append 20 = .ok (.iload_n 1, 1) := by decide +kernel
theorem dX6_append_21 : decode cX6_append 21 = .ok (.iastore, 1) := by decide +kernel
theorem dX6_append_22 : decode cX6_append 22 = .ok (.aload_n 0, 1) := by decide +kernel
theorem dX6_append_23 : decode cX6_append 23 = .ok (.dup, 1) := by decide +kernel
theorem dX6_append_24 : decode cX6_append 24 = .ok (.getfield 26, 3) := by decide +kernel
theorem dX6_append_27 : decode cX6_append 27 = .ok (.iconst 1, 1) := by decide +kernel
theorem dX6_append_28 : decode cX6_append 28 = .ok (.iadd, 1) := by decide +kernel
theorem dX6_append_29 : decode cX6_append 29 = .ok (.putfield 26, 3) := by decide +kernel
theorem dX6_append_32 : decode cX6_append 32 = .ok (.iconst 1, 1) := by decide +kernel
theorem dX6_append_33 : decode cX6_append 33 = .ok (.ireturn, 1) := by decide +kernel
theorem dX6_exchange_0 : decode cX6_exchange 0 = .ok (.aload_n 0, 1) := by decide +kernel
theorem dX6_exchange_1 : decode cX6_exchange 1 = .ok (.getfield 22, 3) := by decide +kernel
theorem dX6_exchange_4 : decode cX6_exchange 4 = .ok (.astore_n 2, 1) := by decide +kernel
theorem dX6_exchange_5 : decode cX6_exchange 5 = .ok (.aload_n 0, 1) := by decide +kernel
theorem dX6_exchange_6 : decode cX6_exchange 6 = .ok (.aload_n 1, 1) := by decide +kernel
theorem dX6_exchange_7 : decode cX6_exchange 7 = .ok (.putfield 22, 3) := by decide +kernel
theorem dX6_exchange_10 : decode cX6_exchange 10 = .ok (.aload_n 2, 1) := by decide +kernel
theorem dX6_exchange_11 : decode cX6_exchange 11 = .ok (.areturn, 1) := by decide +kernel
theorem dX6_read_0 : decode cX6_read 0 = .ok (.aload_n 0, 1) := by decide +kernel
theorem dX6_read_1 : decode cX6_read 1 = .ok (.getfield 22, 3) := by decide +kernel
theorem dX6_read_4 : decode cX6_read 4 = .ok (.invokevirtual 29, 3) := by decide +kernel
theorem dX6_read_7 : decode cX6_read 7 = .ok (.aload_n 0, 1) := by decide +kernel
theorem dX6_read_8 : decode cX6_read 8 = .ok (.iconst 0, 1) := by decide +kernel
theorem dX6_read_9 : decode cX6_read 9 = .ok (.putfield 32, 3) := by decide +kernel
theorem dX6_read_12 : decode cX6_read 12 = .ok (.aload_n 0, 1) := by decide +kernel
theorem dX6_read_13 : decode cX6_read 13 = .ok (.iconst 0, 1) := by decide +kernel
theorem dX6_read_14 : decode cX6_read 14 = .ok (.putfield 35, 3) := by decide +kernel
theorem dX6_read_17 : decode cX6_read 17 = .ok (.aload_n 0, 1) := by decide +kernel
theorem dX6_read_18 : decode cX6_read 18 = .ok (.iconst (-1), 1) := by decide +kernel
theorem dX6_read_19 : decode cX6_read 19 = .ok (.putfield 15, 3) := by decide +kernel
theorem dX6_read_22 : decode cX6_read 22 = .ok (.iconst 0, 1) := by decide +kernel
theorem dX6_read_23 : decode cX6_read 23 = .ok (.istore_n 1, 1) := by decide +kernel
theorem dX6_read_24 : decode cX6_read 24 = .ok (.iload_n 1, 1) := by decide +kernel
theorem dX6_read_25 : decode cX6_read 25 = .ok (.sipush 240, 3) := by decide +kernel
theorem dX6_read_28 : decode cX6_read 28 = .ok (.if_icmp .gt 38, 3) := by decide +kernel
theorem dX6_read_31 : decode cX6_read 31 = .ok (.aload_n 0, 1) := by decide +kernel
theorem dX6_read_32 : decode cX6_read 32 = .ok (.invokevirtual 38, 3) := by decide +kernel
theorem dX6_read_35 : decode cX6_read 35 = .ok (.aload_n 0, 1) := by decide +kernel
theorem dX6_read_36 : decode cX6_read 36 = .ok (.getfield 32, 3) := by decide +kernel
theorem dX6_read_39 : decode cX6_read 39 = .ok (.aload_n 0, 1) := by decide +kernel
theorem dX6_read_40 : decode cX6_read 40 = .ok (.getfield 26, 3) := by decide +kernel
theorem dX6_read_43 : decode cX6_read 43 = .ok (.if_icmp .ge 23, 3) := by decide +kernel
theorem dX6_read_46 : decode cX6_read 46 = .ok (.aload_n 0, 1) := by decide +kernel
theorem dX6_read_47 : decode cX6_read 47 = .ok (.getfield 35, 3) := by decide +kernel
theorem dX6_read_50 : decode cX6_read 50 = .ok (.ifCond .eq 6, 3) := by decide +kernel
theorem dX6_read_53 : decode cX6_read 53 = .ok (.goto 13, 3) := by decide +kernel
theorem dX6_read_56 : decode cX6_read 56 = .ok (.aload_n 0, 1) := by decide +kernel
theorem dX6_read_57 : decode cX6_read 57 = .ok (.invokevirtual 41, 3) := by decide +kernel
theorem dX6_read_60 : decode cX6_read 60 = .ok (.iinc 1 1, 3) := by decide +kernel
theorem dX6_read_63 : decode cX6_read 63 = .ok (.goto (-39), 3) := by decide +kernel
theorem dX6_read_66 : decode cX6_read 66 = .ok (.aload_n 0, 1) := by decide +kernel
theorem dX6_read_67 : decode cX6_read 67 = .ok (.getfield 35, 3) := by decide +kernel
theorem dX6_read_70 : decode cX6_read 70 = .ok (.ifCond .ne 7, 3) := by decide +kernel
theorem dX6_read_73 : decode cX6_read 73 = .ok (.iconst 1, 1) := by decide +kernel
theorem dX6_read_74 : decode cX6_read 74 = .ok (.goto 4, 3) := by decide +kernel
theorem dX6_read_77 : decode cX6_read 77 = .ok (.iconst 0, 1) := by decide +kernel
theorem dX6_read_78 : decode cX6_read 78 = .ok (.ireturn, 1) := by decide +kernel
theorem dX6_readClause_0 : decode cX6_readClause 0 = .ok (.aload_n 0, 1) := by decide +kernel
theorem dX6_readClause_1 : decode cX6_readClause 1 = .ok (.invokevirtual 44, 3) := by decide +kernel
theorem dX6_readClause_4 : decode cX6_readClause 4 = .ok (.istore_n 1, 1) := by decide +kernel
theorem dX6_readClause_5 : decode cX6_readClause 5 = .ok (.aload_n 0, 1) := by decide +kernel
theorem dX6_readClause_6 : decode cX6_readClause 6 = .ok (.iload_n 1, 1) := by decide +kernel
theorem dX6_readClause_7 : decode cX6_readClause 7 = .ok (.invokevirtual 48, 3) := by decide +kernel
theorem dX6_readClause_10 : decode cX6_readClause 10 = .ok (.aload_n 0, 1) := by decide +kernel
theorem dX6_readClause_11 : decode cX6_readClause 11 = .ok (.getfield 35, 3) := by decide +kernel
theorem dX6_readClause_14 : decode cX6_readClause 14 = .ok (.ifCond .eq 4, 3) := by decide +kernel
theorem dX6_readClause_17 : decode cX6_readClause 17 = .ok (.return_, 1) := by decide +kernel
theorem dX6_readClause_18 : decode cX6_readClause 18 = .ok (.aload_n 0, 1) := by decide +kernel
theorem dX6_readClause_19 : decode cX6_readClause 19 = .ok (.dup, 1) := by decide +kernel
theorem dX6_readClause_20 : decode cX6_readClause 20 = .ok (.getfield 32, 3) := by decide +kernel
theorem dX6_readClause_23 : decode cX6_readClause 23 = .ok (.iconst 1, 1) := by decide +kernel
theorem dX6_readClause_24 : decode cX6_readClause 24 = .ok (.iadd, 1) := by decide +kernel
theorem dX6_readClause_25 : decode cX6_readClause 25 = .ok (.putfield 32, 3) := by decide +kernel
theorem dX6_readClause_28 : decode cX6_readClause 28 = .ok (.iload_n 1, 1) := by decide +kernel
theorem dX6_readClause_29 : decode cX6_readClause 29 = .ok (.tableswitch 110 100 114 #[96, 110, 110, 75, 110, 82, 89, 110, 110, 110, 110, 110, 110, 110, 103], 75) := by decide +kernel
theorem dX6_readClause_104 : decode cX6_readClause 104 = .ok (.aload_n 0, 1) := by decide +kernel
theorem dX6_readClause_105 : decode cX6_readClause 105 = .ok (.invokevirtual 52, 3) := by decide +kernel
theorem dX6_readClause_108 : decode cX6_readClause 108 = .ok (.goto 35, 3) := by decide +kernel
theorem dX6_readClause_111 : decode cX6_readClause 111 = .ok (.aload_n 0, 1) := by decide +kernel
theorem dX6_readClause_112 : decode cX6_readClause 112 = .ok (.invokevirtual 55, 3) := by decide +kernel
theorem dX6_readClause_115 : decode cX6_readClause 115 = .ok (.goto 28, 3) := by decide +kernel
theorem dX6_readClause_118 : decode cX6_readClause 118 = .ok (.aload_n 0, 1) := by decide +kernel
theorem dX6_readClause_119 : decode cX6_readClause 119 = .ok (.invokevirtual 58, 3) := by decide +kernel
theorem dX6_readClause_122 : decode cX6_readClause 122 = .ok (.goto 21, 3) := by decide +kernel
theorem dX6_readClause_125 : decode cX6_readClause 125 = .ok (.aload_n 0, 1) := by decide +kernel
theorem dX6_readClause_126 : decode cX6_readClause 126 = .ok (.invokevirtual 61, 3) := by decide +kernel
theorem dX6_readClause_129 : decode cX6_readClause 129 = .ok (.goto 14, 3) := by decide +kernel
theorem dX6_readClause_132 : decode cX6_readClause 132 = .ok (.aload_n 0, 1) := by decide +kernel
theorem dX6_readClause_133 : decode cX6_readClause 133 = .ok (.invokevirtual 64, 3) := by decide +kernel
theorem dX6_readClause_136 : decode cX6_readClause 136 = .ok (.goto 7, 3) := by decide +kernel
theorem dX6_readClause_139 : decode cX6_readClause 139 = .ok (.aload_n 0, 1) := by decide +kernel
theorem dX6_readClause_140 : decode cX6_readClause 140 = .ok (.invokevirtual 67, 3) := by decide +kernel
theorem dX6_readClause_143 : decode cX6_readClause 143 = .ok (.aload_n 0, 1) := by decide +kernel
theorem dX6_readClause_144 : decode cX6_readClause 144 = .ok (.invokevirtual 70, 3) := by decide +kernel
theorem dX6_readClause_147 : decode cX6_readClause 147 = .ok (.return_, 1) := by decide +kernel
theorem dX6_checkWord_0 : decode cX6_checkWord 0 = .ok (.iload_n 1, 1) := by decide +kernel
theorem dX6_checkWord_1 : decode cX6_checkWord 1 = .ok (.bipush 103, 2) := by decide +kernel
theorem dX6_checkWord_3 : decode cX6_checkWord 3 = .ok (.if_icmp .eq 33, 3) := by decide +kernel
theorem dX6_checkWord_6 : decode cX6_checkWord 6 = .ok (.iload_n 1, 1) := by decide +kernel
theorem dX6_checkWord_7 : decode cX6_checkWord 7 = .ok (.bipush 105, 2) := by decide +kernel
theorem dX6_checkWord_9 : decode cX6_checkWord 9 = .ok (.if_icmp .eq 27, 3) := by decide +kernel
theorem dX6_checkWord_12 : decode cX6_checkWord 12 = .ok (.iload_n 1, 1) := by decide +kernel
theorem dX6_checkWord_13 : decode cX6_checkWord 13 = .ok (.bipush 106, 2) := by decide +kernel
theorem dX6_checkWord_15 : decode cX6_checkWord 15 = .ok (.if_icmp .eq 21, 3) := by decide +kernel
theorem dX6_checkWord_18 : decode cX6_checkWord 18 = .ok (.iload_n 1, 1) := by decide +kernel
theorem dX6_checkWord_19 : decode cX6_checkWord 19 = .ok (.bipush 100, 2) := by decide +kernel
theorem dX6_checkWord_21 : decode cX6_checkWord 21 = .ok (.if_icmp .eq 15, 3) := by decide +kernel
theorem dX6_checkWord_24 : decode cX6_checkWord 24 = .ok (.iload_n 1, 1) := by decide +kernel
theorem dX6_checkWord_25 : decode cX6_checkWord 25 = .ok (.bipush 114, 2) := by decide +kernel
theorem dX6_checkWord_27 : decode cX6_checkWord 27 = .ok (.if_icmp .eq 9, 3) := by decide +kernel
theorem dX6_checkWord_30 : decode cX6_checkWord 30 = .ok (.iload_n 1, 1) := by decide +kernel
theorem dX6_checkWord_31 : decode cX6_checkWord 31 = .ok (.bipush 116, 2) := by decide +kernel
theorem dX6_checkWord_33 : decode cX6_checkWord 33 = .ok (.if_icmp .ne 7, 3) := by decide +kernel
theorem dX6_checkWord_36 : decode cX6_checkWord 36 = .ok (.iconst 1, 1) := by decide +kernel
theorem dX6_checkWord_37 : decode cX6_checkWord 37 = .ok (.goto 4, 3) := by decide +kernel
theorem dX6_checkWord_40 : decode cX6_checkWord 40 = .ok (.iconst 0, 1) := by decide +kernel
theorem dX6_checkWord_41 : decode cX6_checkWord 41 = .ok (.istore_n 2, 1) := by decide +kernel
theorem dX6_checkWord_42 : decode cX6_checkWord 42 = .ok (.iload_n 2, 1) := by decide +kernel
theorem dX6_checkWord_43 : decode cX6_checkWord 43 = .ok (.ifCond .eq 19, 3) := by decide +kernel
theorem dX6_checkWord_46 : decode cX6_checkWord 46 = .ok (.aload_n 0, 1) := by decide +kernel
theorem dX6_checkWord_47 : decode cX6_checkWord 47 = .ok (.getfield 22, 3) := by decide +kernel
theorem dX6_checkWord_50 : decode cX6_checkWord 50 = .ok (.getfield 73, 3) := by decide +kernel
theorem dX6_checkWord_53 : decode cX6_checkWord 53 = .ok (.ifCond .ne 18, 3) := by decide +kernel
theorem dX6_checkWord_56 : decode cX6_checkWord 56 = .ok (.iload_n 1, 1) := by decide +kernel
theorem dX6_checkWord_57 : decode cX6_checkWord 57 = .ok (.bipush 103, 2) := by decide +kernel
theorem dX6_checkWord_59 : decode cX6_checkWord 59 = .ok (.if_icmp .eq 12, 3) := by decide +kernel
theorem dX6_checkWord_62 : decode cX6_checkWord 62 = .ok (.aload_n 0, 1) := by decide +kernel
theorem dX6_checkWord_63 : decode cX6_checkWord 63 = .ok (.iconst 1, 1) := by decide +kernel
theorem dX6_checkWord_64 : decode cX6_checkWord 64 = .ok (.aload_n 0, 1) := by decide +kernel
theorem dX6_checkWord_65 : decode cX6_checkWord 65 = .ok (.getfield 32, 3) := by decide +kernel
theorem dX6_checkWord_68 : decode cX6_checkWord 68 = .ok (.invokevirtual 77, 3) := by decide +kernel
theorem dX6_checkWord_71 : decode cX6_checkWord 71 = .ok (.iload_n 1, 1) := by decide +kernel
theorem dX6_checkWord_72 : decode cX6_checkWord 72 = .ok (.bipush 103, 2) := by decide +kernel
theorem dX6_checkWord_74 : decode cX6_checkWord 74 = .ok (.if_icmp .ne 13, 3) := by decide +kernel
theorem dX6_checkWord_77 : decode cX6_checkWord 77 = .ok (.aload_n 0, 1) := by decide +kernel
theorem dX6_checkWord_78 : decode cX6_checkWord 78 = .ok (.getfield 22, 3) := by decide +kernel
theorem dX6_checkWord_81 : decode cX6_checkWord 81 = .ok (.getfield 73, 3) := by decide +kernel
theorem dX6_checkWord_84 : decode cX6_checkWord 84 = .ok (.ifCond .ne 74, 3) := by decide +kernel
theorem dX6_checkWord_87 : decode cX6_checkWord 87 = .ok (.iload_n 1, 1) := by decide +kernel
theorem dX6_checkWord_88 : decode cX6_checkWord 88 = .ok (.bipush 105, 2) := by decide +kernel
theorem dX6_checkWord_90 : decode cX6_checkWord 90 = .ok (.if_icmp .ne 15, 3) := by decide +kernel
theorem dX6_checkWord_93 : decode cX6_checkWord 93 = .ok (.aload_n 0, 1) := by decide +kernel
theorem dX6_checkWord_94 : decode cX6_checkWord 94 = .ok (.getfield 22, 3) := by decide +kernel
theorem dX6_checkWord_97 : decode cX6_checkWord 97 = .ok (.getfield 81, 3) := by decide +kernel
theorem dX6_checkWord_100 : decode cX6_checkWord 100 = .ok (.bipush 8, 2) := by decide +kernel
theorem dX6_checkWord_102 : decode cX6_checkWord 102 = .ok (.if_icmp .ge 56, 3) := by decide +kernel
theorem dX6_checkWord_105 : decode cX6_checkWord 105 = .ok (.iload_n 1, 1) := by decide +kernel
theorem dX6_checkWord_106 : decode cX6_checkWord 106 = .ok (.bipush 106, 2) := by decide +kernel
theorem dX6_checkWord_108 : decode cX6_checkWord 108 = .ok (.if_icmp .ne 15, 3) := by decide +kernel
theorem dX6_checkWord_111 : decode cX6_checkWord 111 = .ok (.aload_n 0, 1) := by decide +kernel
theorem dX6_checkWord_112 : decode cX6_checkWord 112 = .ok (.getfield 22, 3) := by decide +kernel
theorem dX6_checkWord_115 : decode cX6_checkWord 115 = .ok (.getfield 84, 3) := by decide +kernel
theorem dX6_checkWord_118 : decode cX6_checkWord 118 = .ok (.bipush 10, 2) := by decide +kernel
theorem dX6_checkWord_120 : decode cX6_checkWord 120 = .ok (.if_icmp .ge 38, 3) := by decide +kernel
theorem dX6_checkWord_123 : decode cX6_checkWord 123 = .ok (.iload_n 1, 1) := by decide +kernel
theorem dX6_checkWord_124 : decode cX6_checkWord 124 = .ok (.bipush 100, 2) := by decide +kernel
theorem dX6_checkWord_126 : decode cX6_checkWord 126 = .ok (.if_icmp .ne 15, 3) := by decide +kernel
theorem dX6_checkWord_129 : decode cX6_checkWord 129 = .ok (.aload_n 0, 1) := by decide +kernel
theorem dX6_checkWord_130 : decode cX6_checkWord 130 = .ok (.getfield 22, 3) := by decide +kernel
theorem dX6_checkWord_133 : decode cX6_checkWord 133 = .ok (.getfield 87, 3) := by decide +kernel
theorem dX6_checkWord_136 : decode cX6_checkWord 136 = .ok (.bipush 10, 2) := by decide +kernel
theorem dX6_checkWord_138 : decode cX6_checkWord 138 = .ok (.if_icmp .ge 20, 3) := by decide +kernel
theorem dX6_checkWord_141 : decode cX6_checkWord 141 = .ok (.iload_n 1, 1) := by decide +kernel
theorem dX6_checkWord_142 : decode cX6_checkWord 142 = .ok (.bipush 116, 2) := by decide +kernel
theorem dX6_checkWord_144 : decode cX6_checkWord 144 = .ok (.if_icmp .ne 18, 3) := by decide +kernel
theorem dX6_checkWord_147 : decode cX6_checkWord 147 = .ok (.aload_n 0, 1) := by decide +kernel
theorem dX6_checkWord_148 : decode cX6_checkWord 148 = .ok (.getfield 22, 3) := by decide +kernel
theorem dX6_checkWord_151 : decode cX6_checkWord 151 = .ok (.getfield 90, 3) := by decide +kernel
theorem dX6_checkWord_154 : decode cX6_checkWord 154 = .ok (.iconst 5, 1) := by decide +kernel
theorem dX6_checkWord_155 : decode cX6_checkWord 155 = .ok (.if_icmp .lt 7, 3) := by decide +kernel
theorem dX6_checkWord_158 : decode cX6_checkWord 158 = .ok (.iconst 1, 1) := by decide +kernel
theorem dX6_checkWord_159 : decode cX6_checkWord 159 = .ok (.goto 4, 3) := by decide +kernel
theorem dX6_checkWord_162 : decode cX6_checkWord 162 = .ok (.iconst 0, 1) := by decide +kernel
theorem dX6_checkWord_163 : decode cX6_checkWord 163 = .ok (.istore_n 3, 1) := by decide +kernel
theorem dX6_checkWord_164 : decode cX6_checkWord 164 = .ok (.iload_n 3, 1) := by decide +kernel
theorem dX6_checkWord_165 : decode cX6_checkWord 165 = .ok (.ifCond .eq 12, 3) := by decide +kernel
theorem dX6_checkWord_168 : decode cX6_checkWord 168 = .ok (.aload_n 0, 1) := by decide +kernel
theorem dX6_checkWord_169 : decode cX6_checkWord 169 = .ok (.iconst 3, 1) := by decide +kernel
theorem dX6_checkWord_170 : decode cX6_checkWord 170 = .ok (.aload_n 0, 1) := by decide +kernel
theorem dX6_checkWord_171 : decode cX6_checkWord 171 = .ok (.getfield 32, 3) := by decide +kernel
theorem dX6_checkWord_174 : decode cX6_checkWord 174 = .ok (.invokevirtual 77, 3) := by decide +kernel
theorem dX6_checkWord_177 : decode cX6_checkWord 177 = .ok (.return_, 1) := by decide +kernel
theorem dX6_readGate_0 : decode cX6_readGate 0 = .ok (.aload_n 0, 1) := by decide +kernel
theorem dX6_readGate_1 : decode cX6_readGate 1 = .ok (.getfield 22, 3) := by decide +kernel
theorem dX6_readGate_4 : decode cX6_readGate 4 = .ok (.aload_n 0, 1) := by decide +kernel
theorem dX6_readGate_5 : decode cX6_readGate 5 = .ok (.iconst 1, 1) := by decide +kernel
theorem dX6_readGate_6 : decode cX6_readGate 6 = .ok (.sipush 999, 3) := by decide +kernel
theorem dX6_readGate_9 : decode cX6_readGate 9 = .ok (.invokevirtual 93, 3) := by decide +kernel
theorem dX6_readGate_12 : decode cX6_readGate 12 = .ok (.putfield 97, 3) := by decide +kernel
theorem dX6_readGate_15 : decode cX6_readGate 15 = .ok (.aload_n 0, 1) := by decide +kernel
theorem dX6_readGate_16 : decode cX6_readGate 16 = .ok (.getfield 22, 3) := by decide +kernel
theorem dX6_readGate_19 : decode cX6_readGate 19 = .ok (.aload_n 0, 1) := by decide +kernel
theorem dX6_readGate_20 : decode cX6_readGate 20 = .ok (.iconst 0, 1) := by decide +kernel
theorem dX6_readGate_21 : decode cX6_readGate 21 = .ok (.bipush 99, 2) := by decide +kernel
theorem dX6_readGate_23 : decode cX6_readGate 23 = .ok (.invokevirtual 93, 3) := by decide +kernel
theorem dX6_readGate_26 : decode cX6_readGate 26 = .ok (.putfield 100, 3) := by decide +kernel
theorem dX6_readGate_29 : decode cX6_readGate 29 = .ok (.aload_n 0, 1) := by decide +kernel
theorem dX6_readGate_30 : decode cX6_readGate 30 = .ok (.getfield 22, 3) := by decide +kernel
theorem dX6_readGate_33 : decode cX6_readGate 33 = .ok (.iconst 1, 1) := by decide +kernel
theorem dX6_readGate_34 : decode cX6_readGate 34 = .ok (.putfield 73, 3) := by decide +kernel
theorem dX6_readGate_37 : decode cX6_readGate 37 = .ok (.return_, 1) := by decide +kernel
theorem dX6_readIdea_0 : decode cX6_readIdea 0 = .ok (.aload_n 0, 1) := by decide +kernel
theorem dX6_readIdea_1 : decode cX6_readIdea 1 = .ok (.iconst 1, 1) := by decide +kernel
theorem dX6_readIdea_2 : decode cX6_readIdea 2 = .ok (.bipush 99, 2) := by decide +kernel
theorem dX6_readIdea_4 : decode cX6_readIdea 4 = .ok (.invokevirtual 93, 3) := by decide +kernel
theorem dX6_readIdea_7 : decode cX6_readIdea 7 = .ok (.istore_n 1, 1) := by decide +kernel
theorem dX6_readIdea_8 : decode cX6_readIdea 8 = .ok (.aload_n 0, 1) := by decide +kernel
theorem dX6_readIdea_9 : decode cX6_readIdea 9 = .ok (.getfield 35, 3) := by decide +kernel
theorem dX6_readIdea_12 : decode cX6_readIdea 12 = .ok (.ifCond .ne 32, 3) := by decide +kernel
theorem dX6_readIdea_15 : decode cX6_readIdea 15 = .ok (.aload_n 0, 1) := by decide +kernel
theorem dX6_readIdea_16 : decode cX6_readIdea 16 = .ok (.getfield 22, 3) := by decide +kernel
theorem dX6_readIdea_19 : decode cX6_readIdea 19 = .ok (.getfield 103, 3) := by decide +kernel
theorem dX6_readIdea_22 : decode cX6_readIdea 22 = .ok (.aload_n 0, 1) := by decide +kernel
theorem dX6_readIdea_23 : decode cX6_readIdea 23 = .ok (.getfield 22, 3) := by decide +kernel
theorem dX6_readIdea_26 : decode cX6_readIdea 26 = .ok (.getfield 81, 3) := by decide +kernel
theorem dX6_readIdea_29 : decode cX6_readIdea 29 = .ok (.iload_n 1, 1) := by decide +kernel
theorem dX6_readIdea_30 : decode cX6_readIdea 30 = .ok (.iastore, 1) := by decide +kernel
theorem dX6_readIdea_31 : decode cX6_readIdea 31 = .ok (.aload_n 0, 1) := by decide +kernel
theorem dX6_readIdea_32 : decode cX6_readIdea 32 = .ok (.getfield 22, 3) := by decide +kernel
theorem dX6_readIdea_35 : decode cX6_readIdea 35 = .ok (.dup, 1) := by decide +kernel
theorem dX6_readIdea_36 : decode cX6_readIdea 36 = .ok (.getfield 81, 3) := by decide +kernel
theorem dX6_readIdea_39 : decode cX6_readIdea 39 = .ok (.iconst 1, 1) := by decide +kernel
theorem dX6_readIdea_40 : decode cX6_readIdea 40 = .ok (.iadd, 1) := by decide +kernel
theorem dX6_readIdea_41 : decode cX6_readIdea 41 = .ok (.putfield 81, 3) := by decide +kernel
theorem dX6_readIdea_44 : decode cX6_readIdea 44 = .ok (.return_, 1) := by decide +kernel
theorem dX6_readJoining_0 : decode cX6_readJoining 0 = .ok (.aload_n 0, 1) := by decide +kernel
theorem dX6_readJoining_1 : decode cX6_readJoining 1 = .ok (.invokevirtual 106, 3) := by decide +kernel
theorem dX6_readJoining_4 : decode cX6_readJoining 4 = .ok (.istore_n 1, 1) := by decide +kernel
theorem dX6_readJoining_5 : decode cX6_readJoining 5 = .ok (.aload_n 0, 1) := by decide +kernel
theorem dX6_readJoining_6 : decode cX6_readJoining 6 = .ok (.invokevirtual 106, 3) := by decide +kernel
theorem dX6_readJoining_9 : decode cX6_readJoining 9 = .ok (.istore_n 2, 1) := by decide +kernel
theorem dX6_readJoining_10 : decode cX6_readJoining 10 = .ok (.aload_n 0, 1) := by decide +kernel
theorem dX6_readJoining_11 : decode cX6_readJoining 11 = .ok (.invokevirtual 106, 3) := by decide +kernel
theorem dX6_readJoining_14 : decode cX6_readJoining 14 = .ok (.istore_n 3, 1) := by decide +kernel
theorem dX6_readJoining_15 : decode cX6_readJoining 15 = .ok (.iload_n 3, 1) := by decide +kernel
theorem dX6_readJoining_16 : decode cX6_readJoining 16 = .ok (.iload_n 1, 1) := by decide +kernel
theorem dX6_readJoining_17 : decode cX6_readJoining 17 = .ok (.if_icmp .eq 8, 3) := by decide +kernel
theorem dX6_readJoining_20 : decode cX6_readJoining 20 = .ok (.iload_n 3, 1) := by decide +kernel
theorem dX6_readJoining_21 : decode cX6_readJoining 21 = .ok (.iload_n 2, 1) := by decide +kernel
theorem dX6_readJoining_22 : decode cX6_readJoining 22 = .ok (.if_icmp .ne 12, 3) := by decide +kernel
theorem dX6_readJoining_25 : decode cX6_readJoining 25 = .ok (.aload_n 0, 1) := by decide +kernel
theorem dX6_readJoining_26 : decode cX6_readJoining 26 = .ok (.iconst 4, 1) := by decide +kernel
theorem dX6_readJoining_27 : decode cX6_readJoining 27 = .ok (.aload_n 0, 1) := by decide +kernel
theorem dX6_readJoining_28 : decode cX6_readJoining 28 = .ok (.getfield 109, 3) := by decide +kernel
theorem dX6_readJoining_31 : decode cX6_readJoining 31 = .ok (.invokevirtual 77, 3) := by decide +kernel
theorem dX6_readJoining_34 : decode cX6_readJoining 34 = .ok (.aload_n 0, 1) := by decide +kernel
theorem dX6_readJoining_35 : decode cX6_readJoining 35 = .ok (.getfield 35, 3) := by decide +kernel
theorem dX6_readJoining_38 : decode cX6_readJoining 38 = .ok (.ifCond .ne 64, 3) := by decide +kernel
theorem dX6_readJoining_41 : decode cX6_readJoining 41 = .ok (.aload_n 0, 1) := by decide +kernel
theorem dX6_readJoining_42 : decode cX6_readJoining 42 = .ok (.getfield 22, 3) := by decide +kernel
theorem dX6_readJoining_45 : decode cX6_readJoining 45 = .ok (.getfield 112, 3) := by decide +kernel
theorem dX6_readJoining_48 : decode cX6_readJoining 48 = .ok (.aload_n 0, 1) := by decide +kernel
theorem dX6_readJoining_49 : decode cX6_readJoining 49 = .ok (.getfield 22, 3) := by decide +kernel
theorem dX6_readJoining_52 : decode cX6_readJoining 52 = .ok (.getfield 84, 3) := by decide +kernel
theorem dX6_readJoining_55 : decode cX6_readJoining 55 = .ok (.iload_n 1, 1) := by decide +kernel
theorem dX6_readJoining_56 : decode cX6_readJoining 56 = .ok (.iastore, 1) := by decide +kernel
theorem dX6_readJoining_57 : decode cX6_readJoining 57 = .ok (.aload_n 0, 1) := by decide +kernel
theorem dX6_readJoining_58 : decode cX6_readJoining 58 = .ok (.getfield 22, 3) := by decide +kernel
theorem dX6_readJoining_61 : decode cX6_readJoining 61 = .ok (.getfield 115, 3) := by decide +kernel
theorem dX6_readJoining_64 : decode cX6_readJoining 64 = .ok (.aload_n 0, 1) := by decide +kernel
theorem dX6_readJoining_65 : decode cX6_readJoining 65 = .ok (.getfield 22, 3) := by decide +kernel
theorem dX6_readJoining_68 : decode cX6_readJoining 68 = .ok (.getfield 84, 3) := by decide +kernel
theorem dX6_readJoining_71 : decode cX6_readJoining 71 = .ok (.iload_n 2, 1) := by decide +kernel
theorem dX6_readJoining_72 : decode cX6_readJoining 72 = .ok (.iastore, 1) := by decide +kernel
theorem dX6_readJoining_73 : decode cX6_readJoining 73 = .ok (.aload_n 0, 1) := by decide +kernel
theorem dX6_readJoining_74 : decode cX6_readJoining 74 = .ok (.getfield 22, 3) := by decide +kernel
theorem dX6_readJoining_77 : decode cX6_readJoining 77 = .ok (.getfield 118, 3) := by decide +kernel
theorem dX6_readJoining_80 : decode cX6_readJoining 80 = .ok (.aload_n 0, 1) := by decide +kernel
theorem dX6_readJoining_81 : decode cX6_readJoining 81 = .ok (.getfield 22, 3) := by decide +kernel
theorem dX6_readJoining_84 : decode cX6_readJoining 84 = .ok (.getfield 84, 3) := by decide +kernel
theorem dX6_readJoining_87 : decode cX6_readJoining 87 = .ok (.iload_n 3, 1) := by decide +kernel
theorem dX6_readJoining_88 : decode cX6_readJoining 88 = .ok (.iastore, 1) := by decide +kernel
theorem dX6_readJoining_89 : decode cX6_readJoining 89 = .ok (.aload_n 0, 1) := by decide +kernel
theorem dX6_readJoining_90 : decode cX6_readJoining 90 = .ok (.getfield 22, 3) := by decide +kernel
theorem dX6_readJoining_93 : decode cX6_readJoining 93 = .ok (.dup, 1) := by decide +kernel
theorem dX6_readJoining_94 : decode cX6_readJoining 94 = .ok (.getfield 84, 3) := by decide +kernel
theorem dX6_readJoining_97 : decode cX6_readJoining 97 = .ok (.iconst 1, 1) := by decide +kernel
theorem dX6_readJoining_98 : decode cX6_readJoining 98 = .ok (.iadd, 1) := by decide +kernel
theorem dX6_readJoining_99 : decode cX6_readJoining 99 = .ok (.putfield 84, 3) := by decide +kernel
theorem dX6_readJoining_102 : decode cX6_readJoining 102 = .ok (.return_, 1) := by decide +kernel
theorem dX6_readTalk_0 : decode cX6_readTalk 0 = .ok (.aload_n 0, 1) := by decide +kernel
theorem dX6_readTalk_1 : decode cX6_readTalk 1 = .ok (.invokevirtual 106, 3) := by decide +kernel
theorem dX6_readTalk_4 : decode cX6_readTalk 4 = .ok (.istore_n 1, 1) := by decide +kernel
theorem dX6_readTalk_5 : decode cX6_readTalk 5 = .ok (.aload_n 0, 1) := by decide +kernel
theorem dX6_readTalk_6 : decode cX6_readTalk 6 = .ok (.invokevirtual 106, 3) := by decide +kernel
theorem dX6_readTalk_9 : decode cX6_readTalk 9 = .ok (.istore_n 2, 1) := by decide +kernel
theorem dX6_readTalk_10 : decode cX6_readTalk 10 = .ok (.iload_n 1, 1) := by decide +kernel
theorem dX6_readTalk_11 : decode cX6_readTalk 11 = .ok (.iload_n 2, 1) := by decide +kernel
theorem dX6_readTalk_12 : decode cX6_readTalk 12 = .ok (.if_icmp .eq 24, 3) := by decide +kernel
theorem dX6_readTalk_15 : decode cX6_readTalk 15 = .ok (.aload_n 0, 1) := by decide +kernel
theorem dX6_readTalk_16 : decode cX6_readTalk 16 = .ok (.getfield 22, 3) := by decide +kernel
theorem dX6_readTalk_19 : decode cX6_readTalk 19 = .ok (.getfield 103, 3) := by decide +kernel
theorem dX6_readTalk_22 : decode cX6_readTalk 22 = .ok (.iload_n 2, 1) := by decide +kernel
theorem dX6_readTalk_23 : decode cX6_readTalk 23 = .ok (.iaload, 1) := by decide +kernel
theorem dX6_readTalk_24 : decode cX6_readTalk 24 = .ok (.aload_n 0, 1) := by decide +kernel
theorem dX6_readTalk_25 : decode cX6_readTalk 25 = .ok (.getfield 22, 3) := by decide +kernel
theorem dX6_readTalk_28 : decode cX6_readTalk 28 = .ok (.getfield 103, 3) := by decide +kernel
theorem dX6_readTalk_31 : decode cX6_readTalk 31 = .ok (.iload_n 1, 1) := by decide +kernel
theorem dX6_readTalk_32 : decode cX6_readTalk 32 = .ok (.iaload, 1) := by decide +kernel
theorem dX6_readTalk_33 : decode cX6_readTalk 33 = .ok (.if_icmp .le 12, 3) := by decide +kernel
theorem dX6_readTalk_36 : decode cX6_readTalk 36 = .ok (.aload_n 0, 1) := by decide +kernel
theorem dX6_readTalk_37 : decode cX6_readTalk 37 = .ok (.iconst 4, 1) := by decide +kernel
theorem dX6_readTalk_38 : decode cX6_readTalk 38 = .ok (.aload_n 0, 1) := by decide +kernel
theorem dX6_readTalk_39 : decode cX6_readTalk 39 = .ok (.getfield 109, 3) := by decide +kernel
theorem dX6_readTalk_42 : decode cX6_readTalk 42 = .ok (.invokevirtual 77, 3) := by decide +kernel
theorem dX6_readTalk_45 : decode cX6_readTalk 45 = .ok (.aload_n 0, 1) := by decide +kernel
theorem dX6_readTalk_46 : decode cX6_readTalk 46 = .ok (.iconst 1, 1) := by decide +kernel
theorem dX6_readTalk_47 : decode cX6_readTalk 47 = .ok (.bipush 99, 2) := by decide +kernel
theorem dX6_readTalk_49 : decode cX6_readTalk 49 = .ok (.invokevirtual 93, 3) := by decide +kernel
theorem dX6_readTalk_52 : decode cX6_readTalk 52 = .ok (.istore_n 3, 1) := by decide +kernel
theorem dX6_readTalk_53 : decode cX6_readTalk 53 = .ok (.aload_n 0, 1) := by decide +kernel
theorem dX6_readTalk_54 : decode cX6_readTalk 54 = .ok (.getfield 35, 3) := by decide +kernel
theorem dX6_readTalk_57 : decode cX6_readTalk 57 = .ok (.ifCond .ne 64, 3) := by decide +kernel
theorem dX6_readTalk_60 : decode cX6_readTalk 60 = .ok (.aload_n 0, 1) := by decide +kernel
theorem dX6_readTalk_61 : decode cX6_readTalk 61 = .ok (.getfield 22, 3) := by decide +kernel
theorem dX6_readTalk_64 : decode cX6_readTalk 64 = .ok (.getfield 121, 3) := by decide +kernel
theorem dX6_readTalk_67 : decode cX6_readTalk 67 = .ok (.aload_n 0, 1) := by decide +kernel
theorem dX6_readTalk_68 : decode cX6_readTalk 68 = .ok (.getfield 22, 3) := by decide +kernel
theorem dX6_readTalk_71 : decode cX6_readTalk 71 = .ok (.getfield 87, 3) := by decide +kernel
theorem dX6_readTalk_74 : decode cX6_readTalk 74 = .ok (.iload_n 1, 1) := by decide +kernel
theorem dX6_readTalk_75 : decode cX6_readTalk 75 = .ok (.iastore, 1) := by decide +kernel
theorem dX6_readTalk_76 : decode cX6_readTalk 76 = .ok (.aload_n 0, 1) := by decide +kernel
theorem dX6_readTalk_77 : decode cX6_readTalk 77 = .ok (.getfield 22, 3) := by decide +kernel
theorem dX6_readTalk_80 : decode cX6_readTalk 80 = .ok (.getfield 124, 3) := by decide +kernel
theorem dX6_readTalk_83 : decode cX6_readTalk 83 = .ok (.aload_n 0, 1) := by decide +kernel
theorem dX6_readTalk_84 : decode cX6_readTalk 84 = .ok (.getfield 22, 3) := by decide +kernel
theorem dX6_readTalk_87 : decode cX6_readTalk 87 = .ok (.getfield 87, 3) := by decide +kernel
theorem dX6_readTalk_90 : decode cX6_readTalk 90 = .ok (.iload_n 2, 1) := by decide +kernel
theorem dX6_readTalk_91 : decode cX6_readTalk 91 = .ok (.iastore, 1) := by decide +kernel
theorem dX6_readTalk_92 : decode cX6_readTalk 92 = .ok (.aload_n 0, 1) := by decide +kernel
theorem dX6_readTalk_93 : decode cX6_readTalk 93 = .ok (.getfield 22, 3) := by decide +kernel
theorem dX6_readTalk_96 : decode cX6_readTalk 96 = .ok (.getfield 127, 3) := by decide +kernel
theorem dX6_readTalk_99 : decode cX6_readTalk 99 = .ok (.aload_n 0, 1) := by decide +kernel
theorem dX6_readTalk_100 : decode cX6_readTalk 100 = .ok (.getfield 22, 3) := by decide +kernel
theorem dX6_readTalk_103 : decode cX6_readTalk 103 = .ok (.getfield 87, 3) := by decide +kernel
theorem dX6_readTalk_106 : decode cX6_readTalk 106 = .ok (.iload_n 3, 1) := by decide +kernel
theorem dX6_readTalk_107 : decode cX6_readTalk 107 = .ok (.iastore, 1) := by decide +kernel
theorem dX6_readTalk_108 : decode cX6_readTalk 108 = .ok (.aload_n 0, 1) := by decide +kernel
theorem dX6_readTalk_109 : decode cX6_readTalk 109 = .ok (.getfield 22, 3) := by decide +kernel
theorem dX6_readTalk_112 : decode cX6_readTalk 112 = .ok (.dup, 1) := by decide +kernel
theorem dX6_readTalk_113 : decode cX6_readTalk 113 = .ok (.getfield 87, 3) := by decide +kernel
theorem dX6_readTalk_116 : decode cX6_readTalk 116 = .ok (.iconst 1, 1) := by decide +kernel
theorem dX6_readTalk_117 : decode cX6_readTalk 117 = .ok (.iadd, 1) := by decide +kernel
theorem dX6_readTalk_118 : decode cX6_readTalk 118 = .ok (.putfield 87, 3) := by decide +kernel
theorem dX6_readTalk_121 : decode cX6_readTalk 121 = .ok (.return_, 1) := by decide +kernel
theorem dX6_readRegistered_0 : decode cX6_readRegistered 0 = .ok (.aload_n 0, 1) := by decide +kernel
theorem dX6_readRegistered_1 : decode cX6_readRegistered 1 = .ok (.invokevirtual 106, 3) := by decide +kernel
theorem dX6_readRegistered_4 : decode cX6_readRegistered 4 = .ok (.istore_n 1, 1) := by decide +kernel
theorem dX6_readRegistered_5 : decode cX6_readRegistered 5 = .ok (.aload_n 0, 1) := by decide +kernel
theorem dX6_readRegistered_6 : decode cX6_readRegistered 6 = .ok (.getfield 22, 3) := by decide +kernel
theorem dX6_readRegistered_9 : decode cX6_readRegistered 9 = .ok (.getfield 130, 3) := by decide +kernel
theorem dX6_readRegistered_12 : decode cX6_readRegistered 12 = .ok (.iconst 1, 1) := by decide +kernel
theorem dX6_readRegistered_13 : decode cX6_readRegistered 13 = .ok (.iload_n 1, 1) := by decide +kernel
theorem dX6_readRegistered_14 : decode cX6_readRegistered 14 = .ok (.ishl, 1) := by decide +kernel
theorem dX6_readRegistered_15 : decode cX6_readRegistered 15 = .ok (.iand, 1) := by decide +kernel
theorem dX6_readRegistered_16 : decode cX6_readRegistered 16 = .ok (.ifCond .eq 12, 3) := by decide +kernel
theorem dX6_readRegistered_19 : decode cX6_readRegistered 19 = .ok (.aload_n 0, 1) := by decide +kernel
theorem dX6_readRegistered_20 : decode cX6_readRegistered 20 = .ok (.iconst 4, 1) := by decide +kernel
theorem dX6_readRegistered_21 : decode cX6_readRegistered 21 = .ok (.aload_n 0, 1) := by decide +kernel
theorem dX6_readRegistered_22 : decode cX6_readRegistered 22 = .ok (.getfield 109, 3) := by decide +kernel
theorem dX6_readRegistered_25 : decode cX6_readRegistered 25 = .ok (.invokevirtual 77, 3) := by decide +kernel
theorem dX6_readRegistered_28 : decode cX6_readRegistered 28 = .ok (.aload_n 0, 1) := by decide +kernel
theorem dX6_readRegistered_29 : decode cX6_readRegistered 29 = .ok (.getfield 35, 3) := by decide +kernel
theorem dX6_readRegistered_32 : decode cX6_readRegistered 32 = .ok (.ifCond .ne 18, 3) := by decide +kernel
theorem dX6_readRegistered_35 : decode cX6_readRegistered 35 = .ok (.aload_n 0, 1) := by decide +kernel
theorem dX6_readRegistered_36 : decode cX6_readRegistered 36 = .ok (.getfield 22, 3) := by decide +kernel
theorem dX6_readRegistered_39 : decode cX6_readRegistered 39 = .ok (.dup, 1) := by decide +kernel
theorem dX6_readRegistered_40 : decode cX6_readRegistered 40 = .ok (.getfield 130, 3) := by decide +kernel
theorem dX6_readRegistered_43 : decode cX6_readRegistered 43 = .ok (.iconst 1, 1) := by decide +kernel
theorem dX6_readRegistered_44 : decode cX6_readRegistered 44 = .ok (.iload_n 1, 1) := by decide +kernel
theorem dX6_readRegistered_45 : decode cX6_readRegistered 45 = .ok (.ishl, 1) := by decide +kernel
theorem dX6_readRegistered_46 : decode cX6_readRegistered 46 = .ok (.ior, 1) := by decide +kernel
theorem dX6_readRegistered_47 : decode cX6_readRegistered 47 = .ok (.putfield 130, 3) := by decide +kernel
theorem dX6_readRegistered_50 : decode cX6_readRegistered 50 = .ok (.return_, 1) := by decide +kernel
theorem dX6_readTraveller_0 : decode cX6_readTraveller 0 = .ok (.aload_n 0, 1) := by decide +kernel
theorem dX6_readTraveller_1 : decode cX6_readTraveller 1 = .ok (.iconst 0, 1) := by decide +kernel
theorem dX6_readTraveller_2 : decode cX6_readTraveller 2 = .ok (.iconst 1, 1) := by decide +kernel
theorem dX6_readTraveller_3 : decode cX6_readTraveller 3 = .ok (.aload_n 0, 1) := by decide +kernel
theorem dX6_readTraveller_4 : decode cX6_readTraveller 4 = .ok (.getfield 22, 3) := by decide +kernel
theorem dX6_readTraveller_7 : decode cX6_readTraveller 7 = .ok (.getfield 81, 3) := by decide +kernel
theorem dX6_readTraveller_10 : decode cX6_readTraveller 10 = .ok (.ishl, 1) := by decide +kernel
theorem dX6_readTraveller_11 : decode cX6_readTraveller 11 = .ok (.iconst 1, 1) := by decide +kernel
theorem dX6_readTraveller_12 : decode cX6_readTraveller 12 = .ok (.isub, 1) := by decide +kernel
theorem dX6_readTraveller_13 : decode cX6_readTraveller 13 = .ok (.invokevirtual 93, 3) := by decide +kernel
theorem dX6_readTraveller_16 : decode cX6_readTraveller 16 = .ok (.istore_n 1, 1) := by decide +kernel
theorem dX6_readTraveller_17 : decode cX6_readTraveller 17 = .ok (.aload_n 0, 1) := by decide +kernel
theorem dX6_readTraveller_18 : decode cX6_readTraveller 18 = .ok (.getfield 35, 3) := by decide +kernel
theorem dX6_readTraveller_21 : decode cX6_readTraveller 21 = .ok (.ifCond .ne 32, 3) := by decide +kernel
theorem dX6_readTraveller_24 : decode cX6_readTraveller 24 = .ok (.aload_n 0, 1) := by decide +kernel
theorem dX6_readTraveller_25 : decode cX6_readTraveller 25 = .ok (.getfield 22, 3) := by decide +kernel
theorem dX6_readTraveller_28 : decode cX6_readTraveller 28 = .ok (.getfield 133, 3) := by decide +kernel
theorem dX6_readTraveller_31 : decode cX6_readTraveller 31 = .ok (.aload_n 0, 1) := by decide +kernel
theorem dX6_readTraveller_32 : decode cX6_readTraveller 32 = .ok (.getfield 22, 3) := by decide +kernel
theorem dX6_readTraveller_35 : decode cX6_readTraveller 35 = .ok (.getfield 90, 3) := by decide +kernel
theorem dX6_readTraveller_38 : decode cX6_readTraveller 38 = .ok (.iload_n 1, 1) := by decide +kernel
theorem dX6_readTraveller_39 : decode cX6_readTraveller 39 = .ok (.iastore, 1) := by decide +kernel
theorem dX6_readTraveller_40 : decode cX6_readTraveller 40 = .ok (.aload_n 0, 1) := by decide +kernel
theorem dX6_readTraveller_41 : decode cX6_readTraveller 41 = .ok (.getfield 22, 3) := by decide +kernel
theorem dX6_readTraveller_44 : decode cX6_readTraveller 44 = .ok (.dup, 1) := by decide +kernel
theorem dX6_readTraveller_45 : decode cX6_readTraveller 45 = .ok (.getfield 90, 3) := by decide +kernel
theorem dX6_readTraveller_48 : decode cX6_readTraveller 48 = .ok (.iconst 1, 1) := by decide +kernel
theorem dX6_readTraveller_49 : decode cX6_readTraveller 49 = .ok (.iadd, 1) := by decide +kernel
theorem dX6_readTraveller_50 : decode cX6_readTraveller 50 = .ok (.putfield 90, 3) := by decide +kernel
theorem dX6_readTraveller_53 : decode cX6_readTraveller 53 = .ok (.return_, 1) := by decide +kernel
theorem dX6_readEnd_0 : decode cX6_readEnd 0 = .ok (.aload_n 0, 1) := by decide +kernel
theorem dX6_readEnd_1 : decode cX6_readEnd 1 = .ok (.invokevirtual 38, 3) := by decide +kernel
theorem dX6_readEnd_4 : decode cX6_readEnd 4 = .ok (.aload_n 0, 1) := by decide +kernel
theorem dX6_readEnd_5 : decode cX6_readEnd 5 = .ok (.invokevirtual 44, 3) := by decide +kernel
theorem dX6_readEnd_8 : decode cX6_readEnd 8 = .ok (.bipush 59, 2) := by decide +kernel
theorem dX6_readEnd_10 : decode cX6_readEnd 10 = .ok (.if_icmp .ne 16, 3) := by decide +kernel
theorem dX6_readEnd_13 : decode cX6_readEnd 13 = .ok (.aload_n 0, 1) := by decide +kernel
theorem dX6_readEnd_14 : decode cX6_readEnd 14 = .ok (.dup, 1) := by decide +kernel
theorem dX6_readEnd_15 : decode cX6_readEnd 15 = .ok (.getfield 32, 3) := by decide +kernel
theorem dX6_readEnd_18 : decode cX6_readEnd 18 = .ok (.iconst 1, 1) := by decide +kernel
theorem dX6_readEnd_19 : decode cX6_readEnd 19 = .ok (.iadd, 1) := by decide +kernel
theorem dX6_readEnd_20 : decode cX6_readEnd 20 = .ok (.putfield 32, 3) := by decide +kernel
theorem dX6_readEnd_23 : decode cX6_readEnd 23 = .ok (.goto 12, 3) := by decide +kernel
theorem dX6_readEnd_26 : decode cX6_readEnd 26 = .ok (.aload_n 0, 1) := by decide +kernel
theorem dX6_readEnd_27 : decode cX6_readEnd 27 = .ok (.iconst 1, 1) := by decide +kernel
theorem dX6_readEnd_28 : decode cX6_readEnd 28 = .ok (.aload_n 0, 1) := by decide +kernel
theorem dX6_readEnd_29 : decode cX6_readEnd 29 = .ok (.getfield 32, 3) := by decide +kernel
theorem dX6_readEnd_32 : decode cX6_readEnd 32 = .ok (.invokevirtual 77, 3) := by decide +kernel
theorem dX6_readEnd_35 : decode cX6_readEnd 35 = .ok (.return_, 1) := by decide +kernel
theorem dX6_readToldIdea_0 : decode cX6_readToldIdea 0 = .ok (.aload_n 0, 1) := by decide +kernel
theorem dX6_readToldIdea_1 : decode cX6_readToldIdea 1 = .ok (.iconst 0, 1) := by decide +kernel
theorem dX6_readToldIdea_2 : decode cX6_readToldIdea 2 = .ok (.aload_n 0, 1) := by decide +kernel
theorem dX6_readToldIdea_3 : decode cX6_readToldIdea 3 = .ok (.getfield 22, 3) := by decide +kernel
theorem dX6_readToldIdea_6 : decode cX6_readToldIdea 6 = .ok (.getfield 81, 3) := by decide +kernel
theorem dX6_readToldIdea_9 : decode cX6_readToldIdea 9 = .ok (.iconst 1, 1) := by decide +kernel
theorem dX6_readToldIdea_10 : decode cX6_readToldIdea 10 = .ok (.isub, 1) := by decide +kernel
theorem dX6_readToldIdea_11 : decode cX6_readToldIdea 11 = .ok (.invokevirtual 93, 3) := by decide +kernel
theorem dX6_readToldIdea_14 : decode cX6_readToldIdea 14 = .ok (.ireturn, 1) := by decide +kernel
theorem dX6_readNumber_0 : decode cX6_readNumber 0 = .ok (.aload_n 0, 1) := by decide +kernel
theorem dX6_readNumber_1 : decode cX6_readNumber 1 = .ok (.invokevirtual 38, 3) := by decide +kernel
theorem dX6_readNumber_4 : decode cX6_readNumber 4 = .ok (.aload_n 0, 1) := by decide +kernel
theorem dX6_readNumber_5 : decode cX6_readNumber 5 = .ok (.aload_n 0, 1) := by decide +kernel
theorem dX6_readNumber_6 : decode cX6_readNumber 6 = .ok (.getfield 32, 3) := by decide +kernel
theorem dX6_readNumber_9 : decode cX6_readNumber 9 = .ok (.putfield 109, 3) := by decide +kernel
theorem dX6_readNumber_12 : decode cX6_readNumber 12 = .ok (.iconst 0, 1) := by decide +kernel
theorem dX6_readNumber_13 : decode cX6_readNumber 13 = .ok (.istore_n 3, 1) := by decide +kernel
theorem dX6_readNumber_14 : decode cX6_readNumber 14 = .ok (.aload_n 0, 1) := by decide +kernel
theorem dX6_readNumber_15 : decode cX6_readNumber 15 = .ok (.getfield 32, 3) := by decide +kernel
theorem dX6_readNumber_18 : decode cX6_readNumber 18 = .ok (.aload_n 0, 1) := by decide +kernel
theorem dX6_readNumber_19 : decode cX6_readNumber 19 = .ok (.getfield 26, 3) := by decide +kernel
theorem dX6_readNumber_22 : decode cX6_readNumber 22 = .ok (.if_icmp .ge 45, 3) := by decide +kernel
theorem dX6_readNumber_25 : decode cX6_readNumber 25 = .ok (.aload_n 0, 1) := by decide +kernel
theorem dX6_readNumber_26 : decode cX6_readNumber 26 = .ok (.invokevirtual 44, 3) := by decide +kernel
theorem dX6_readNumber_29 : decode cX6_readNumber 29 = .ok (.invokestatic 136, 3) := by decide +kernel
theorem dX6_readNumber_32 : decode cX6_readNumber 32 = .ok (.ifCond .eq 35, 3) := by decide +kernel
theorem dX6_readNumber_35 : decode cX6_readNumber 35 = .ok (.iload_n 3, 1) := by decide +kernel
theorem dX6_readNumber_36 : decode cX6_readNumber 36 = .ok (.bipush 10, 2) := by decide +kernel
theorem dX6_readNumber_38 : decode cX6_readNumber 38 = .ok (.imul, 1) := by decide +kernel
theorem dX6_readNumber_39 : decode cX6_readNumber 39 = .ok (.aload_n 0, 1) := by decide +kernel
theorem dX6_readNumber_40 : decode cX6_readNumber 40 = .ok (.invokevirtual 44, 3) := by decide +kernel
theorem dX6_readNumber_43 : decode cX6_readNumber 43 = .ok (.iadd, 1) := by decide +kernel
theorem dX6_readNumber_44 : decode cX6_readNumber 44 = .ok (.bipush 48, 2) := by decide +kernel
theorem dX6_readNumber_46 : decode cX6_readNumber 46 = .ok (.isub, 1) := by decide +kernel
theorem dX6_readNumber_47 : decode cX6_readNumber 47 = .ok (.sipush 1000, 3) := by decide +kernel
theorem dX6_readNumber_50 : decode cX6_readNumber 50 = .ok (.invokestatic 140, 3) := by decide +kernel
theorem dX6_readNumber_53 : decode cX6_readNumber 53 = .ok (.istore_n 3, 1) := by decide +kernel
theorem dX6_readNumber_54 : decode cX6_readNumber 54 = .ok (.aload_n 0, 1) := by decide +kernel
theorem dX6_readNumber_55 : decode cX6_readNumber 55 = .ok (.dup, 1) := by decide +kernel
theorem dX6_readNumber_56 : decode cX6_readNumber 56 = .ok (.getfield 32, 3) := by decide +kernel
theorem dX6_readNumber_59 : decode cX6_readNumber 59 = .ok (.iconst 1, 1) := by decide +kernel
theorem dX6_readNumber_60 : decode cX6_readNumber 60 = .ok (.iadd, 1) := by decide +kernel
theorem dX6_readNumber_61 : decode cX6_readNumber 61 = .ok (.putfield 32, 3) := by decide +kernel
theorem dX6_readNumber_64 : decode cX6_readNumber 64 = .ok (.goto (-50), 3) := by decide +kernel
theorem dX6_readNumber_67 : decode cX6_readNumber 67 = .ok (.aload_n 0, 1) := by decide +kernel
theorem dX6_readNumber_68 : decode cX6_readNumber 68 = .ok (.getfield 32, 3) := by decide +kernel
theorem dX6_readNumber_71 : decode cX6_readNumber 71 = .ok (.aload_n 0, 1) := by decide +kernel
theorem dX6_readNumber_72 : decode cX6_readNumber 72 = .ok (.getfield 109, 3) := by decide +kernel
theorem dX6_readNumber_75 : decode cX6_readNumber 75 = .ok (.isub, 1) := by decide +kernel
theorem dX6_readNumber_76 : decode cX6_readNumber 76 = .ok (.istore 4, 2) := by decide +kernel
theorem dX6_readNumber_78 : decode cX6_readNumber 78 = .ok (.iload 4, 2) := by decide +kernel
theorem dX6_readNumber_80 : decode cX6_readNumber 80 = .ok (.ifCond .ne 12, 3) := by decide +kernel
theorem dX6_readNumber_83 : decode cX6_readNumber 83 = .ok (.aload_n 0, 1) := by decide +kernel
theorem dX6_readNumber_84 : decode cX6_readNumber 84 = .ok (.iconst 1, 1) := by decide +kernel
theorem dX6_readNumber_85 : decode cX6_readNumber 85 = .ok (.aload_n 0, 1) := by decide +kernel
theorem dX6_readNumber_86 : decode cX6_readNumber 86 = .ok (.getfield 109, 3) := by decide +kernel
theorem dX6_readNumber_89 : decode cX6_readNumber 89 = .ok (.invokevirtual 77, 3) := by decide +kernel
theorem dX6_readNumber_92 : decode cX6_readNumber 92 = .ok (.iload 4, 2) := by decide +kernel
theorem dX6_readNumber_94 : decode cX6_readNumber 94 = .ok (.iconst 3, 1) := by decide +kernel
theorem dX6_readNumber_95 : decode cX6_readNumber 95 = .ok (.if_icmp .gt 13, 3) := by decide +kernel
theorem dX6_readNumber_98 : decode cX6_readNumber 98 = .ok (.iload_n 3, 1) := by decide +kernel
theorem dX6_readNumber_99 : decode cX6_readNumber 99 = .ok (.iload_n 1, 1) := by decide +kernel
theorem dX6_readNumber_100 : decode cX6_readNumber 100 = .ok (.if_icmp .lt 8, 3) := by decide +kernel
theorem dX6_readNumber_103 : decode cX6_readNumber 103 = .ok (.iload_n 3, 1) := by decide +kernel
theorem dX6_readNumber_104 : decode cX6_readNumber 104 = .ok (.iload_n 2, 1) := by decide +kernel
theorem dX6_readNumber_105 : decode cX6_readNumber 105 = .ok (.if_icmp .le 12, 3) := by decide +kernel
theorem dX6_readNumber_108 : decode cX6_readNumber 108 = .ok (.aload_n 0, 1) := by decide +kernel
theorem dX6_readNumber_109 : decode cX6_readNumber 109 = .ok (.iconst 2, 1) := by decide +kernel
theorem dX6_readNumber_110 : decode cX6_readNumber 110 = .ok (.aload_n 0, 1) := by decide +kernel
theorem dX6_readNumber_111 : decode cX6_readNumber 111 = .ok (.getfield 109, 3) := by decide +kernel
theorem dX6_readNumber_114 : decode cX6_readNumber 114 = .ok (.invokevirtual 77, 3) := by decide +kernel
theorem dX6_readNumber_117 : decode cX6_readNumber 117 = .ok (.aload_n 0, 1) := by decide +kernel
theorem dX6_readNumber_118 : decode cX6_readNumber 118 = .ok (.getfield 35, 3) := by decide +kernel
theorem dX6_readNumber_121 : decode cX6_readNumber 121 = .ok (.ifCond .ne 7, 3) := by decide +kernel
theorem dX6_readNumber_124 : decode cX6_readNumber 124 = .ok (.iload_n 3, 1) := by decide +kernel
theorem dX6_readNumber_125 : decode cX6_readNumber 125 = .ok (.goto 4, 3) := by decide +kernel
theorem dX6_readNumber_128 : decode cX6_readNumber 128 = .ok (.iconst 0, 1) := by decide +kernel
theorem dX6_readNumber_129 : decode cX6_readNumber 129 = .ok (.ireturn, 1) := by decide +kernel
theorem dX6_isFigure_0 : decode cX6_isFigure 0 = .ok (.iload_n 0, 1) := by decide +kernel
theorem dX6_isFigure_1 : decode cX6_isFigure 1 = .ok (.bipush 48, 2) := by decide +kernel
theorem dX6_isFigure_3 : decode cX6_isFigure 3 = .ok (.if_icmp .lt 13, 3) := by decide +kernel
theorem dX6_isFigure_6 : decode cX6_isFigure 6 = .ok (.iload_n 0, 1) := by decide +kernel
theorem dX6_isFigure_7 : decode cX6_isFigure 7 = .ok (.bipush 57, 2) := by decide +kernel
theorem dX6_isFigure_9 : decode cX6_isFigure 9 = .ok (.if_icmp .gt 7, 3) := by decide +kernel
theorem dX6_isFigure_12 : decode cX6_isFigure 12 = .ok (.iconst 1, 1) := by decide +kernel
theorem dX6_isFigure_13 : decode cX6_isFigure 13 = .ok (.goto 4, 3) := by decide +kernel
theorem dX6_isFigure_16 : decode cX6_isFigure 16 = .ok (.iconst 0, 1) := by decide +kernel
theorem dX6_isFigure_17 : decode cX6_isFigure 17 = .ok (.ireturn, 1) := by decide +kernel
theorem dX6_letterHere_0 : decode cX6_letterHere 0 = .ok (.aload_n 0, 1) := by decide +kernel
theorem dX6_letterHere_1 : decode cX6_letterHere 1 = .ok (.getfield 32, 3) := by decide +kernel
theorem dX6_letterHere_4 : decode cX6_letterHere 4 = .ok (.ifCond .lt 36, 3) := by decide +kernel
theorem dX6_letterHere_7 : decode cX6_letterHere 7 = .ok (.aload_n 0, 1) := by decide +kernel
theorem dX6_letterHere_8 : decode cX6_letterHere 8 = .ok (.getfield 32, 3) := by decide +kernel
theorem dX6_letterHere_11 : decode cX6_letterHere 11 = .ok (.aload_n 0, 1) := by decide +kernel
theorem dX6_letterHere_12 : decode cX6_letterHere 12 = .ok (.getfield 26, 3) := by decide +kernel
theorem dX6_letterHere_15 : decode cX6_letterHere 15 = .ok (.if_icmp .ge 25, 3) := by decide +kernel
theorem dX6_letterHere_18 : decode cX6_letterHere 18 = .ok (.aload_n 0, 1) := by decide +kernel
theorem dX6_letterHere_19 : decode cX6_letterHere 19 = .ok (.getfield 32, 3) := by decide +kernel
theorem dX6_letterHere_22 : decode cX6_letterHere 22 = .ok (.sipush 240, 3) := by decide +kernel
theorem dX6_letterHere_25 : decode cX6_letterHere 25 = .ok (.if_icmp .ge 15, 3) := by decide +kernel
theorem dX6_letterHere_28 : decode cX6_letterHere 28 = .ok (.aload_n 0, 1) := by decide +kernel
theorem dX6_letterHere_29 : decode cX6_letterHere 29 = .ok (.getfield 9, 3) := by decide +kernel
theorem dX6_letterHere_32 : decode cX6_letterHere 32 = .ok (.aload_n 0, 1) := by decide +kernel
theorem dX6_letterHere_33 : decode cX6_letterHere 33 = .ok (.getfield 32, 3) := by decide +kernel
theorem dX6_letterHere_36 : decode cX6_letterHere 36 = .ok (.iaload, 1) := by decide +kernel
theorem dX6_letterHere_37 : decode cX6_letterHere 37 = .ok (.goto 4, 3) := by decide +kernel
theorem dX6_letterHere_40 : decode cX6_letterHere 40 = .ok (.iconst (-1), 1) := by decide +kernel
theorem dX6_letterHere_41 : decode cX6_letterHere 41 = .ok (.ireturn, 1) := by decide +kernel
theorem dX6_skipBlanks_0 : decode cX6_skipBlanks 0 = .ok (.aload_n 0, 1) := by decide +kernel
theorem dX6_skipBlanks_1 : decode cX6_skipBlanks 1 = .ok (.getfield 32, 3) := by decide +kernel
theorem dX6_skipBlanks_4 : decode cX6_skipBlanks 4 = .ok (.aload_n 0, 1) := by decide +kernel
theorem dX6_skipBlanks_5 : decode cX6_skipBlanks 5 = .ok (.getfield 26, 3) := by decide +kernel
theorem dX6_skipBlanks_8 : decode cX6_skipBlanks 8 = .ok (.if_icmp .ge 40, 3) := by decide +kernel
theorem dX6_skipBlanks_11 : decode cX6_skipBlanks 11 = .ok (.aload_n 0, 1) := by decide +kernel
theorem dX6_skipBlanks_12 : decode cX6_skipBlanks 12 = .ok (.getfield 32, 3) := by decide +kernel
theorem dX6_skipBlanks_15 : decode cX6_skipBlanks 15 = .ok (.sipush 240, 3) := by decide +kernel
theorem dX6_skipBlanks_18 : decode cX6_skipBlanks 18 = .ok (.if_icmp .ge 30, 3) := by decide +kernel
theorem dX6_skipBlanks_21 : decode cX6_skipBlanks 21 = .ok (.aload_n 0, 1) := by decide +kernel
theorem dX6_skipBlanks_22 : decode cX6_skipBlanks 22 = .ok (.getfield 9, 3) := by decide +kernel
theorem dX6_skipBlanks_25 : decode cX6_skipBlanks 25 = .ok (.aload_n 0, 1) := by decide +kernel
theorem dX6_skipBlanks_26 : decode cX6_skipBlanks 26 = .ok (.getfield 32, 3) := by decide +kernel
theorem dX6_skipBlanks_29 : decode cX6_skipBlanks 29 = .ok (.iaload, 1) := by decide +kernel
theorem dX6_skipBlanks_30 : decode cX6_skipBlanks 30 = .ok (.bipush 32, 2) := by decide +kernel
theorem dX6_skipBlanks_32 : decode cX6_skipBlanks 32 = .ok (.if_icmp .ne 16, 3) := by decide +kernel
theorem dX6_skipBlanks_35 : decode cX6_skipBlanks 35 = .ok (.aload_n 0, 1) := by decide +kernel
theorem dX6_skipBlanks_36 : decode cX6_skipBlanks 36 = .ok (.dup, 1) := by decide +kernel
theorem dX6_skipBlanks_37 : decode cX6_skipBlanks 37 = .ok (.getfield 32, 3) := by decide +kernel
theorem dX6_skipBlanks_40 : decode cX6_skipBlanks 40 = .ok (.iconst 1, 1) := by decide +kernel
theorem dX6_skipBlanks_41 : decode cX6_skipBlanks 41 = .ok (.iadd, 1) := by decide +kernel
theorem dX6_skipBlanks_42 : decode cX6_skipBlanks 42 = .ok (.putfield 32, 3) := by decide +kernel
theorem dX6_skipBlanks_45 : decode cX6_skipBlanks 45 = .ok (.goto (-45), 3) := by decide +kernel
theorem dX6_skipBlanks_48 : decode cX6_skipBlanks 48 = .ok (.return_, 1) := by decide +kernel
theorem dX6_findFault_0 : decode cX6_findFault 0 = .ok (.aload_n 0, 1) := by decide +kernel
theorem dX6_findFault_1 : decode cX6_findFault 1 = .ok (.getfield 35, 3) := by decide +kernel
theorem dX6_findFault_4 : decode cX6_findFault 4 = .ok (.ifCond .ne 13, 3) := by decide +kernel
theorem dX6_findFault_7 : decode cX6_findFault 7 = .ok (.aload_n 0, 1) := by decide +kernel
theorem dX6_findFault_8 : decode cX6_findFault 8 = .ok (.iload_n 1, 1) := by decide +kernel
theorem dX6_findFault_9 : decode cX6_findFault 9 = .ok (.putfield 35, 3) := by decide +kernel
theorem dX6_findFault_12 : decode cX6_findFault 12 = .ok (.aload_n 0, 1) := by decide +kernel
theorem dX6_findFault_13 : decode cX6_findFault 13 = .ok (.iload_n 2, 1) := by decide +kernel
theorem dX6_findFault_14 : decode cX6_findFault 14 = .ok (.putfield 15, 3) := by decide +kernel
theorem dX6_findFault_17 : decode cX6_findFault 17 = .ok (.return_, 1) := by decide +kernel
theorem dJ6_bitCount_0f7a4_0 : decode cJ6_bitCount_0f7a4 0 = .ok (.iload_n 0, 1) := by decide +kernel
theorem dJ6_bitCount_0f7a4_1 : decode cJ6_bitCount_0f7a4 1 = .ok (.iload_n 0, 1) := by decide +kernel
theorem dJ6_bitCount_0f7a4_2 : decode cJ6_bitCount_0f7a4 2 = .ok (.iconst 1, 1) := by decide +kernel
theorem dJ6_bitCount_0f7a4_3 : decode cJ6_bitCount_0f7a4 3 = .ok (.iushr, 1) := by decide +kernel
theorem dJ6_bitCount_0f7a4_4 : decode cJ6_bitCount_0f7a4 4 = .ok (.ldc_w 265, 3) := by decide +kernel
theorem dJ6_bitCount_0f7a4_7 : decode cJ6_bitCount_0f7a4 7 = .ok (.iand, 1) := by decide +kernel
theorem dJ6_bitCount_0f7a4_8 : decode cJ6_bitCount_0f7a4 8 = .ok (.isub, 1) := by decide +kernel
theorem dJ6_bitCount_0f7a4_9 : decode cJ6_bitCount_0f7a4 9 = .ok (.istore_n 0, 1) := by decide +kernel
theorem dJ6_bitCount_0f7a4_10 : decode cJ6_bitCount_0f7a4 10 = .ok (.iload_n 0, 1) := by decide +kernel
theorem dJ6_bitCount_0f7a4_11 : decode cJ6_bitCount_0f7a4 11 = .ok (.ldc_w 266, 3) := by decide +kernel
theorem dJ6_bitCount_0f7a4_14 : decode cJ6_bitCount_0f7a4 14 = .ok (.iand, 1) := by decide +kernel
theorem dJ6_bitCount_0f7a4_15 : decode cJ6_bitCount_0f7a4 15 = .ok (.iload_n 0, 1) := by decide +kernel
theorem dJ6_bitCount_0f7a4_16 : decode cJ6_bitCount_0f7a4 16 = .ok (.iconst 2, 1) := by decide +kernel
theorem dJ6_bitCount_0f7a4_17 : decode cJ6_bitCount_0f7a4 17 = .ok (.iushr, 1) := by decide +kernel
theorem dJ6_bitCount_0f7a4_18 : decode cJ6_bitCount_0f7a4 18 = .ok (.ldc_w 266, 3) := by decide +kernel
theorem dJ6_bitCount_0f7a4_21 : decode cJ6_bitCount_0f7a4 21 = .ok (.iand, 1) := by decide +kernel
theorem dJ6_bitCount_0f7a4_22 : decode cJ6_bitCount_0f7a4 22 = .ok (.iadd, 1) := by decide +kernel
theorem dJ6_bitCount_0f7a4_23 : decode cJ6_bitCount_0f7a4 23 = .ok (.istore_n 0, 1) := by decide +kernel
theorem dJ6_bitCount_0f7a4_24 : decode cJ6_bitCount_0f7a4 24 = .ok (.iload_n 0, 1) := by decide +kernel
theorem dJ6_bitCount_0f7a4_25 : decode cJ6_bitCount_0f7a4 25 = .ok (.iload_n 0, 1) := by decide +kernel
theorem dJ6_bitCount_0f7a4_26 : decode cJ6_bitCount_0f7a4 26 = .ok (.iconst 4, 1) := by decide +kernel
theorem dJ6_bitCount_0f7a4_27 : decode cJ6_bitCount_0f7a4 27 = .ok (.iushr, 1) := by decide +kernel
theorem dJ6_bitCount_0f7a4_28 : decode cJ6_bitCount_0f7a4 28 = .ok (.iadd, 1) := by decide +kernel
theorem dJ6_bitCount_0f7a4_29 : decode cJ6_bitCount_0f7a4 29 = .ok (.ldc_w 267, 3) := by decide +kernel
theorem dJ6_bitCount_0f7a4_32 : decode cJ6_bitCount_0f7a4 32 = .ok (.iand, 1) := by decide +kernel
theorem dJ6_bitCount_0f7a4_33 : decode cJ6_bitCount_0f7a4 33 = .ok (.istore_n 0, 1) := by decide +kernel
theorem dJ6_bitCount_0f7a4_34 : decode cJ6_bitCount_0f7a4 34 = .ok (.iload_n 0, 1) := by decide +kernel
theorem dJ6_bitCount_0f7a4_35 : decode cJ6_bitCount_0f7a4 35 = .ok (.iload_n 0, 1) := by decide +kernel
theorem dJ6_bitCount_0f7a4_36 : decode cJ6_bitCount_0f7a4 36 = .ok (.bipush 8, 2) := by decide +kernel
theorem dJ6_bitCount_0f7a4_38 : decode cJ6_bitCount_0f7a4 38 = .ok (.iushr, 1) := by decide +kernel
theorem dJ6_bitCount_0f7a4_39 : decode cJ6_bitCount_0f7a4 39 = .ok (.iadd, 1) := by decide +kernel
theorem dJ6_bitCount_0f7a4_40 : decode cJ6_bitCount_0f7a4 40 = .ok (.istore_n 0, 1) := by decide +kernel
theorem dJ6_bitCount_0f7a4_41 : decode cJ6_bitCount_0f7a4 41 = .ok (.iload_n 0, 1) := by decide +kernel
theorem dJ6_bitCount_0f7a4_42 : decode cJ6_bitCount_0f7a4 42 = .ok (.iload_n 0, 1) := by decide +kernel
theorem dJ6_bitCount_0f7a4_43 : decode cJ6_bitCount_0f7a4 43 = .ok (.bipush 16, 2) := by decide +kernel
theorem dJ6_bitCount_0f7a4_45 : decode cJ6_bitCount_0f7a4 45 = .ok (.iushr, 1) := by decide +kernel
theorem dJ6_bitCount_0f7a4_46 : decode cJ6_bitCount_0f7a4 46 = .ok (.iadd, 1) := by decide +kernel
theorem dJ6_bitCount_0f7a4_47 : decode cJ6_bitCount_0f7a4 47 = .ok (.istore_n 0, 1) := by decide +kernel
theorem dJ6_bitCount_0f7a4_48 : decode cJ6_bitCount_0f7a4 48 = .ok (.iload_n 0, 1) := by decide +kernel
theorem dJ6_bitCount_0f7a4_49 : decode cJ6_bitCount_0f7a4 49 = .ok (.bipush 63, 2) := by decide +kernel
theorem dJ6_bitCount_0f7a4_51 : decode cJ6_bitCount_0f7a4 51 = .ok (.iand, 1) := by decide +kernel
theorem dJ6_bitCount_0f7a4_52 : decode cJ6_bitCount_0f7a4 52 = .ok (.ireturn, 1) := by decide +kernel
