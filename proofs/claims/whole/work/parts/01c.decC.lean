theorem dX11_init_0 : decode cX11_init 0 = .ok (.aload_n 0, 1) := by decide +kernel
theorem dX11_init_1 : decode cX11_init 1 = .ok (.invokespecial 1, 3) := by decide +kernel
theorem dX11_init_4 : decode cX11_init 4 = .ok (.aload_n 0, 1) := by decide +kernel
theorem dX11_init_5 : decode cX11_init 5 = .ok (.sipush 1856, 3) := by decide +kernel
theorem dX11_init_8 : decode cX11_init 8 = .ok (.newarray .int, 2) := by decide +kernel
theorem dX11_init_10 : decode cX11_init 10 = .ok (.putfield 7, 3) := by decide +kernel
theorem dX11_init_13 : decode cX11_init 13 = .ok (.aload_n 0, 1) := by decide +kernel
theorem dX11_init_14 : decode cX11_init 14 = .ok (.sipush 1856, 3) := by decide +kernel
theorem dX11_init_17 : decode cX11_init 17 = .ok (.newarray .int, 2) := by decide +kernel
theorem dX11_init_19 : decode cX11_init 19 = .ok (.putfield 13, 3) := by decide +kernel
theorem dX11_init_22 : decode cX11_init 22 = .ok (.aload_n 0, 1) := by decide +kernel
theorem dX11_init_23 : decode cX11_init 23 = .ok (.sipush 480, 3) := by decide +kernel
theorem dX11_init_26 : decode cX11_init 26 = .ok (.newarray .int, 2) := by decide +kernel
theorem dX11_init_28 : decode cX11_init 28 = .ok (.putfield 16, 3) := by decide +kernel
theorem dX11_init_31 : decode cX11_init 31 = .ok (.aload_n 0, 1) := by decide +kernel
theorem dX11_init_32 : decode cX11_init 32 = .ok (.bipush 80, 2) := by decide +kernel
theorem dX11_init_34 : decode cX11_init 34 = .ok (.newarray .int, 2) := by decide +kernel
theorem dX11_init_36 : decode cX11_init 36 = .ok (.putfield 19, 3) := by decide +kernel
theorem dX11_init_39 : decode cX11_init 39 = .ok (.aload_n 0, 1) := by decide +kernel
theorem dX11_init_40 : decode cX11_init 40 = .ok (.bipush 64, 2) := by decide +kernel
theorem dX11_init_42 : decode cX11_init 42 = .ok (.newarray .int, 2) := by decide +kernel
theorem dX11_init_44 : decode cX11_init 44 = .ok (.putfield 22, 3) := by decide +kernel
theorem dX11_init_47 : decode cX11_init 47 = .ok (.aload_n 0, 1) := by decide +kernel
theorem dX11_init_48 : decode cX11_init 48 = .ok (.sipush 820, 3) := by decide +kernel
theorem dX11_init_51 : decode cX11_init 51 = .ok (.newarray .int, 2) := by decide +kernel
theorem dX11_init_53 : decode cX11_init 53 = .ok (.putfield 25, 3) := by decide +kernel
theorem dX11_init_56 : decode cX11_init 56 = .ok (.aload_n 0, 1) := by decide +kernel
theorem dX11_init_57 : decode cX11_init 57 = .ok (.bipush 120, 2) := by decide +kernel
theorem dX11_init_59 : decode cX11_init 59 = .ok (.newarray .int, 2) := by decide +kernel
theorem dX11_init_61 : decode cX11_init 61 = .ok (.putfield 28, 3) := by decide +kernel
theorem dX11_init_64 : decode cX11_init 64 = .ok (.aload_n 0, 1) := by decide +kernel
theorem dX11_init_65 : decode cX11_init 65 = .ok (.sipush 400, 3) := by decide +kernel
theorem dX11_init_68 : decode cX11_init 68 = .ok (.newarray .int, 2) := by decide +kernel
theorem dX11_init_70 : decode cX11_init 70 = .ok (.putfield 31, 3) := by decide +kernel
theorem dX11_init_73 : decode cX11_init 73 = .ok (.aload_n 0, 1) := by decide +kernel
theorem dX11_init_74 : decode cX11_init 74 = .ok (.sipush 420, 3) := by decide +kernel
theorem dX11_init_77 : decode cX11_init 77 = .ok (.newarray .int, 2) := by decide +kernel
theorem dX11_init_79 : decode cX11_init 79 = .ok (.putfield 34, 3) := by decide +kernel
theorem dX11_init_82 : decode cX11_init 82 = .ok (.aload_n 0, 1) := by decide +kernel
theorem dX11_init_83 : decode cX11_init 83 = .ok (.bipush 8, 2) := by decide +kernel
theorem dX11_init_85 : decode cX11_init 85 = .ok (.newarray .int, 2) := by decide +kernel
theorem dX11_init_87 : decode cX11_init 87 = .ok (.putfield 37, 3) := by decide +kernel
theorem dX11_init_90 : decode cX11_init 90 = .ok (.aload_n 0, 1) := by decide +kernel
theorem dX11_init_91 : decode cX11_init 91 = .ok (.iconst (-1), 1) := by decide +kernel
theorem dX11_init_92 : decode cX11_init 92 = .ok (.putfield 40, 3) := by decide +kernel
theorem dX11_init_95 : decode cX11_init 95 = .ok (.aload_n 0, 1) := by decide +kernel
theorem dX11_init_96 : decode cX11_init 96 = .ok (.sipush 700, 3) := by decide +kernel
theorem dX11_init_99 : decode cX11_init 99 = .ok (.newarray .int, 2) := by decide +kernel
theorem dX11_init_101 : decode cX11_init 101 = .ok (.putfield 44, 3) := by decide +kernel
theorem dX11_init_104 : decode cX11_init 104 = .ok (.aload_n 0, 1) := by decide +kernel
theorem dX11_init_105 : decode cX11_init 105 = .ok (.sipush 1024, 3) := by decide +kernel
theorem dX11_init_108 : decode cX11_init 108 = .ok (.newarray .int, 2) := by decide +kernel
theorem dX11_init_110 : decode cX11_init 110 = .ok (.putfield 47, 3) := by decide +kernel
theorem dX11_init_113 : decode cX11_init 113 = .ok (.aload_n 0, 1) := by decide +kernel
theorem dX11_init_114 : decode cX11_init 114 = .ok (.bipush 6, 2) := by decide +kernel
theorem dX11_init_116 : decode cX11_init 116 = .ok (.newarray .int, 2) := by decide +kernel
theorem dX11_init_118 : decode cX11_init 118 = .ok (.putfield 50, 3) := by decide +kernel
theorem dX11_init_121 : decode cX11_init 121 = .ok (.aload_n 0, 1) := by decide +kernel
theorem dX11_init_122 : decode cX11_init 122 = .ok (.getfield 7, 3) := by decide +kernel
theorem dX11_init_125 : decode cX11_init 125 = .ok (.iconst 1, 1) := by decide +kernel
theorem dX11_init_126 : decode cX11_init 126 = .ok (.bipush 100, 2) := by decide +kernel
theorem dX11_init_128 : decode cX11_init 128 = .ok (.iastore, 1) := by decide +kernel
theorem dX11_init_129 : decode cX11_init 129 = .ok (.return_, 1) := by decide +kernel
theorem dX11_isIn_0 : decode cX11_isIn 0 = .ok (.iload_n 0, 1) := by decide +kernel
theorem dX11_isIn_1 : decode cX11_isIn 1 = .ok (.iload_n 1, 1) := by decide +kernel
theorem dX11_isIn_2 : decode cX11_isIn 2 = .ok (.if_icmp .lt 12, 3) := by decide +kernel
theorem dX11_isIn_5 : decode cX11_isIn 5 = .ok (.iload_n 0, 1) := by decide +kernel
theorem dX11_isIn_6 : decode cX11_isIn 6 = .ok (.iload_n 2, 1) := by decide +kernel
theorem dX11_isIn_7 : decode cX11_isIn 7 = .ok (.if_icmp .gt 7, 3) := by decide +kernel
theorem dX11_isIn_10 : decode cX11_isIn 10 = .ok (.iconst 1, 1) := by decide +kernel
theorem dX11_isIn_11 : decode cX11_isIn 11 = .ok (.goto 4, 3) := by decide +kernel
theorem dX11_isIn_14 : decode cX11_isIn 14 = .ok (.iconst 0, 1) := by decide +kernel
theorem dX11_isIn_15 : decode cX11_isIn 15 = .ok (.ireturn, 1) := by decide +kernel
theorem dX11_lesser_0 : decode cX11_lesser 0 = .ok (.iload_n 0, 1) := by decide +kernel
theorem dX11_lesser_1 : decode cX11_lesser 1 = .ok (.iload_n 1, 1) := by decide +kernel
theorem dX11_lesser_2 : decode cX11_lesser 2 = .ok (.if_icmp .ge 7, 3) := by decide +kernel
theorem dX11_lesser_5 : decode cX11_lesser 5 = .ok (.iload_n 0, 1) := by decide +kernel
theorem dX11_lesser_6 : decode cX11_lesser 6 = .ok (.goto 4, 3) := by decide +kernel
theorem dX11_lesser_9 : decode cX11_lesser 9 = .ok (.iload_n 1, 1) := by decide +kernel
theorem dX11_lesser_10 : decode cX11_lesser 10 = .ok (.ireturn, 1) := by decide +kernel
theorem dX11_greater_0 : decode cX11_greater 0 = .ok (.iload_n 0, 1) := by decide +kernel
theorem dX11_greater_1 : decode cX11_greater 1 = .ok (.iload_n 1, 1) := by decide +kernel
theorem dX11_greater_2 : decode cX11_greater 2 = .ok (.if_icmp .le 7, 3) := by decide +kernel
theorem dX11_greater_5 : decode cX11_greater 5 = .ok (.iload_n 0, 1) := by decide +kernel
theorem dX11_greater_6 : decode cX11_greater 6 = .ok (.goto 4, 3) := by decide +kernel
theorem dX11_greater_9 : decode cX11_greater 9 = .ok (.iload_n 1, 1) := by decide +kernel
theorem dX11_greater_10 : decode cX11_greater 10 = .ok (.ireturn, 1) := by decide +kernel
theorem dX11_isKind_0 : decode cX11_isKind 0 = .ok (.iload_n 1, 1) := by decide +kernel
theorem dX11_isKind_1 : decode cX11_isKind 1 = .ok (.iconst 0, 1) := by decide +kernel
theorem dX11_isKind_2 : decode cX11_isKind 2 = .ok (.aload_n 0, 1) := by decide +kernel
theorem dX11_isKind_3 : decode cX11_isKind 3 = .ok (.getfield 7, 3) := by decide +kernel
theorem dX11_isKind_6 : decode cX11_isKind 6 = .ok (.bipush 80, 2) := by decide +kernel
theorem dX11_isKind_8 : decode cX11_isKind 8 = .ok (.iaload, 1) := by decide +kernel
theorem dX11_isKind_9 : decode cX11_isKind 9 = .ok (.iconst 1, 1) := by decide +kernel
theorem dX11_isKind_10 : decode cX11_isKind 10 = .ok (.isub, 1) := by decide +kernel
theorem dX11_isKind_11 : decode cX11_isKind 11 = .ok (.invokestatic 53, 3) := by decide +kernel
theorem dX11_isKind_14 : decode cX11_isKind 14 = .ok (.ireturn, 1) := by decide +kernel
theorem dX11_isRemain_0 : decode cX11_isRemain 0 = .ok (.iload_n 1, 1) := by decide +kernel
theorem dX11_isRemain_1 : decode cX11_isRemain 1 = .ok (.iconst 0, 1) := by decide +kernel
theorem dX11_isRemain_2 : decode cX11_isRemain 2 = .ok (.aload_n 0, 1) := by decide +kernel
theorem dX11_isRemain_3 : decode cX11_isRemain 3 = .ok (.getfield 7, 3) := by decide +kernel
theorem dX11_isRemain_6 : decode cX11_isRemain 6 = .ok (.bipush 7, 2) := by decide +kernel
theorem dX11_isRemain_8 : decode cX11_isRemain 8 = .ok (.iaload, 1) := by decide +kernel
theorem dX11_isRemain_9 : decode cX11_isRemain 9 = .ok (.iconst 1, 1) := by decide +kernel
theorem dX11_isRemain_10 : decode cX11_isRemain 10 = .ok (.isub, 1) := by decide +kernel
theorem dX11_isRemain_11 : decode cX11_isRemain 11 = .ok (.invokestatic 53, 3) := by decide +kernel
theorem dX11_isRemain_14 : decode cX11_isRemain 14 = .ok (.ireturn, 1) := by decide +kernel
theorem dX11_ofRemain_0 : decode cX11_ofRemain 0 = .ok (.aload_n 0, 1) := by decide +kernel
theorem dX11_ofRemain_1 : decode cX11_ofRemain 1 = .ok (.getfield 7, 3) := by decide +kernel
theorem dX11_ofRemain_4 : decode cX11_ofRemain 4 = .ok (.bipush 8, 2) := by decide +kernel
theorem dX11_ofRemain_6 : decode cX11_ofRemain 6 = .ok (.iconst 5, 1) := by decide +kernel
theorem dX11_ofRemain_7 : decode cX11_ofRemain 7 = .ok (.iload_n 1, 1) := by decide +kernel
theorem dX11_ofRemain_8 : decode cX11_ofRemain 8 = .ok (.imul, 1) := by decide +kernel
theorem dX11_ofRemain_9 : decode cX11_ofRemain 9 = .ok (.iadd, 1) := by decide +kernel
theorem dX11_ofRemain_10 : decode cX11_ofRemain 10 = .ok (.iload_n 2, 1) := by decide +kernel
theorem dX11_ofRemain_11 : decode cX11_ofRemain 11 = .ok (.iadd, 1) := by decide +kernel
theorem dX11_ofRemain_12 : decode cX11_ofRemain 12 = .ok (.iaload, 1) := by decide +kernel
theorem dX11_ofRemain_13 : decode cX11_ofRemain 13 = .ok (.ireturn, 1) := by decide +kernel
theorem dX11_wholeOf_0 : decode cX11_wholeOf 0 = .ok (.aload_n 0, 1) := by decide +kernel
theorem dX11_wholeOf_1 : decode cX11_wholeOf 1 = .ok (.getfield 7, 3) := by decide +kernel
theorem dX11_wholeOf_4 : decode cX11_wholeOf 4 = .ok (.bipush 91, 2) := by decide +kernel
theorem dX11_wholeOf_6 : decode cX11_wholeOf 6 = .ok (.iconst 2, 1) := by decide +kernel
theorem dX11_wholeOf_7 : decode cX11_wholeOf 7 = .ok (.iload_n 1, 1) := by decide +kernel
theorem dX11_wholeOf_8 : decode cX11_wholeOf 8 = .ok (.imul, 1) := by decide +kernel
theorem dX11_wholeOf_9 : decode cX11_wholeOf 9 = .ok (.iadd, 1) := by decide +kernel
theorem dX11_wholeOf_10 : decode cX11_wholeOf 10 = .ok (.iaload, 1) := by decide +kernel
theorem dX11_wholeOf_11 : decode cX11_wholeOf 11 = .ok (.ireturn, 1) := by decide +kernel
theorem dX11_keepsOf_0 : decode cX11_keepsOf 0 = .ok (.aload_n 0, 1) := by decide +kernel
theorem dX11_keepsOf_1 : decode cX11_keepsOf 1 = .ok (.getfield 7, 3) := by decide +kernel
theorem dX11_keepsOf_4 : decode cX11_keepsOf 4 = .ok (.bipush 91, 2) := by decide +kernel
theorem dX11_keepsOf_6 : decode cX11_keepsOf 6 = .ok (.iconst 2, 1) := by decide +kernel
theorem dX11_keepsOf_7 : decode cX11_keepsOf 7 = .ok (.iload_n 1, 1) := by decide +kernel
theorem dX11_keepsOf_8 : decode cX11_keepsOf 8 = .ok (.imul, 1) := by decide +kernel
theorem dX11_keepsOf_9 : decode cX11_keepsOf 9 = .ok (.iadd, 1) := by decide +kernel
theorem dX11_keepsOf_10 : decode cX11_keepsOf 10 = .ok (.iconst 1, 1) := by decide +kernel
theorem dX11_keepsOf_11 : decode cX11_keepsOf 11 = .ok (.iadd, 1) := by decide +kernel
theorem dX11_keepsOf_12 : decode cX11_keepsOf 12 = .ok (.iaload, 1) := by decide +kernel
theorem dX11_keepsOf_13 : decode cX11_keepsOf 13 = .ok (.ireturn, 1) := by decide +kernel
theorem dX11_ageOf_0 : decode cX11_ageOf 0 = .ok (.aload_n 0, 1) := by decide +kernel
theorem dX11_ageOf_1 : decode cX11_ageOf 1 = .ok (.getfield 7, 3) := by decide +kernel
theorem dX11_ageOf_4 : decode cX11_ageOf 4 = .ok (.iconst 0, 1) := by decide +kernel
theorem dX11_ageOf_5 : decode cX11_ageOf 5 = .ok (.iaload, 1) := by decide +kernel
theorem dX11_ageOf_6 : decode cX11_ageOf 6 = .ok (.aload_n 0, 1) := by decide +kernel
theorem dX11_ageOf_7 : decode cX11_ageOf 7 = .ok (.iload_n 1, 1) := by decide +kernel
theorem dX11_ageOf_8 : decode cX11_ageOf 8 = .ok (.iconst 2, 1) := by decide +kernel
theorem dX11_ageOf_9 : decode cX11_ageOf 9 = .ok (.invokevirtual 57, 3) := by decide +kernel
theorem dX11_ageOf_12 : decode cX11_ageOf 12 = .ok (.isub, 1) := by decide +kernel
theorem dX11_ageOf_13 : decode cX11_ageOf 13 = .ok (.ireturn, 1) := by decide +kernel
theorem dX11_count_0 : decode cX11_count 0 = .ok (.iconst 0, 1) := by decide +kernel
theorem dX11_count_1 : decode cX11_count 1 = .ok (.istore_n 1, 1) := by decide +kernel
theorem dX11_count_2 : decode cX11_count 2 = .ok (.iconst 0, 1) := by decide +kernel
theorem dX11_count_3 : decode cX11_count 3 = .ok (.istore_n 2, 1) := by decide +kernel
theorem dX11_count_4 : decode cX11_count 4 = .ok (.iload_n 2, 1) := by decide +kernel
theorem dX11_count_5 : decode cX11_count 5 = .ok (.bipush 16, 2) := by decide +kernel
theorem dX11_count_7 : decode cX11_count 7 = .ok (.if_icmp .ge 17, 3) := by decide +kernel
theorem dX11_count_10 : decode cX11_count 10 = .ok (.iload_n 1, 1) := by decide +kernel
theorem dX11_count_11 : decode cX11_count 11 = .ok (.iload_n 0, 1) := by decide +kernel
theorem dX11_count_12 : decode cX11_count 12 = .ok (.iload_n 2, 1) := by decide +kernel
theorem dX11_count_13 : decode cX11_count 13 = .ok (.ishr, 1) := by decide +kernel
theorem dX11_count_14 : decode cX11_count 14 = .ok (.iconst 1, 1) := by decide +kernel
theorem dX11_count_15 : decode cX11_count 15 = .ok (.iand, 1) := by decide +kernel
theorem dX11_count_16 : decode cX11_count 16 = .ok (.iadd, 1) := by decide +kernel
theorem dX11_count_17 : decode cX11_count 17 = .ok (.istore_n 1, 1) := by decide +kernel
theorem dX11_count_18 : decode cX11_count 18 = .ok (.iinc 2 1, 3) := by decide +kernel
theorem dX11_count_21 : decode cX11_count 21 = .ok (.goto (-17), 3) := by decide +kernel
theorem dX11_count_24 : decode cX11_count 24 = .ok (.iload_n 1, 1) := by decide +kernel
theorem dX11_count_25 : decode cX11_count 25 = .ok (.ireturn, 1) := by decide +kernel
theorem dX11_forgets_0 : decode cX11_forgets 0 = .ok (.aload_n 0, 1) := by decide +kernel
theorem dX11_forgets_1 : decode cX11_forgets 1 = .ok (.iconst 0, 1) := by decide +kernel
theorem dX11_forgets_2 : decode cX11_forgets 2 = .ok (.putfield 61, 3) := by decide +kernel
theorem dX11_forgets_5 : decode cX11_forgets 5 = .ok (.return_, 1) := by decide +kernel
theorem dX11_state_0 : decode cX11_state 0 = .ok (.aload_n 0, 1) := by decide +kernel
theorem dX11_state_1 : decode cX11_state 1 = .ok (.getfield 7, 3) := by decide +kernel
theorem dX11_state_4 : decode cX11_state 4 = .ok (.iconst 4, 1) := by decide +kernel
theorem dX11_state_5 : decode cX11_state 5 = .ok (.iaload, 1) := by decide +kernel
theorem dX11_state_6 : decode cX11_state 6 = .ok (.istore_n 2, 1) := by decide +kernel
theorem dX11_state_7 : decode cX11_state 7 = .ok (.aload_n 0, 1) := by decide +kernel
theorem dX11_state_8 : decode cX11_state 8 = .ok (.getfield 7, 3) := by decide +kernel
theorem dX11_state_11 : decode cX11_state 11 = .ok (.iconst 4, 1) := by decide +kernel
theorem dX11_state_12 : decode cX11_state 12 = .ok (.iload_n 1, 1) := by decide +kernel
theorem dX11_state_13 : decode cX11_state 13 = .ok (.iastore, 1) := by decide +kernel
theorem dX11_state_14 : decode cX11_state 14 = .ok (.aload_n 0, 1) := by decide +kernel
theorem dX11_state_15 : decode cX11_state 15 = .ok (.invokevirtual 64, 3) := by decide +kernel
theorem dX11_state_18 : decode cX11_state 18 = .ok (.iload_n 2, 1) := by decide +kernel
theorem dX11_state_19 : decode cX11_state 19 = .ok (.ireturn, 1) := by decide +kernel
theorem dX11_draw_0 : decode cX11_draw 0 = .ok (.aload_n 0, 1) := by decide +kernel
theorem dX11_draw_1 : decode cX11_draw 1 = .ok (.getfield 7, 3) := by decide +kernel
theorem dX11_draw_4 : decode cX11_draw 4 = .ok (.iconst 4, 1) := by decide +kernel
theorem dX11_draw_5 : decode cX11_draw 5 = .ok (.ldc 67, 2) := by decide +kernel
theorem dX11_draw_7 : decode cX11_draw 7 = .ok (.aload_n 0, 1) := by decide +kernel
theorem dX11_draw_8 : decode cX11_draw 8 = .ok (.getfield 7, 3) := by decide +kernel
theorem dX11_draw_11 : decode cX11_draw 11 = .ok (.iconst 4, 1) := by decide +kernel
theorem dX11_draw_12 : decode cX11_draw 12 = .ok (.iaload, 1) := by decide +kernel
theorem dX11_draw_13 : decode cX11_draw 13 = .ok (.imul, 1) := by decide +kernel
theorem dX11_draw_14 : decode cX11_draw 14 = .ok (.ldc 68, 2) := by decide +kernel
theorem dX11_draw_16 : decode cX11_draw 16 = .ok (.iadd, 1) := by decide +kernel
theorem dX11_draw_17 : decode cX11_draw 17 = .ok (.iastore, 1) := by decide +kernel
theorem dX11_draw_18 : decode cX11_draw 18 = .ok (.aload_n 0, 1) := by decide +kernel
theorem dX11_draw_19 : decode cX11_draw 19 = .ok (.getfield 7, 3) := by decide +kernel
theorem dX11_draw_22 : decode cX11_draw 22 = .ok (.iconst 4, 1) := by decide +kernel
theorem dX11_draw_23 : decode cX11_draw 23 = .ok (.iaload, 1) := by decide +kernel
theorem dX11_draw_24 : decode cX11_draw 24 = .ok (.bipush 8, 2) := by decide +kernel
theorem dX11_draw_26 : decode cX11_draw 26 = .ok (.iushr, 1) := by decide +kernel
theorem dX11_draw_27 : decode cX11_draw 27 = .ok (.iload_n 1, 1) := by decide +kernel
theorem dX11_draw_28 : decode cX11_draw 28 = .ok (.irem, 1) := by decide +kernel
theorem dX11_draw_29 : decode cX11_draw 29 = .ok (.ireturn, 1) := by decide +kernel
theorem dX11_set_0 : decode cX11_set 0 = .ok (.iload_n 1, 1) := by decide +kernel
theorem dX11_set_1 : decode cX11_set 1 = .ok (.iconst 0, 1) := by decide +kernel
theorem dX11_set_2 : decode cX11_set 2 = .ok (.iconst 2, 1) := by decide +kernel
theorem dX11_set_3 : decode cX11_set 3 = .ok (.invokestatic 53, 3) := by decide +kernel
theorem dX11_set_6 : decode cX11_set 6 = .ok (.ifCond .eq 34, 3) := by decide +kernel
theorem dX11_set_9 : decode cX11_set 9 = .ok (.iload_n 2, 1) := by decide +kernel
theorem dX11_set_10 : decode cX11_set 10 = .ok (.iload_n 1, 1) := by decide +kernel
theorem dX11_set_11 : decode cX11_set 11 = .ok (.ifCond .ne 9, 3) := by decide +kernel
theorem dX11_set_14 : decode cX11_set 14 = .ok (.sipush (-9999), 3) := by decide +kernel
theorem dX11_set_17 : decode cX11_set 17 = .ok (.goto 4, 3) := by decide +kernel
theorem dX11_set_20 : decode cX11_set 20 = .ok (.iconst 0, 1) := by decide +kernel
theorem dX11_set_21 : decode cX11_set 21 = .ok (.iload_n 1, 1) := by decide +kernel
theorem dX11_set_22 : decode cX11_set 22 = .ok (.ifCond .ne 9, 3) := by decide +kernel
theorem dX11_set_25 : decode cX11_set 25 = .ok (.sipush 9999, 3) := by decide +kernel
theorem dX11_set_28 : decode cX11_set 28 = .ok (.goto 6, 3) := by decide +kernel
theorem dX11_set_31 : decode cX11_set 31 = .ok (.sipush 1000, 3) := by decide +kernel
theorem dX11_set_34 : decode cX11_set 34 = .ok (.invokestatic 53, 3) := by decide +kernel
theorem dX11_set_37 : decode cX11_set 37 = .ok (.ifCond .ne 5, 3) := by decide +kernel
theorem dX11_set_40 : decode cX11_set 40 = .ok (.iconst 0, 1) := by decide +kernel
theorem dX11_set_41 : decode cX11_set 41 = .ok (.ireturn, 1) := by decide +kernel
theorem dX11_set_42 : decode cX11_set 42 = .ok (.aload_n 0, 1) := by decide +kernel
theorem dX11_set_43 : decode cX11_set 43 = .ok (.getfield 7, 3) := by decide +kernel
theorem dX11_set_46 : decode cX11_set 46 = .ok (.iload_n 1, 1) := by decide +kernel
theorem dX11_set_47 : decode cX11_set 47 = .ok (.ifCond .ne 7, 3) := by decide +kernel
theorem dX11_set_50 : decode cX11_set 50 = .ok (.iconst 1, 1) := by decide +kernel
theorem dX11_set_51 : decode cX11_set 51 = .ok (.goto 15, 3) := by decide +kernel
theorem dX11_set_54 : decode cX11_set 54 = .ok (.iload_n 1, 1) := by decide +kernel
theorem dX11_set_55 : decode cX11_set 55 = .ok (.iconst 1, 1) := by decide +kernel
theorem dX11_set_56 : decode cX11_set 56 = .ok (.if_icmp .ne 8, 3) := by decide +kernel
theorem dX11_set_59 : decode cX11_set 59 = .ok (.bipush 81, 2) := by decide +kernel
theorem dX11_set_61 : decode cX11_set 61 = .ok (.goto 5, 3) := by decide +kernel
theorem dX11_set_64 : decode cX11_set 64 = .ok (.bipush 82, 2) := by decide +kernel
theorem dX11_set_66 : decode cX11_set 66 = .ok (.iload_n 2, 1) := by decide +kernel
theorem dX11_set_67 : decode cX11_set 67 = .ok (.iastore, 1) := by decide +kernel
theorem dX11_set_68 : decode cX11_set 68 = .ok (.aload_n 0, 1) := by decide +kernel
theorem dX11_set_69 : decode cX11_set 69 = .ok (.invokevirtual 64, 3) := by decide +kernel
theorem dX11_set_72 : decode cX11_set 72 = .ok (.iconst 1, 1) := by decide +kernel
theorem dX11_set_73 : decode cX11_set 73 = .ok (.ireturn, 1) := by decide +kernel
theorem dX11_feed_0 : decode cX11_feed 0 = .ok (.aload_n 0, 1) := by decide +kernel
theorem dX11_feed_1 : decode cX11_feed 1 = .ok (.getfield 69, 3) := by decide +kernel
theorem dX11_feed_4 : decode cX11_feed 4 = .ok (.bipush 20, 2) := by decide +kernel
theorem dX11_feed_6 : decode cX11_feed 6 = .ok (.iadd, 1) := by decide +kernel
theorem dX11_feed_7 : decode cX11_feed 7 = .ok (.sipush 400, 3) := by decide +kernel
theorem dX11_feed_10 : decode cX11_feed 10 = .ok (.if_icmp .le 5, 3) := by decide +kernel
theorem dX11_feed_13 : decode cX11_feed 13 = .ok (.iconst (-1), 1) := by decide +kernel
theorem dX11_feed_14 : decode cX11_feed 14 = .ok (.ireturn, 1) := by decide +kernel
theorem dX11_feed_15 : decode cX11_feed 15 = .ok (.iconst 0, 1) := by decide +kernel
theorem dX11_feed_16 : decode cX11_feed 16 = .ok (.istore 6, 2) := by decide +kernel
theorem dX11_feed_18 : decode cX11_feed 18 = .ok (.iload 6, 2) := by decide +kernel
theorem dX11_feed_20 : decode cX11_feed 20 = .ok (.bipush 20, 2) := by decide +kernel
theorem dX11_feed_22 : decode cX11_feed 22 = .ok (.if_icmp .ge 93, 3) := by decide +kernel
theorem dX11_feed_25 : decode cX11_feed 25 = .ok (.iload 6, 2) := by decide +kernel
theorem dX11_feed_27 : decode cX11_feed 27 = .ok (.iconst 4, 1) := by decide +kernel
theorem dX11_feed_28 : decode cX11_feed 28 = .ok (.if_icmp .ge 7, 3) := by decide +kernel
theorem dX11_feed_31 : decode cX11_feed 31 = .ok (.iload_n 1, 1) := by decide +kernel
theorem dX11_feed_32 : decode cX11_feed 32 = .ok (.goto 39, 3) := by decide +kernel
theorem dX11_feed_35 : decode cX11_feed 35 = .ok (.iload 6, 2) := by decide +kernel
theorem dX11_feed_37 : decode cX11_feed 37 = .ok (.bipush 8, 2) := by decide +kernel
theorem dX11_feed_39 : decode cX11_feed 39 = .ok (.if_icmp .ge 7, 3) := by decide +kernel
theorem dX11_feed_42 : decode cX11_feed 42 = .ok (.iload_n 2, 1) := by decide +kernel
theorem dX11_feed_43 : decode cX11_feed 43 = .ok (.goto 28, 3) := by decide +kernel
theorem dX11_feed_46 : decode cX11_feed 46 = .ok (.iload 6, 2) := by decide +kernel
theorem dX11_feed_48 : decode cX11_feed 48 = .ok (.bipush 12, 2) := by decide +kernel
theorem dX11_feed_50 : decode cX11_feed 50 = .ok (.if_icmp .ge 7, 3) := by decide +kernel
theorem dX11_feed_53 : decode cX11_feed 53 = .ok (.iload_n 3, 1) := by decide +kernel
theorem dX11_feed_54 : decode cX11_feed 54 = .ok (.goto 17, 3) := by decide +kernel
theorem dX11_feed_57 : decode cX11_feed 57 = .ok (.iload 6, 2) := by decide +kernel
theorem dX11_feed_59 : decode cX11_feed 59 = .ok (.bipush 16, 2) := by decide +kernel
theorem dX11_feed_61 : decode cX11_feed 61 = .ok (.if_icmp .ge 8, 3) := by decide +kernel
theorem dX11_feed_64 : decode cX11_feed 64 = .ok (.iload 4, 2) := by decide +kernel
theorem dX11_feed_66 : decode cX11_feed 66 = .ok (.goto 5, 3) := by decide +kernel
theorem dX11_feed_69 : decode cX11_feed 69 = .ok (.iload 5, 2) := by decide +kernel
theorem dX11_feed_71 : decode cX11_feed 71 = .ok (.istore 7, 2) := by decide +kernel
theorem dX11_feed_73 : decode cX11_feed 73 = .ok (.aload_n 0, 1) := by decide +kernel
theorem dX11_feed_74 : decode cX11_feed 74 = .ok (.getfield 31, 3) := by decide +kernel
theorem dX11_feed_77 : decode cX11_feed 77 = .ok (.aload_n 0, 1) := by decide +kernel
theorem dX11_feed_78 : decode cX11_feed 78 = .ok (.getfield 69, 3) := by decide +kernel
theorem dX11_feed_81 : decode cX11_feed 81 = .ok (.iload 7, 2) := by decide +kernel
theorem dX11_feed_83 : decode cX11_feed 83 = .ok (.bipush 24, 2) := by decide +kernel
theorem dX11_feed_85 : decode cX11_feed 85 = .ok (.bipush 8, 2) := by decide +kernel
theorem dX11_feed_87 : decode cX11_feed 87 = .ok (.iload 6, 2) := by decide +kernel
theorem dX11_feed_89 : decode cX11_feed 89 = .ok (.iconst 4, 1) := by decide +kernel
theorem dX11_feed_90 : decode cX11_feed 90 = .ok (.irem, 1) := by decide +kernel
theorem dX11_feed_91 : decode cX11_feed 91 = .ok (.imul, 1) := by decide +kernel
theorem dX11_feed_92 : decode cX11_feed 92 = .ok (.isub, 1) := by decide +kernel
theorem dX11_feed_93 : decode cX11_feed 93 = .ok (.ishr, 1) := by decide +kernel
theorem dX11_feed_94 : decode cX11_feed 94 = .ok (.sipush 255, 3) := by decide +kernel
theorem dX11_feed_97 : decode cX11_feed 97 = .ok (.iand, 1) := by decide +kernel
theorem dX11_feed_98 : decode cX11_feed 98 = .ok (.iastore, 1) := by decide +kernel
theorem dX11_feed_99 : decode cX11_feed 99 = .ok (.aload_n 0, 1) := by decide +kernel
theorem dX11_feed_100 : decode cX11_feed 100 = .ok (.dup, 1) := by decide +kernel
theorem dX11_feed_101 : decode cX11_feed 101 = .ok (.getfield 69, 3) := by decide +kernel
theorem dX11_feed_104 : decode cX11_feed 104 = .ok (.iconst 1, 1) := by decide +kernel
theorem dX11_feed_105 : decode cX11_feed 105 = .ok (.iadd, 1) := by decide +kernel
theorem dX11_feed_106 : decode cX11_feed 106 = .ok (.putfield 69, 3) := by decide +kernel
theorem dX11_feed_109 : decode cX11_feed 109 = .ok (.iinc 6 1, 3) := by decide +kernel
theorem dX11_feed_112 : decode cX11_feed 112 = .ok (.goto (-94), 3) := by decide +kernel
theorem dX11_feed_115 : decode cX11_feed 115 = .ok (.aload_n 0, 1) := by decide +kernel
theorem dX11_feed_116 : decode cX11_feed 116 = .ok (.getfield 69, 3) := by decide +kernel
theorem dX11_feed_119 : decode cX11_feed 119 = .ok (.ireturn, 1) := by decide +kernel
theorem dX11_end_0 : decode cX11_end 0 = .ok (.iload_n 1, 1) := by decide +kernel
theorem dX11_end_1 : decode cX11_end 1 = .ok (.iconst 0, 1) := by decide +kernel
theorem dX11_end_2 : decode cX11_end 2 = .ok (.aload_n 0, 1) := by decide +kernel
theorem dX11_end_3 : decode cX11_end 3 = .ok (.getfield 69, 3) := by decide +kernel
theorem dX11_end_6 : decode cX11_end 6 = .ok (.invokestatic 53, 3) := by decide +kernel
theorem dX11_end_9 : decode cX11_end 9 = .ok (.ifCond .ne 5, 3) := by decide +kernel
theorem dX11_end_12 : decode cX11_end 12 = .ok (.iconst 0, 1) := by decide +kernel
theorem dX11_end_13 : decode cX11_end 13 = .ok (.ireturn, 1) := by decide +kernel
theorem dX11_end_14 : decode cX11_end 14 = .ok (.aload_n 0, 1) := by decide +kernel
theorem dX11_end_15 : decode cX11_end 15 = .ok (.iload_n 1, 1) := by decide +kernel
theorem dX11_end_16 : decode cX11_end 16 = .ok (.putfield 69, 3) := by decide +kernel
theorem dX11_end_19 : decode cX11_end 19 = .ok (.iconst 1, 1) := by decide +kernel
theorem dX11_end_20 : decode cX11_end 20 = .ok (.ireturn, 1) := by decide +kernel
theorem dX11_see_0 : decode cX11_see 0 = .ok (.iload_n 1, 1) := by decide +kernel
theorem dX11_see_1 : decode cX11_see 1 = .ok (.aload_n 0, 1) := by decide +kernel
theorem dX11_see_2 : decode cX11_see 2 = .ok (.getfield 69, 3) := by decide +kernel
theorem dX11_see_5 : decode cX11_see 5 = .ok (.if_icmp .ge 12, 3) := by decide +kernel
theorem dX11_see_8 : decode cX11_see 8 = .ok (.aload_n 0, 1) := by decide +kernel
theorem dX11_see_9 : decode cX11_see 9 = .ok (.getfield 31, 3) := by decide +kernel
theorem dX11_see_12 : decode cX11_see 12 = .ok (.iload_n 1, 1) := by decide +kernel
theorem dX11_see_13 : decode cX11_see 13 = .ok (.iaload, 1) := by decide +kernel
theorem dX11_see_14 : decode cX11_see 14 = .ok (.goto 4, 3) := by decide +kernel
theorem dX11_see_17 : decode cX11_see 17 = .ok (.iconst (-1), 1) := by decide +kernel
theorem dX11_see_18 : decode cX11_see 18 = .ok (.ireturn, 1) := by decide +kernel
theorem dX11_isLetter_0 : decode cX11_isLetter 0 = .ok (.iload_n 0, 1) := by decide +kernel
theorem dX11_isLetter_1 : decode cX11_isLetter 1 = .ok (.bipush 97, 2) := by decide +kernel
theorem dX11_isLetter_3 : decode cX11_isLetter 3 = .ok (.bipush 122, 2) := by decide +kernel
theorem dX11_isLetter_5 : decode cX11_isLetter 5 = .ok (.invokestatic 53, 3) := by decide +kernel
theorem dX11_isLetter_8 : decode cX11_isLetter 8 = .ok (.ifCond .ne 14, 3) := by decide +kernel
theorem dX11_isLetter_11 : decode cX11_isLetter 11 = .ok (.iload_n 0, 1) := by decide +kernel
theorem dX11_isLetter_12 : decode cX11_isLetter 12 = .ok (.bipush 65, 2) := by decide +kernel
theorem dX11_isLetter_14 : decode cX11_isLetter 14 = .ok (.bipush 90, 2) := by decide +kernel
theorem dX11_isLetter_16 : decode cX11_isLetter 16 = .ok (.invokestatic 53, 3) := by decide +kernel
theorem dX11_isLetter_19 : decode cX11_isLetter 19 = .ok (.ifCond .eq 7, 3) := by decide +kernel
theorem dX11_isLetter_22 : decode cX11_isLetter 22 = .ok (.iconst 1, 1) := by decide +kernel
theorem dX11_isLetter_23 : decode cX11_isLetter 23 = .ok (.goto 4, 3) := by decide +kernel
theorem dX11_isLetter_26 : decode cX11_isLetter 26 = .ok (.iconst 0, 1) := by decide +kernel
theorem dX11_isLetter_27 : decode cX11_isLetter 27 = .ok (.ireturn, 1) := by decide +kernel
theorem dX11_isDigit_0 : decode cX11_isDigit 0 = .ok (.iload_n 0, 1) := by decide +kernel
theorem dX11_isDigit_1 : decode cX11_isDigit 1 = .ok (.bipush 48, 2) := by decide +kernel
theorem dX11_isDigit_3 : decode cX11_isDigit 3 = .ok (.bipush 57, 2) := by decide +kernel
theorem dX11_isDigit_5 : decode cX11_isDigit 5 = .ok (.invokestatic 53, 3) := by decide +kernel
theorem dX11_isDigit_8 : decode cX11_isDigit 8 = .ok (.ireturn, 1) := by decide +kernel
theorem dX11_is_0 : decode cX11_is 0 = .ok (.aload_n 0, 1) := by decide +kernel
theorem dX11_is_1 : decode cX11_is 1 = .ok (.getfield 72, 3) := by decide +kernel
theorem dX11_is_4 : decode cX11_is 4 = .ok (.aload_n 0, 1) := by decide +kernel
theorem dX11_is_5 : decode cX11_is 5 = .ok (.getfield 75, 3) := by decide +kernel
theorem dX11_is_8 : decode cX11_is 8 = .ok (.isub, 1) := by decide +kernel
theorem dX11_is_9 : decode cX11_is 9 = .ok (.aload_n 1, 1) := by decide +kernel
theorem dX11_is_10 : decode cX11_is 10 = .ok (.invokevirtual 78, 3) := by decide +kernel
theorem dX11_is_13 : decode cX11_is 13 = .ok (.if_icmp .ne 7, 3) := by decide +kernel
theorem dX11_is_16 : decode cX11_is 16 = .ok (.iconst 1, 1) := by decide +kernel
theorem dX11_is_17 : decode cX11_is 17 = .ok (.goto 4, 3) := by decide +kernel
theorem dX11_is_20 : decode cX11_is 20 = .ok (.iconst 0, 1) := by decide +kernel
theorem dX11_is_21 : decode cX11_is 21 = .ok (.istore_n 2, 1) := by decide +kernel
theorem dX11_is_22 : decode cX11_is 22 = .ok (.iconst 0, 1) := by decide +kernel
theorem dX11_is_23 : decode cX11_is 23 = .ok (.istore_n 3, 1) := by decide +kernel
theorem dX11_is_24 : decode cX11_is 24 = .ok (.iload_n 3, 1) := by decide +kernel
theorem dX11_is_25 : decode cX11_is 25 = .ok (.aload_n 1, 1) := by decide +kernel
theorem dX11_is_26 : decode cX11_is 26 = .ok (.invokevirtual 78, 3) := by decide +kernel
theorem dX11_is_29 : decode cX11_is 29 = .ok (.if_icmp .ge 38, 3) := by decide +kernel
theorem dX11_is_32 : decode cX11_is 32 = .ok (.iload_n 2, 1) := by decide +kernel
theorem dX11_is_33 : decode cX11_is 33 = .ok (.ifCond .eq 34, 3) := by decide +kernel
theorem dX11_is_36 : decode cX11_is 36 = .ok (.aload_n 0, 1) := by decide +kernel
theorem dX11_is_37 : decode cX11_is 37 = .ok (.getfield 31, 3) := by decide +kernel
theorem dX11_is_40 : decode cX11_is 40 = .ok (.aload_n 0, 1) := by decide +kernel
theorem dX11_is_41 : decode cX11_is 41 = .ok (.getfield 75, 3) := by decide +kernel
theorem dX11_is_44 : decode cX11_is 44 = .ok (.iload_n 3, 1) := by decide +kernel
theorem dX11_is_45 : decode cX11_is 45 = .ok (.iadd, 1) := by decide +kernel
theorem dX11_is_46 : decode cX11_is 46 = .ok (.iaload, 1) := by decide +kernel
theorem dX11_is_47 : decode cX11_is 47 = .ok (.aload_n 1, 1) := by decide +kernel
theorem dX11_is_48 : decode cX11_is 48 = .ok (.iload_n 3, 1) := by decide +kernel
theorem dX11_is_49 : decode cX11_is 49 = .ok (.invokevirtual 84, 3) := by decide +kernel
theorem dX11_is_52 : decode cX11_is 52 = .ok (.if_icmp .ne 7, 3) := by decide +kernel
theorem dX11_is_55 : decode cX11_is 55 = .ok (.iconst 1, 1) := by decide +kernel
theorem dX11_is_56 : decode cX11_is 56 = .ok (.goto 4, 3) := by decide +kernel
theorem dX11_is_59 : decode cX11_is 59 = .ok (.iconst 0, 1) := by decide +kernel
theorem dX11_is_60 : decode cX11_is 60 = .ok (.istore_n 2, 1) := by decide +kernel
theorem dX11_is_61 : decode cX11_is 61 = .ok (.iinc 3 1, 3) := by decide +kernel
theorem dX11_is_64 : decode cX11_is 64 = .ok (.goto (-40), 3) := by decide +kernel
theorem dX11_is_67 : decode cX11_is 67 = .ok (.iload_n 2, 1) := by decide +kernel
theorem dX11_is_68 : decode cX11_is 68 = .ok (.ireturn, 1) := by decide +kernel
theorem dX11_asked_0 : decode cX11_asked 0 = .ok (.aload_n 0, 1) := by decide +kernel
theorem dX11_asked_1 : decode cX11_asked 1 = .ok (.ldc 88, 2) := by decide +kernel
theorem dX11_asked_3 : decode cX11_asked 3 = .ok (.invokevirtual 90, 3) := by decide +kernel
theorem dX11_asked_6 : decode cX11_asked 6 = .ok (.ifCond .eq 6, 3) := by decide +kernel
theorem dX11_asked_9 : decode cX11_asked 9 = .ok (.bipush 41, 2) := by decide +kernel
theorem dX11_asked_11 : decode cX11_asked 11 = .ok (.ireturn, 1) := by decide +kernel
theorem dX11_asked_12 : decode cX11_asked 12 = .ok (.aload_n 0, 1) := by decide +kernel
theorem dX11_asked_13 : decode cX11_asked 13 = .ok (.ldc 94, 2) := by decide +kernel
theorem dX11_asked_15 : decode cX11_asked 15 = .ok (.invokevirtual 90, 3) := by decide +kernel
theorem dX11_asked_18 : decode cX11_asked 18 = .ok (.ifCond .eq 6, 3) := by decide +kernel
theorem dX11_asked_21 : decode cX11_asked 21 = .ok (.bipush 42, 2) := by decide +kernel
theorem dX11_asked_23 : decode cX11_asked 23 = .ok (.ireturn, 1) := by decide +kernel
theorem dX11_asked_24 : decode cX11_asked 24 = .ok (.aload_n 0, 1) := by decide +kernel
theorem dX11_asked_25 : decode cX11_asked 25 = .ok (.ldc 96, 2) := by decide +kernel
theorem dX11_asked_27 : decode cX11_asked 27 = .ok (.invokevirtual 90, 3) := by decide +kernel
theorem dX11_asked_30 : decode cX11_asked 30 = .ok (.ifCond .eq 6, 3) := by decide +kernel
theorem dX11_asked_33 : decode cX11_asked 33 = .ok (.bipush 43, 2) := by decide +kernel
theorem dX11_asked_35 : decode cX11_asked 35 = .ok (.ireturn, 1) := by decide +kernel
theorem dX11_asked_36 : decode cX11_asked 36 = .ok (.aload_n 0, 1) := by decide +kernel
theorem dX11_asked_37 : decode cX11_asked 37 = .ok (.ldc 98, 2) := by decide +kernel
theorem dX11_asked_39 : decode cX11_asked 39 = .ok (.invokevirtual 90, 3) := by decide +kernel
theorem dX11_asked_42 : decode cX11_asked 42 = .ok (.ifCond .eq 6, 3) := by decide +kernel
theorem dX11_asked_45 : decode cX11_asked 45 = .ok (.bipush 44, 2) := by decide +kernel
theorem dX11_asked_47 : decode cX11_asked 47 = .ok (.ireturn, 1) := by decide +kernel
theorem dX11_asked_48 : decode cX11_asked 48 = .ok (.aload_n 0, 1) := by decide +kernel
theorem dX11_asked_49 : decode cX11_asked 49 = .ok (.ldc 100, 2) := by decide +kernel
theorem dX11_asked_51 : decode cX11_asked 51 = .ok (.invokevirtual 90, 3) := by decide +kernel
theorem dX11_asked_54 : decode cX11_asked 54 = .ok (.ifCond .eq 6, 3) := by decide +kernel
theorem dX11_asked_57 : decode cX11_asked 57 = .ok (.bipush 45, 2) := by decide +kernel
theorem dX11_asked_59 : decode cX11_asked 59 = .ok (.ireturn, 1) := by decide +kernel
theorem dX11_asked_60 : decode cX11_asked 60 = .ok (.aload_n 0, 1) := by decide +kernel
theorem dX11_asked_61 : decode cX11_asked 61 = .ok (.ldc 102, 2) := by decide +kernel
theorem dX11_asked_63 : decode cX11_asked 63 = .ok (.invokevirtual 90, 3) := by decide +kernel
theorem dX11_asked_66 : decode cX11_asked 66 = .ok (.ifCond .eq 6, 3) := by decide +kernel
theorem dX11_asked_69 : decode cX11_asked 69 = .ok (.bipush 46, 2) := by decide +kernel
theorem dX11_asked_71 : decode cX11_asked 71 = .ok (.ireturn, 1) := by decide +kernel
theorem dX11_asked_72 : decode cX11_asked 72 = .ok (.aload_n 0, 1) := by decide +kernel
theorem dX11_asked_73 : decode cX11_asked 73 = .ok (.ldc 104, 2) := by decide +kernel
theorem dX11_asked_75 : decode cX11_asked 75 = .ok (.invokevirtual 90, 3) := by decide +kernel
theorem dX11_asked_78 : decode cX11_asked 78 = .ok (.ifCond .eq 8, 3) := by decide +kernel
theorem dX11_asked_81 : decode cX11_asked 81 = .ok (.bipush 47, 2) := by decide +kernel
theorem dX11_asked_83 : decode cX11_asked 83 = .ok (.goto 4, 3) := by decide +kernel
theorem dX11_asked_86 : decode cX11_asked 86 = .ok (.iconst 1, 1) := by decide +kernel
theorem dX11_asked_87 : decode cX11_asked 87 = .ok (.ireturn, 1) := by decide +kernel
theorem dX11_lawWord_0 : decode cX11_lawWord 0 = .ok (.aload_n 0, 1) := by decide +kernel
theorem dX11_lawWord_1 : decode cX11_lawWord 1 = .ok (.ldc 106, 2) := by decide +kernel
theorem dX11_lawWord_3 : decode cX11_lawWord 3 = .ok (.invokevirtual 90, 3) := by decide +kernel
theorem dX11_lawWord_6 : decode cX11_lawWord 6 = .ok (.ifCond .eq 5, 3) := by decide +kernel
theorem dX11_lawWord_9 : decode cX11_lawWord 9 = .ok (.iconst 3, 1) := by decide +kernel
theorem dX11_lawWord_10 : decode cX11_lawWord 10 = .ok (.ireturn, 1) := by decide +kernel
theorem dX11_lawWord_11 : decode cX11_lawWord 11 = .ok (.aload_n 0, 1) := by decide +kernel
theorem dX11_lawWord_12 : decode cX11_lawWord 12 = .ok (.ldc 108, 2) := by decide +kernel
theorem dX11_lawWord_14 : decode cX11_lawWord 14 = .ok (.invokevirtual 90, 3) := by decide +kernel
theorem dX11_lawWord_17 : decode cX11_lawWord 17 = .ok (.ifCond .eq 5, 3) := by decide +kernel
theorem dX11_lawWord_20 : decode cX11_lawWord 20 = .ok (.iconst 4, 1) := by decide +kernel
theorem dX11_lawWord_21 : decode cX11_lawWord 21 = .ok (.ireturn, 1) := by decide +kernel
theorem dX11_lawWord_22 : decode cX11_lawWord 22 = .ok (.aload_n 0, 1) := by decide +kernel
theorem dX11_lawWord_23 : decode cX11_lawWord 23 = .ok (.ldc 110, 2) := by decide +kernel
theorem dX11_lawWord_25 : decode cX11_lawWord 25 = .ok (.invokevirtual 90, 3) := by decide +kernel
theorem dX11_lawWord_28 : decode cX11_lawWord 28 = .ok (.ifCond .eq 5, 3) := by decide +kernel
theorem dX11_lawWord_31 : decode cX11_lawWord 31 = .ok (.iconst 5, 1) := by decide +kernel
theorem dX11_lawWord_32 : decode cX11_lawWord 32 = .ok (.ireturn, 1) := by decide +kernel
theorem dX11_lawWord_33 : decode cX11_lawWord 33 = .ok (.aload_n 0, 1) := by decide +kernel
theorem dX11_lawWord_34 : decode cX11_lawWord 34 = .ok (.ldc 112, 2) := by decide +kernel
theorem dX11_lawWord_36 : decode cX11_lawWord 36 = .ok (.invokevirtual 90, 3) := by decide +kernel
theorem dX11_lawWord_39 : decode cX11_lawWord 39 = .ok (.ifCond .eq 6, 3) := by decide +kernel
theorem dX11_lawWord_42 : decode cX11_lawWord 42 = .ok (.bipush 6, 2) := by decide +kernel
theorem dX11_lawWord_44 : decode cX11_lawWord 44 = .ok (.ireturn, 1) := by decide +kernel
theorem dX11_lawWord_45 : decode cX11_lawWord 45 = .ok (.aload_n 0, 1) := by decide +kernel
theorem dX11_lawWord_46 : decode cX11_lawWord 46 = .ok (.ldc 114, 2) := by decide +kernel
theorem dX11_lawWord_48 : decode cX11_lawWord 48 = .ok (.invokevirtual 90, 3) := by decide +kernel
theorem dX11_lawWord_51 : decode cX11_lawWord 51 = .ok (.ifCond .eq 6, 3) := by decide +kernel
theorem dX11_lawWord_54 : decode cX11_lawWord 54 = .ok (.bipush 20, 2) := by decide +kernel
theorem dX11_lawWord_56 : decode cX11_lawWord 56 = .ok (.ireturn, 1) := by decide +kernel
theorem dX11_lawWord_57 : decode cX11_lawWord 57 = .ok (.aload_n 0, 1) := by decide +kernel
theorem dX11_lawWord_58 : decode cX11_lawWord 58 = .ok (.ldc 116, 2) := by decide +kernel
theorem dX11_lawWord_60 : decode cX11_lawWord 60 = .ok (.invokevirtual 90, 3) := by decide +kernel
theorem dX11_lawWord_63 : decode cX11_lawWord 63 = .ok (.ifCond .eq 6, 3) := by decide +kernel
theorem dX11_lawWord_66 : decode cX11_lawWord 66 = .ok (.bipush 21, 2) := by decide +kernel
theorem dX11_lawWord_68 : decode cX11_lawWord 68 = .ok (.ireturn, 1) := by decide +kernel
theorem dX11_lawWord_69 : decode cX11_lawWord 69 = .ok (.aload_n 0, 1) := by decide +kernel
theorem dX11_lawWord_70 : decode cX11_lawWord 70 = .ok (.ldc 118, 2) := by decide +kernel
theorem dX11_lawWord_72 : decode cX11_lawWord 72 = .ok (.invokevirtual 90, 3) := by decide +kernel
theorem dX11_lawWord_75 : decode cX11_lawWord 75 = .ok (.ifCond .eq 6, 3) := by decide +kernel
theorem dX11_lawWord_78 : decode cX11_lawWord 78 = .ok (.bipush 22, 2) := by decide +kernel
theorem dX11_lawWord_80 : decode cX11_lawWord 80 = .ok (.ireturn, 1) := by decide +kernel
theorem dX11_lawWord_81 : decode cX11_lawWord 81 = .ok (.aload_n 0, 1) := by decide +kernel
theorem dX11_lawWord_82 : decode cX11_lawWord 82 = .ok (.ldc 120, 2) := by decide +kernel
theorem dX11_lawWord_84 : decode cX11_lawWord 84 = .ok (.invokevirtual 90, 3) := by decide +kernel
theorem dX11_lawWord_87 : decode cX11_lawWord 87 = .ok (.ifCond .eq 8, 3) := by decide +kernel
theorem dX11_lawWord_90 : decode cX11_lawWord 90 = .ok (.bipush 23, 2) := by decide +kernel
theorem dX11_lawWord_92 : decode cX11_lawWord 92 = .ok (.goto 7, 3) := by decide +kernel
theorem dX11_lawWord_95 : decode cX11_lawWord 95 = .ok (.aload_n 0, 1) := by decide +kernel
theorem dX11_lawWord_96 : decode cX11_lawWord 96 = .ok (.invokevirtual 122, 3) := by decide +kernel
theorem dX11_lawWord_99 : decode cX11_lawWord 99 = .ok (.ireturn, 1) := by decide +kernel
theorem dX11_kindWord_0 : decode cX11_kindWord 0 = .ok (.aload_n 0, 1) := by decide +kernel
theorem dX11_kindWord_1 : decode cX11_kindWord 1 = .ok (.ldc 88, 2) := by decide +kernel
theorem dX11_kindWord_3 : decode cX11_kindWord 3 = .ok (.invokevirtual 90, 3) := by decide +kernel
theorem dX11_kindWord_6 : decode cX11_kindWord 6 = .ok (.ifCond .eq 6, 3) := by decide +kernel
theorem dX11_kindWord_9 : decode cX11_kindWord 9 = .ok (.bipush 7, 2) := by decide +kernel
theorem dX11_kindWord_11 : decode cX11_kindWord 11 = .ok (.ireturn, 1) := by decide +kernel
theorem dX11_kindWord_12 : decode cX11_kindWord 12 = .ok (.aload_n 0, 1) := by decide +kernel
theorem dX11_kindWord_13 : decode cX11_kindWord 13 = .ok (.ldc 125, 2) := by decide +kernel
theorem dX11_kindWord_15 : decode cX11_kindWord 15 = .ok (.invokevirtual 90, 3) := by decide +kernel
theorem dX11_kindWord_18 : decode cX11_kindWord 18 = .ok (.ifCond .eq 8, 3) := by decide +kernel
theorem dX11_kindWord_21 : decode cX11_kindWord 21 = .ok (.bipush 8, 2) := by decide +kernel
theorem dX11_kindWord_23 : decode cX11_kindWord 23 = .ok (.goto 4, 3) := by decide +kernel
theorem dX11_kindWord_26 : decode cX11_kindWord 26 = .ok (.iconst 1, 1) := by decide +kernel
theorem dX11_kindWord_27 : decode cX11_kindWord 27 = .ok (.ireturn, 1) := by decide +kernel
theorem dX11_feastWord_0 : decode cX11_feastWord 0 = .ok (.aload_n 0, 1) := by decide +kernel
theorem dX11_feastWord_1 : decode cX11_feastWord 1 = .ok (.ldc 127, 2) := by decide +kernel
theorem dX11_feastWord_3 : decode cX11_feastWord 3 = .ok (.invokevirtual 90, 3) := by decide +kernel
theorem dX11_feastWord_6 : decode cX11_feastWord 6 = .ok (.ifCond .eq 6, 3) := by decide +kernel
theorem dX11_feastWord_9 : decode cX11_feastWord 9 = .ok (.bipush 9, 2) := by decide +kernel
theorem dX11_feastWord_11 : decode cX11_feastWord 11 = .ok (.ireturn, 1) := by decide +kernel
theorem dX11_feastWord_12 : decode cX11_feastWord 12 = .ok (.aload_n 0, 1) := by decide +kernel
theorem dX11_feastWord_13 : decode cX11_feastWord 13 = .ok (.ldc 129, 2) := by decide +kernel
theorem dX11_feastWord_15 : decode cX11_feastWord 15 = .ok (.invokevirtual 90, 3) := by decide +kernel
theorem dX11_feastWord_18 : decode cX11_feastWord 18 = .ok (.ifCond .eq 6, 3) := by decide +kernel
theorem dX11_feastWord_21 : decode cX11_feastWord 21 = .ok (.bipush 10, 2) := by decide +kernel
theorem dX11_feastWord_23 : decode cX11_feastWord 23 = .ok (.ireturn, 1) := by decide +kernel
theorem dX11_feastWord_24 : decode cX11_feastWord 24 = .ok (.aload_n 0, 1) := by decide +kernel
theorem dX11_feastWord_25 : decode cX11_feastWord 25 = .ok (.ldc 131, 2) := by decide +kernel
theorem dX11_feastWord_27 : decode cX11_feastWord 27 = .ok (.invokevirtual 90, 3) := by decide +kernel
theorem dX11_feastWord_30 : decode cX11_feastWord 30 = .ok (.ifCond .eq 8, 3) := by decide +kernel
theorem dX11_feastWord_33 : decode cX11_feastWord 33 = .ok (.bipush 11, 2) := by decide +kernel
theorem dX11_feastWord_35 : decode cX11_feastWord 35 = .ok (.goto 4, 3) := by decide +kernel
theorem dX11_feastWord_38 : decode cX11_feastWord 38 = .ok (.iconst 1, 1) := by decide +kernel
theorem dX11_feastWord_39 : decode cX11_feastWord 39 = .ok (.ireturn, 1) := by decide +kernel
theorem dX11_wantWord_0 : decode cX11_wantWord 0 = .ok (.aload_n 0, 1) := by decide +kernel
theorem dX11_wantWord_1 : decode cX11_wantWord 1 = .ok (.ldc 133, 2) := by decide +kernel
theorem dX11_wantWord_3 : decode cX11_wantWord 3 = .ok (.invokevirtual 90, 3) := by decide +kernel
theorem dX11_wantWord_6 : decode cX11_wantWord 6 = .ok (.ifCond .eq 6, 3) := by decide +kernel
theorem dX11_wantWord_9 : decode cX11_wantWord 9 = .ok (.bipush 12, 2) := by decide +kernel
theorem dX11_wantWord_11 : decode cX11_wantWord 11 = .ok (.ireturn, 1) := by decide +kernel
theorem dX11_wantWord_12 : decode cX11_wantWord 12 = .ok (.aload_n 0, 1) := by decide +kernel
theorem dX11_wantWord_13 : decode cX11_wantWord 13 = .ok (.ldc 135, 2) := by decide +kernel
theorem dX11_wantWord_15 : decode cX11_wantWord 15 = .ok (.invokevirtual 90, 3) := by decide +kernel
theorem dX11_wantWord_18 : decode cX11_wantWord 18 = .ok (.ifCond .eq 6, 3) := by decide +kernel
theorem dX11_wantWord_21 : decode cX11_wantWord 21 = .ok (.bipush 13, 2) := by decide +kernel
theorem dX11_wantWord_23 : decode cX11_wantWord 23 = .ok (.ireturn, 1) := by decide +kernel
theorem dX11_wantWord_24 : decode cX11_wantWord 24 = .ok (.aload_n 0, 1) := by decide +kernel
theorem dX11_wantWord_25 : decode cX11_wantWord 25 = .ok (.ldc 137, 2) := by decide +kernel
theorem dX11_wantWord_27 : decode cX11_wantWord 27 = .ok (.invokevirtual 90, 3) := by decide +kernel
theorem dX11_wantWord_30 : decode cX11_wantWord 30 = .ok (.ifCond .eq 8, 3) := by decide +kernel
theorem dX11_wantWord_33 : decode cX11_wantWord 33 = .ok (.bipush 14, 2) := by decide +kernel
theorem dX11_wantWord_35 : decode cX11_wantWord 35 = .ok (.goto 4, 3) := by decide +kernel
theorem dX11_wantWord_38 : decode cX11_wantWord 38 = .ok (.iconst 1, 1) := by decide +kernel
theorem dX11_wantWord_39 : decode cX11_wantWord 39 = .ok (.ireturn, 1) := by decide +kernel
theorem dX11_word_0 : decode cX11_word 0 = .ok (.aload_n 0, 1) := by decide +kernel
theorem dX11_word_1 : decode cX11_word 1 = .ok (.getfield 139, 3) := by decide +kernel
theorem dX11_word_4 : decode cX11_word 4 = .ok (.tableswitch 52 0 3 #[32, 37, 42, 47], 32) := by decide +kernel
theorem dX11_word_36 : decode cX11_word 36 = .ok (.aload_n 0, 1) := by decide +kernel
theorem dX11_word_37 : decode cX11_word 37 = .ok (.invokevirtual 142, 3) := by decide +kernel
theorem dX11_word_40 : decode cX11_word 40 = .ok (.ireturn, 1) := by decide +kernel
theorem dX11_word_41 : decode cX11_word 41 = .ok (.aload_n 0, 1) := by decide +kernel
theorem dX11_word_42 : decode cX11_word 42 = .ok (.invokevirtual 145, 3) := by decide +kernel
theorem dX11_word_45 : decode cX11_word 45 = .ok (.ireturn, 1) := by decide +kernel
theorem dX11_word_46 : decode cX11_word 46 = .ok (.aload_n 0, 1) := by decide +kernel
theorem dX11_word_47 : decode cX11_word 47 = .ok (.invokevirtual 148, 3) := by decide +kernel
theorem dX11_word_50 : decode cX11_word 50 = .ok (.ireturn, 1) := by decide +kernel
theorem dX11_word_51 : decode cX11_word 51 = .ok (.aload_n 0, 1) := by decide +kernel
theorem dX11_word_52 : decode cX11_word 52 = .ok (.invokevirtual 151, 3) := by decide +kernel
theorem dX11_word_55 : decode cX11_word 55 = .ok (.ireturn, 1) := by decide +kernel
theorem dX11_word_56 : decode cX11_word 56 = .ok (.aload_n 0, 1) := by decide +kernel
theorem dX11_word_57 : decode cX11_word 57 = .ok (.ldc 154, 2) := by decide +kernel
theorem dX11_word_59 : decode cX11_word 59 = .ok (.invokevirtual 90, 3) := by decide +kernel
theorem dX11_word_62 : decode cX11_word 62 = .ok (.ifCond .eq 8, 3) := by decide +kernel
theorem dX11_word_65 : decode cX11_word 65 = .ok (.bipush 15, 2) := by decide +kernel
theorem dX11_word_67 : decode cX11_word 67 = .ok (.goto 4, 3) := by decide +kernel
theorem dX11_word_70 : decode cX11_word 70 = .ok (.iconst 1, 1) := by decide +kernel
theorem dX11_word_71 : decode cX11_word 71 = .ok (.ireturn, 1) := by decide +kernel
theorem dX11_next0_0 : decode cX11_next0 0 = .ok (.aload_n 0, 1) := by decide +kernel
theorem dX11_next0_1 : decode cX11_next0 1 = .ok (.aload_n 0, 1) := by decide +kernel
theorem dX11_next0_2 : decode cX11_next0 2 = .ok (.getfield 72, 3) := by decide +kernel
theorem dX11_next0_5 : decode cX11_next0 5 = .ok (.invokevirtual 156, 3) := by decide +kernel
theorem dX11_next0_8 : decode cX11_next0 8 = .ok (.bipush 32, 2) := by decide +kernel
theorem dX11_next0_10 : decode cX11_next0 10 = .ok (.if_icmp .eq 16, 3) := by decide +kernel
theorem dX11_next0_13 : decode cX11_next0 13 = .ok (.aload_n 0, 1) := by decide +kernel
theorem dX11_next0_14 : decode cX11_next0 14 = .ok (.aload_n 0, 1) := by decide +kernel
theorem dX11_next0_15 : decode cX11_next0 15 = .ok (.getfield 72, 3) := by decide +kernel
theorem dX11_next0_18 : decode cX11_next0 18 = .ok (.invokevirtual 156, 3) := by decide +kernel
theorem dX11_next0_21 : decode cX11_next0 21 = .ok (.bipush 10, 2) := by decide +kernel
theorem dX11_next0_23 : decode cX11_next0 23 = .ok (.if_icmp .ne 16, 3) := by decide +kernel
theorem dX11_next0_26 : decode cX11_next0 26 = .ok (.aload_n 0, 1) := by decide +kernel
theorem dX11_next0_27 : decode cX11_next0 27 = .ok (.dup, 1) := by decide +kernel
theorem dX11_next0_28 : decode cX11_next0 28 = .ok (.getfield 72, 3) := by decide +kernel
theorem dX11_next0_31 : decode cX11_next0 31 = .ok (.iconst 1, 1) := by decide +kernel
theorem dX11_next0_32 : decode cX11_next0 32 = .ok (.iadd, 1) := by decide +kernel
theorem dX11_next0_33 : decode cX11_next0 33 = .ok (.putfield 72, 3) := by decide +kernel
theorem dX11_next0_36 : decode cX11_next0 36 = .ok (.goto (-36), 3) := by decide +kernel
theorem dX11_next0_39 : decode cX11_next0 39 = .ok (.aload_n 0, 1) := by decide +kernel
theorem dX11_next0_40 : decode cX11_next0 40 = .ok (.aload_n 0, 1) := by decide +kernel
theorem dX11_next0_41 : decode cX11_next0 41 = .ok (.getfield 72, 3) := by decide +kernel
theorem dX11_next0_44 : decode cX11_next0 44 = .ok (.putfield 75, 3) := by decide +kernel
theorem dX11_next0_47 : decode cX11_next0 47 = .ok (.aload_n 0, 1) := by decide +kernel
theorem dX11_next0_48 : decode cX11_next0 48 = .ok (.aload_n 0, 1) := by decide +kernel
theorem dX11_next0_49 : decode cX11_next0 49 = .ok (.getfield 72, 3) := by decide +kernel
theorem dX11_next0_52 : decode cX11_next0 52 = .ok (.invokevirtual 156, 3) := by decide +kernel
theorem dX11_next0_55 : decode cX11_next0 55 = .ok (.istore_n 1, 1) := by decide +kernel
theorem dX11_next0_56 : decode cX11_next0 56 = .ok (.iload_n 1, 1) := by decide +kernel
theorem dX11_next0_57 : decode cX11_next0 57 = .ok (.iconst (-1), 1) := by decide +kernel
theorem dX11_next0_58 : decode cX11_next0 58 = .ok (.if_icmp .ne 11, 3) := by decide +kernel
theorem dX11_next0_61 : decode cX11_next0 61 = .ok (.aload_n 0, 1) := by decide +kernel
theorem dX11_next0_62 : decode cX11_next0 62 = .ok (.iconst 0, 1) := by decide +kernel
theorem dX11_next0_63 : decode cX11_next0 63 = .ok (.putfield 160, 3) := by decide +kernel
theorem dX11_next0_66 : decode cX11_next0 66 = .ok (.goto 240, 3) := by decide +kernel
theorem dX11_next0_69 : decode cX11_next0 69 = .ok (.iload_n 1, 1) := by decide +kernel
theorem dX11_next0_70 : decode cX11_next0 70 = .ok (.invokestatic 163, 3) := by decide +kernel
theorem dX11_next0_73 : decode cX11_next0 73 = .ok (.ifCond .eq 41, 3) := by decide +kernel
theorem dX11_next0_76 : decode cX11_next0 76 = .ok (.aload_n 0, 1) := by decide +kernel
theorem dX11_next0_77 : decode cX11_next0 77 = .ok (.aload_n 0, 1) := by decide +kernel
theorem dX11_next0_78 : decode cX11_next0 78 = .ok (.getfield 72, 3) := by decide +kernel
theorem dX11_next0_81 : decode cX11_next0 81 = .ok (.invokevirtual 156, 3) := by decide +kernel
theorem dX11_next0_84 : decode cX11_next0 84 = .ok (.invokestatic 163, 3) := by decide +kernel
theorem dX11_next0_87 : decode cX11_next0 87 = .ok (.ifCond .eq 16, 3) := by decide +kernel
theorem dX11_next0_90 : decode cX11_next0 90 = .ok (.aload_n 0, 1) := by decide +kernel
theorem dX11_next0_91 : decode cX11_next0 91 = .ok (.dup, 1) := by decide +kernel
theorem dX11_next0_92 : decode cX11_next0 92 = .ok (.getfield 72, 3) := by decide +kernel
theorem dX11_next0_95 : decode cX11_next0 95 = .ok (.iconst 1, 1) := by decide +kernel
theorem dX11_next0_96 : decode cX11_next0 96 = .ok (.iadd, 1) := by decide +kernel
theorem dX11_next0_97 : decode cX11_next0 97 = .ok (.putfield 72, 3) := by decide +kernel
theorem dX11_next0_100 : decode cX11_next0 100 = .ok (.goto (-24), 3) := by decide +kernel
theorem dX11_next0_103 : decode cX11_next0 103 = .ok (.aload_n 0, 1) := by decide +kernel
theorem dX11_next0_104 : decode cX11_next0 104 = .ok (.aload_n 0, 1) := by decide +kernel
theorem dX11_next0_105 : decode cX11_next0 105 = .ok (.invokevirtual 167, 3) := by decide +kernel
theorem dX11_next0_108 : decode cX11_next0 108 = .ok (.putfield 160, 3) := by decide +kernel
theorem dX11_next0_111 : decode cX11_next0 111 = .ok (.goto 195, 3) := by decide +kernel
theorem dX11_next0_114 : decode cX11_next0 114 = .ok (.iload_n 1, 1) := by decide +kernel
theorem dX11_next0_115 : decode cX11_next0 115 = .ok (.invokestatic 170, 3) := by decide +kernel
theorem dX11_next0_118 : decode cX11_next0 118 = .ok (.ifCond .eq 96, 3) := by decide +kernel
theorem dX11_next0_121 : decode cX11_next0 121 = .ok (.aload_n 0, 1) := by decide +kernel
theorem dX11_next0_122 : decode cX11_next0 122 = .ok (.iconst 0, 1) := by decide +kernel
theorem dX11_next0_123 : decode cX11_next0 123 = .ok (.putfield 173, 3) := by decide +kernel
theorem dX11_next0_126 : decode cX11_next0 126 = .ok (.aload_n 0, 1) := by decide +kernel
theorem dX11_next0_127 : decode cX11_next0 127 = .ok (.aload_n 0, 1) := by decide +kernel
theorem dX11_next0_128 : decode cX11_next0 128 = .ok (.getfield 72, 3) := by decide +kernel
theorem dX11_next0_131 : decode cX11_next0 131 = .ok (.invokevirtual 156, 3) := by decide +kernel
theorem dX11_next0_134 : decode cX11_next0 134 = .ok (.invokestatic 170, 3) := by decide +kernel
theorem dX11_next0_137 : decode cX11_next0 137 = .ok (.ifCond .eq 52, 3) := by decide +kernel
theorem dX11_next0_140 : decode cX11_next0 140 = .ok (.aload_n 0, 1) := by decide +kernel
theorem dX11_next0_141 : decode cX11_next0 141 = .ok (.getfield 72, 3) := by decide +kernel
theorem dX11_next0_144 : decode cX11_next0 144 = .ok (.aload_n 0, 1) := by decide +kernel
theorem dX11_next0_145 : decode cX11_next0 145 = .ok (.getfield 75, 3) := by decide +kernel
theorem dX11_next0_148 : decode cX11_next0 148 = .ok (.iconst 4, 1) := by decide +kernel
theorem dX11_next0_149 : decode cX11_next0 149 = .ok (.iadd, 1) := by decide +kernel
theorem dX11_next0_150 : decode cX11_next0 150 = .ok (.if_icmp .ge 26, 3) := by decide +kernel
theorem dX11_next0_153 : decode cX11_next0 153 = .ok (.aload_n 0, 1) := by decide +kernel
theorem dX11_next0_154 : decode cX11_next0 154 = .ok (.bipush 10, 2) := by decide +kernel
theorem dX11_next0_156 : decode cX11_next0 156 = .ok (.aload_n 0, 1) := by decide +kernel
theorem dX11_next0_157 : decode cX11_next0 157 = .ok (.getfield 173, 3) := by decide +kernel
theorem dX11_next0_160 : decode cX11_next0 160 = .ok (.imul, 1) := by decide +kernel
theorem dX11_next0_161 : decode cX11_next0 161 = .ok (.aload_n 0, 1) := by decide +kernel
theorem dX11_next0_162 : decode cX11_next0 162 = .ok (.aload_n 0, 1) := by decide +kernel
theorem dX11_next0_163 : decode cX11_next0 163 = .ok (.getfield 72, 3) := by decide +kernel
theorem dX11_next0_166 : decode cX11_next0 166 = .ok (.invokevirtual 156, 3) := by decide +kernel
theorem dX11_next0_169 : decode cX11_next0 169 = .ok (.iadd, 1) := by decide +kernel
theorem dX11_next0_170 : decode cX11_next0 170 = .ok (.bipush 48, 2) := by decide +kernel
theorem dX11_next0_172 : decode cX11_next0 172 = .ok (.isub, 1) := by decide +kernel
theorem dX11_next0_173 : decode cX11_next0 173 = .ok (.putfield 173, 3) := by decide +kernel
theorem dX11_next0_176 : decode cX11_next0 176 = .ok (.aload_n 0, 1) := by decide +kernel
theorem dX11_next0_177 : decode cX11_next0 177 = .ok (.dup, 1) := by decide +kernel
theorem dX11_next0_178 : decode cX11_next0 178 = .ok (.getfield 72, 3) := by decide +kernel
theorem dX11_next0_181 : decode cX11_next0 181 = .ok (.iconst 1, 1) := by decide +kernel
theorem dX11_next0_182 : decode cX11_next0 182 = .ok (.iadd, 1) := by decide +kernel
theorem dX11_next0_183 : decode cX11_next0 183 = .ok (.putfield 72, 3) := by decide +kernel
theorem dX11_next0_186 : decode cX11_next0 186 = .ok (.goto (-60), 3) := by decide +kernel
theorem dX11_next0_189 : decode cX11_next0 189 = .ok (.aload_n 0, 1) := by decide +kernel
theorem dX11_next0_190 : decode cX11_next0 190 = .ok (.aload_n 0, 1) := by decide +kernel
theorem dX11_next0_191 : decode cX11_next0 191 = .ok (.getfield 72, 3) := by decide +kernel
theorem dX11_next0_194 : decode cX11_next0 194 = .ok (.aload_n 0, 1) := by decide +kernel
theorem dX11_next0_195 : decode cX11_next0 195 = .ok (.getfield 75, 3) := by decide +kernel
theorem dX11_next0_198 : decode cX11_next0 198 = .ok (.isub, 1) := by decide +kernel
theorem dX11_next0_199 : decode cX11_next0 199 = .ok (.iconst 5, 1) := by decide +kernel
theorem dX11_next0_200 : decode cX11_next0 200 = .ok (.if_icmp .ge 7, 3) := by decide +kernel
theorem dX11_next0_203 : decode cX11_next0 203 = .ok (.iconst 2, 1) := by decide +kernel
theorem dX11_next0_204 : decode cX11_next0 204 = .ok (.goto 4, 3) := by decide +kernel
theorem dX11_next0_207 : decode cX11_next0 207 = .ok (.iconst 1, 1) := by decide +kernel
theorem dX11_next0_208 : decode cX11_next0 208 = .ok (.putfield 160, 3) := by decide +kernel
theorem dX11_next0_211 : decode cX11_next0 211 = .ok (.goto 95, 3) := by decide +kernel
theorem dX11_next0_214 : decode cX11_next0 214 = .ok (.aload_n 0, 1) := by decide +kernel
theorem dX11_next0_215 : decode cX11_next0 215 = .ok (.dup, 1) := by decide +kernel
theorem dX11_next0_216 : decode cX11_next0 216 = .ok (.getfield 72, 3) := by decide +kernel
theorem dX11_next0_219 : decode cX11_next0 219 = .ok (.iconst 1, 1) := by decide +kernel
theorem dX11_next0_220 : decode cX11_next0 220 = .ok (.iadd, 1) := by decide +kernel
theorem dX11_next0_221 : decode cX11_next0 221 = .ok (.putfield 72, 3) := by decide +kernel
theorem dX11_next0_224 : decode cX11_next0 224 = .ok (.iload_n 1, 1) := by decide +kernel
theorem dX11_next0_225 : decode cX11_next0 225 = .ok (.bipush 59, 2) := by decide +kernel
theorem dX11_next0_227 : decode cX11_next0 227 = .ok (.if_icmp .eq 57, 3) := by decide +kernel
theorem dX11_next0_230 : decode cX11_next0 230 = .ok (.iload_n 1, 1) := by decide +kernel
theorem dX11_next0_231 : decode cX11_next0 231 = .ok (.bipush 43, 2) := by decide +kernel
theorem dX11_next0_233 : decode cX11_next0 233 = .ok (.if_icmp .eq 51, 3) := by decide +kernel
theorem dX11_next0_236 : decode cX11_next0 236 = .ok (.iload_n 1, 1) := by decide +kernel
theorem dX11_next0_237 : decode cX11_next0 237 = .ok (.bipush 45, 2) := by decide +kernel
theorem dX11_next0_239 : decode cX11_next0 239 = .ok (.if_icmp .eq 45, 3) := by decide +kernel
theorem dX11_next0_242 : decode cX11_next0 242 = .ok (.iload_n 1, 1) := by decide +kernel
theorem dX11_next0_243 : decode cX11_next0 243 = .ok (.bipush 42, 2) := by decide +kernel
theorem dX11_next0_245 : decode cX11_next0 245 = .ok (.if_icmp .eq 39, 3) := by decide +kernel
theorem dX11_next0_248 : decode cX11_next0 248 = .ok (.iload_n 1, 1) := by decide +kernel
theorem dX11_next0_249 : decode cX11_next0 249 = .ok (.bipush 47, 2) := by decide +kernel
theorem dX11_next0_251 : decode cX11_next0 251 = .ok (.if_icmp .eq 33, 3) := by decide +kernel
theorem dX11_next0_254 : decode cX11_next0 254 = .ok (.iload_n 1, 1) := by decide +kernel
theorem dX11_next0_255 : decode cX11_next0 255 = .ok (.bipush 40, 2) := by decide +kernel
theorem dX11_next0_257 : decode cX11_next0 257 = .ok (.if_icmp .eq 27, 3) := by decide +kernel
theorem dX11_next0_260 : decode cX11_next0 260 = .ok (.iload_n 1, 1) := by decide +kernel
theorem dX11_next0_261 : decode cX11_next0 261 = .ok (.bipush 41, 2) := by decide +kernel
theorem dX11_next0_263 : decode cX11_next0 263 = .ok (.if_icmp .eq 21, 3) := by decide +kernel
theorem dX11_next0_266 : decode cX11_next0 266 = .ok (.iload_n 1, 1) := by decide +kernel
theorem dX11_next0_267 : decode cX11_next0 267 = .ok (.bipush 60, 2) := by decide +kernel
theorem dX11_next0_269 : decode cX11_next0 269 = .ok (.if_icmp .eq 15, 3) := by decide +kernel
theorem dX11_next0_272 : decode cX11_next0 272 = .ok (.iload_n 1, 1) := by decide +kernel
theorem dX11_next0_273 : decode cX11_next0 273 = .ok (.bipush 61, 2) := by decide +kernel
theorem dX11_next0_275 : decode cX11_next0 275 = .ok (.if_icmp .eq 9, 3) := by decide +kernel
theorem dX11_next0_278 : decode cX11_next0 278 = .ok (.iload_n 1, 1) := by decide +kernel
theorem dX11_next0_279 : decode cX11_next0 279 = .ok (.bipush 62, 2) := by decide +kernel
theorem dX11_next0_281 : decode cX11_next0 281 = .ok (.if_icmp .ne 7, 3) := by decide +kernel
theorem dX11_next0_284 : decode cX11_next0 284 = .ok (.iconst 1, 1) := by decide +kernel
theorem dX11_next0_285 : decode cX11_next0 285 = .ok (.goto 4, 3) := by decide +kernel
theorem dX11_next0_288 : decode cX11_next0 288 = .ok (.iconst 0, 1) := by decide +kernel
theorem dX11_next0_289 : decode cX11_next0 289 = .ok (.istore_n 2, 1) := by decide +kernel
theorem dX11_next0_290 : decode cX11_next0 290 = .ok (.aload_n 0, 1) := by decide +kernel
theorem dX11_next0_291 : decode cX11_next0 291 = .ok (.iload_n 2, 1) := by decide +kernel
theorem dX11_next0_292 : decode cX11_next0 292 = .ok (.ifCond .eq 10, 3) := by decide +kernel
theorem dX11_next0_295 : decode cX11_next0 295 = .ok (.bipush 100, 2) := by decide +kernel
theorem dX11_next0_297 : decode cX11_next0 297 = .ok (.iload_n 1, 1) := by decide +kernel
theorem dX11_next0_298 : decode cX11_next0 298 = .ok (.iadd, 1) := by decide +kernel
theorem dX11_next0_299 : decode cX11_next0 299 = .ok (.goto 4, 3) := by decide +kernel
theorem dX11_next0_302 : decode cX11_next0 302 = .ok (.iconst 1, 1) := by decide +kernel
theorem dX11_next0_303 : decode cX11_next0 303 = .ok (.putfield 160, 3) := by decide +kernel
theorem dX11_next0_306 : decode cX11_next0 306 = .ok (.return_, 1) := by decide +kernel
theorem dX11_bad_0 : decode cX11_bad 0 = .ok (.aload_n 0, 1) := by decide +kernel
theorem dX11_bad_1 : decode cX11_bad 1 = .ok (.iload_n 1, 1) := by decide +kernel
theorem dX11_bad_2 : decode cX11_bad 2 = .ok (.putfield 176, 3) := by decide +kernel
theorem dX11_bad_5 : decode cX11_bad 5 = .ok (.aload_n 0, 1) := by decide +kernel
theorem dX11_bad_6 : decode cX11_bad 6 = .ok (.aload_n 0, 1) := by decide +kernel
theorem dX11_bad_7 : decode cX11_bad 7 = .ok (.getfield 75, 3) := by decide +kernel
theorem dX11_bad_10 : decode cX11_bad 10 = .ok (.putfield 179, 3) := by decide +kernel
theorem dX11_bad_13 : decode cX11_bad 13 = .ok (.iconst 0, 1) := by decide +kernel
theorem dX11_bad_14 : decode cX11_bad 14 = .ok (.ireturn, 1) := by decide +kernel
theorem dX11_need_0 : decode cX11_need 0 = .ok (.aload_n 0, 1) := by decide +kernel
theorem dX11_need_1 : decode cX11_need 1 = .ok (.getfield 160, 3) := by decide +kernel
theorem dX11_need_4 : decode cX11_need 4 = .ok (.iload_n 1, 1) := by decide +kernel
theorem dX11_need_5 : decode cX11_need 5 = .ok (.if_icmp .eq 9, 3) := by decide +kernel
theorem dX11_need_8 : decode cX11_need 8 = .ok (.aload_n 0, 1) := by decide +kernel
theorem dX11_need_9 : decode cX11_need 9 = .ok (.iconst 1, 1) := by decide +kernel
theorem dX11_need_10 : decode cX11_need 10 = .ok (.invokevirtual 182, 3) := by decide +kernel
theorem dX11_need_13 : decode cX11_need 13 = .ok (.ireturn, 1) := by decide +kernel
theorem dX11_need_14 : decode cX11_need 14 = .ok (.aload_n 0, 1) := by decide +kernel
theorem dX11_need_15 : decode cX11_need 15 = .ok (.invokevirtual 185, 3) := by decide +kernel
theorem dX11_need_18 : decode cX11_need 18 = .ok (.iconst 1, 1) := by decide +kernel
theorem dX11_need_19 : decode cX11_need 19 = .ok (.ireturn, 1) := by decide +kernel
theorem dX11_lay_0 : decode cX11_lay 0 = .ok (.aload_n 0, 1) := by decide +kernel
theorem dX11_lay_1 : decode cX11_lay 1 = .ok (.getfield 25, 3) := by decide +kernel
theorem dX11_lay_4 : decode cX11_lay 4 = .ok (.iconst 2, 1) := by decide +kernel
theorem dX11_lay_5 : decode cX11_lay 5 = .ok (.aload_n 0, 1) := by decide +kernel
theorem dX11_lay_6 : decode cX11_lay 6 = .ok (.getfield 188, 3) := by decide +kernel
theorem dX11_lay_9 : decode cX11_lay 9 = .ok (.imul, 1) := by decide +kernel
theorem dX11_lay_10 : decode cX11_lay 10 = .ok (.iload_n 1, 1) := by decide +kernel
theorem dX11_lay_11 : decode cX11_lay 11 = .ok (.iastore, 1) := by decide +kernel
theorem dX11_lay_12 : decode cX11_lay 12 = .ok (.aload_n 0, 1) := by decide +kernel
theorem dX11_lay_13 : decode cX11_lay 13 = .ok (.getfield 25, 3) := by decide +kernel
theorem dX11_lay_16 : decode cX11_lay 16 = .ok (.iconst 2, 1) := by decide +kernel
theorem dX11_lay_17 : decode cX11_lay 17 = .ok (.aload_n 0, 1) := by decide +kernel
theorem dX11_lay_18 : decode cX11_lay 18 = .ok (.getfield 188, 3) := by decide +kernel
theorem dX11_lay_21 : decode cX11_lay 21 = .ok (.imul, 1) := by decide +kernel
theorem dX11_lay_22 : decode cX11_lay 22 = .ok (.iconst 1, 1) := by decide +kernel
theorem dX11_lay_23 : decode cX11_lay 23 = .ok (.iadd, 1) := by decide +kernel
theorem dX11_lay_24 : decode cX11_lay 24 = .ok (.iload_n 2, 1) := by decide +kernel
theorem dX11_lay_25 : decode cX11_lay 25 = .ok (.iastore, 1) := by decide +kernel
theorem dX11_lay_26 : decode cX11_lay 26 = .ok (.aload_n 0, 1) := by decide +kernel
theorem dX11_lay_27 : decode cX11_lay 27 = .ok (.dup, 1) := by decide +kernel
theorem dX11_lay_28 : decode cX11_lay 28 = .ok (.getfield 188, 3) := by decide +kernel
theorem dX11_lay_31 : decode cX11_lay 31 = .ok (.iconst 1, 1) := by decide +kernel
theorem dX11_lay_32 : decode cX11_lay 32 = .ok (.iadd, 1) := by decide +kernel
theorem dX11_lay_33 : decode cX11_lay 33 = .ok (.putfield 188, 3) := by decide +kernel
theorem dX11_lay_36 : decode cX11_lay 36 = .ok (.return_, 1) := by decide +kernel
theorem dX11_opens_0 : decode cX11_opens 0 = .ok (.aload_n 0, 1) := by decide +kernel
theorem dX11_opens_1 : decode cX11_opens 1 = .ok (.getfield 191, 3) := by decide +kernel
theorem dX11_opens_4 : decode cX11_opens 4 = .ok (.bipush 8, 2) := by decide +kernel
theorem dX11_opens_6 : decode cX11_opens 6 = .ok (.if_icmp .ne 9, 3) := by decide +kernel
theorem dX11_opens_9 : decode cX11_opens 9 = .ok (.aload_n 0, 1) := by decide +kernel
theorem dX11_opens_10 : decode cX11_opens 10 = .ok (.iconst 3, 1) := by decide +kernel
theorem dX11_opens_11 : decode cX11_opens 11 = .ok (.invokevirtual 182, 3) := by decide +kernel
theorem dX11_opens_14 : decode cX11_opens 14 = .ok (.ireturn, 1) := by decide +kernel
theorem dX11_opens_15 : decode cX11_opens 15 = .ok (.aload_n 0, 1) := by decide +kernel
theorem dX11_opens_16 : decode cX11_opens 16 = .ok (.dup, 1) := by decide +kernel
theorem dX11_opens_17 : decode cX11_opens 17 = .ok (.getfield 191, 3) := by decide +kernel
theorem dX11_opens_20 : decode cX11_opens 20 = .ok (.iconst 1, 1) := by decide +kernel
theorem dX11_opens_21 : decode cX11_opens 21 = .ok (.iadd, 1) := by decide +kernel
theorem dX11_opens_22 : decode cX11_opens 22 = .ok (.putfield 191, 3) := by decide +kernel
theorem dX11_opens_25 : decode cX11_opens 25 = .ok (.aload_n 0, 1) := by decide +kernel
theorem dX11_opens_26 : decode cX11_opens 26 = .ok (.invokevirtual 185, 3) := by decide +kernel
theorem dX11_opens_29 : decode cX11_opens 29 = .ok (.iconst 1, 1) := by decide +kernel
theorem dX11_opens_30 : decode cX11_opens 30 = .ok (.ireturn, 1) := by decide +kernel
theorem dX11_sumUp_0 : decode cX11_sumUp 0 = .ok (.aload_n 0, 1) := by decide +kernel
theorem dX11_sumUp_1 : decode cX11_sumUp 1 = .ok (.invokevirtual 194, 3) := by decide +kernel
theorem dX11_sumUp_4 : decode cX11_sumUp 4 = .ok (.ifCond .ne 5, 3) := by decide +kernel
theorem dX11_sumUp_7 : decode cX11_sumUp 7 = .ok (.iconst 0, 1) := by decide +kernel
theorem dX11_sumUp_8 : decode cX11_sumUp 8 = .ok (.ireturn, 1) := by decide +kernel
theorem dX11_sumUp_9 : decode cX11_sumUp 9 = .ok (.aload_n 0, 1) := by decide +kernel
theorem dX11_sumUp_10 : decode cX11_sumUp 10 = .ok (.getfield 160, 3) := by decide +kernel
theorem dX11_sumUp_13 : decode cX11_sumUp 13 = .ok (.sipush 143, 3) := by decide +kernel
theorem dX11_sumUp_16 : decode cX11_sumUp 16 = .ok (.if_icmp .eq 13, 3) := by decide +kernel
theorem dX11_sumUp_19 : decode cX11_sumUp 19 = .ok (.aload_n 0, 1) := by decide +kernel
theorem dX11_sumUp_20 : decode cX11_sumUp 20 = .ok (.getfield 160, 3) := by decide +kernel
theorem dX11_sumUp_23 : decode cX11_sumUp 23 = .ok (.sipush 145, 3) := by decide +kernel
theorem dX11_sumUp_26 : decode cX11_sumUp 26 = .ok (.if_icmp .ne 43, 3) := by decide +kernel
theorem dX11_sumUp_29 : decode cX11_sumUp 29 = .ok (.aload_n 0, 1) := by decide +kernel
theorem dX11_sumUp_30 : decode cX11_sumUp 30 = .ok (.getfield 160, 3) := by decide +kernel
theorem dX11_sumUp_33 : decode cX11_sumUp 33 = .ok (.sipush 143, 3) := by decide +kernel
theorem dX11_sumUp_36 : decode cX11_sumUp 36 = .ok (.if_icmp .ne 8, 3) := by decide +kernel
theorem dX11_sumUp_39 : decode cX11_sumUp 39 = .ok (.bipush 23, 2) := by decide +kernel
theorem dX11_sumUp_41 : decode cX11_sumUp 41 = .ok (.goto 5, 3) := by decide +kernel
theorem dX11_sumUp_44 : decode cX11_sumUp 44 = .ok (.bipush 24, 2) := by decide +kernel
theorem dX11_sumUp_46 : decode cX11_sumUp 46 = .ok (.istore_n 1, 1) := by decide +kernel
theorem dX11_sumUp_47 : decode cX11_sumUp 47 = .ok (.aload_n 0, 1) := by decide +kernel
theorem dX11_sumUp_48 : decode cX11_sumUp 48 = .ok (.invokevirtual 185, 3) := by decide +kernel
theorem dX11_sumUp_51 : decode cX11_sumUp 51 = .ok (.aload_n 0, 1) := by decide +kernel
theorem dX11_sumUp_52 : decode cX11_sumUp 52 = .ok (.invokevirtual 194, 3) := by decide +kernel
theorem dX11_sumUp_55 : decode cX11_sumUp 55 = .ok (.ifCond .ne 5, 3) := by decide +kernel
theorem dX11_sumUp_58 : decode cX11_sumUp 58 = .ok (.iconst 0, 1) := by decide +kernel
theorem dX11_sumUp_59 : decode cX11_sumUp 59 = .ok (.ireturn, 1) := by decide +kernel
theorem dX11_sumUp_60 : decode cX11_sumUp 60 = .ok (.aload_n 0, 1) := by decide +kernel
theorem dX11_sumUp_61 : decode cX11_sumUp 61 = .ok (.iload_n 1, 1) := by decide +kernel
theorem dX11_sumUp_62 : decode cX11_sumUp 62 = .ok (.iconst 0, 1) := by decide +kernel
theorem dX11_sumUp_63 : decode cX11_sumUp 63 = .ok (.invokevirtual 198, 3) := by decide +kernel
theorem dX11_sumUp_66 : decode cX11_sumUp 66 = .ok (.goto (-57), 3) := by decide +kernel
theorem dX11_sumUp_69 : decode cX11_sumUp 69 = .ok (.iconst 1, 1) := by decide +kernel
theorem dX11_sumUp_70 : decode cX11_sumUp 70 = .ok (.ireturn, 1) := by decide +kernel
theorem dX11_product_0 : decode cX11_product 0 = .ok (.aload_n 0, 1) := by decide +kernel
theorem dX11_product_1 : decode cX11_product 1 = .ok (.invokevirtual 202, 3) := by decide +kernel
theorem dX11_product_4 : decode cX11_product 4 = .ok (.ifCond .ne 5, 3) := by decide +kernel
theorem dX11_product_7 : decode cX11_product 7 = .ok (.iconst 0, 1) := by decide +kernel
theorem dX11_product_8 : decode cX11_product 8 = .ok (.ireturn, 1) := by decide +kernel
theorem dX11_product_9 : decode cX11_product 9 = .ok (.aload_n 0, 1) := by decide +kernel
theorem dX11_product_10 : decode cX11_product 10 = .ok (.getfield 160, 3) := by decide +kernel
theorem dX11_product_13 : decode cX11_product 13 = .ok (.sipush 142, 3) := by decide +kernel
theorem dX11_product_16 : decode cX11_product 16 = .ok (.if_icmp .eq 13, 3) := by decide +kernel
theorem dX11_product_19 : decode cX11_product 19 = .ok (.aload_n 0, 1) := by decide +kernel
theorem dX11_product_20 : decode cX11_product 20 = .ok (.getfield 160, 3) := by decide +kernel
theorem dX11_product_23 : decode cX11_product 23 = .ok (.sipush 147, 3) := by decide +kernel
theorem dX11_product_26 : decode cX11_product 26 = .ok (.if_icmp .ne 89, 3) := by decide +kernel
theorem dX11_product_29 : decode cX11_product 29 = .ok (.aload_n 0, 1) := by decide +kernel
theorem dX11_product_30 : decode cX11_product 30 = .ok (.getfield 160, 3) := by decide +kernel
theorem dX11_product_33 : decode cX11_product 33 = .ok (.sipush 147, 3) := by decide +kernel
theorem dX11_product_36 : decode cX11_product 36 = .ok (.if_icmp .ne 7, 3) := by decide +kernel
theorem dX11_product_39 : decode cX11_product 39 = .ok (.iconst 1, 1) := by decide +kernel
theorem dX11_product_40 : decode cX11_product 40 = .ok (.goto 4, 3) := by decide +kernel
theorem dX11_product_43 : decode cX11_product 43 = .ok (.iconst 0, 1) := by decide +kernel
theorem dX11_product_44 : decode cX11_product 44 = .ok (.istore_n 1, 1) := by decide +kernel
theorem dX11_product_45 : decode cX11_product 45 = .ok (.aload_n 0, 1) := by decide +kernel
theorem dX11_product_46 : decode cX11_product 46 = .ok (.invokevirtual 185, 3) := by decide +kernel
theorem dX11_product_49 : decode cX11_product 49 = .ok (.iload_n 1, 1) := by decide +kernel
theorem dX11_product_50 : decode cX11_product 50 = .ok (.ifCond .eq 46, 3) := by decide +kernel
theorem dX11_product_53 : decode cX11_product 53 = .ok (.aload_n 0, 1) := by decide +kernel
theorem dX11_product_54 : decode cX11_product 54 = .ok (.getfield 173, 3) := by decide +kernel
theorem dX11_product_57 : decode cX11_product 57 = .ok (.istore_n 2, 1) := by decide +kernel
theorem dX11_product_58 : decode cX11_product 58 = .ok (.aload_n 0, 1) := by decide +kernel
theorem dX11_product_59 : decode cX11_product 59 = .ok (.getfield 160, 3) := by decide +kernel
theorem dX11_product_62 : decode cX11_product 62 = .ok (.iconst 2, 1) := by decide +kernel
theorem dX11_product_63 : decode cX11_product 63 = .ok (.if_icmp .eq 9, 3) := by decide +kernel
theorem dX11_product_66 : decode cX11_product 66 = .ok (.aload_n 0, 1) := by decide +kernel
theorem dX11_product_67 : decode cX11_product 67 = .ok (.iconst 1, 1) := by decide +kernel
theorem dX11_product_68 : decode cX11_product 68 = .ok (.invokevirtual 182, 3) := by decide +kernel
theorem dX11_product_71 : decode cX11_product 71 = .ok (.ireturn, 1) := by decide +kernel
theorem dX11_product_72 : decode cX11_product 72 = .ok (.iload_n 2, 1) := by decide +kernel
theorem dX11_product_73 : decode cX11_product 73 = .ok (.ifCond .ne 9, 3) := by decide +kernel
theorem dX11_product_76 : decode cX11_product 76 = .ok (.aload_n 0, 1) := by decide +kernel
theorem dX11_product_77 : decode cX11_product 77 = .ok (.iconst 2, 1) := by decide +kernel
theorem dX11_product_78 : decode cX11_product 78 = .ok (.invokevirtual 182, 3) := by decide +kernel
theorem dX11_product_81 : decode cX11_product 81 = .ok (.ireturn, 1) := by decide +kernel
theorem dX11_product_82 : decode cX11_product 82 = .ok (.aload_n 0, 1) := by decide +kernel
theorem dX11_product_83 : decode cX11_product 83 = .ok (.invokevirtual 185, 3) := by decide +kernel
theorem dX11_product_86 : decode cX11_product 86 = .ok (.aload_n 0, 1) := by decide +kernel
theorem dX11_product_87 : decode cX11_product 87 = .ok (.bipush 26, 2) := by decide +kernel
theorem dX11_product_89 : decode cX11_product 89 = .ok (.iload_n 2, 1) := by decide +kernel
theorem dX11_product_90 : decode cX11_product 90 = .ok (.invokevirtual 198, 3) := by decide +kernel
theorem dX11_product_93 : decode cX11_product 93 = .ok (.goto 19, 3) := by decide +kernel
theorem dX11_product_96 : decode cX11_product 96 = .ok (.aload_n 0, 1) := by decide +kernel
theorem dX11_product_97 : decode cX11_product 97 = .ok (.invokevirtual 202, 3) := by decide +kernel
theorem dX11_product_100 : decode cX11_product 100 = .ok (.ifCond .ne 5, 3) := by decide +kernel
theorem dX11_product_103 : decode cX11_product 103 = .ok (.iconst 0, 1) := by decide +kernel
theorem dX11_product_104 : decode cX11_product 104 = .ok (.ireturn, 1) := by decide +kernel
theorem dX11_product_105 : decode cX11_product 105 = .ok (.aload_n 0, 1) := by decide +kernel
theorem dX11_product_106 : decode cX11_product 106 = .ok (.bipush 25, 2) := by decide +kernel
theorem dX11_product_108 : decode cX11_product 108 = .ok (.iconst 0, 1) := by decide +kernel
theorem dX11_product_109 : decode cX11_product 109 = .ok (.invokevirtual 198, 3) := by decide +kernel
theorem dX11_product_112 : decode cX11_product 112 = .ok (.goto (-103), 3) := by decide +kernel
theorem dX11_product_115 : decode cX11_product 115 = .ok (.iconst 1, 1) := by decide +kernel
theorem dX11_product_116 : decode cX11_product 116 = .ok (.ireturn, 1) := by decide +kernel
theorem dX11_unit_0 : decode cX11_unit 0 = .ok (.aload_n 0, 1) := by decide +kernel
theorem dX11_unit_1 : decode cX11_unit 1 = .ok (.getfield 160, 3) := by decide +kernel
theorem dX11_unit_4 : decode cX11_unit 4 = .ok (.bipush 41, 2) := by decide +kernel
theorem dX11_unit_6 : decode cX11_unit 6 = .ok (.bipush 47, 2) := by decide +kernel
theorem dX11_unit_8 : decode cX11_unit 8 = .ok (.invokestatic 53, 3) := by decide +kernel
theorem dX11_unit_11 : decode cX11_unit 11 = .ok (.istore_n 1, 1) := by decide +kernel
theorem dX11_unit_12 : decode cX11_unit 12 = .ok (.aload_n 0, 1) := by decide +kernel
theorem dX11_unit_13 : decode cX11_unit 13 = .ok (.getfield 160, 3) := by decide +kernel
theorem dX11_unit_16 : decode cX11_unit 16 = .ok (.iconst 2, 1) := by decide +kernel
theorem dX11_unit_17 : decode cX11_unit 17 = .ok (.if_icmp .eq 13, 3) := by decide +kernel
theorem dX11_unit_20 : decode cX11_unit 20 = .ok (.iload_n 1, 1) := by decide +kernel
theorem dX11_unit_21 : decode cX11_unit 21 = .ok (.ifCond .ne 9, 3) := by decide +kernel
theorem dX11_unit_24 : decode cX11_unit 24 = .ok (.aload_n 0, 1) := by decide +kernel
theorem dX11_unit_25 : decode cX11_unit 25 = .ok (.iconst 1, 1) := by decide +kernel
theorem dX11_unit_26 : decode cX11_unit 26 = .ok (.invokevirtual 182, 3) := by decide +kernel
theorem dX11_unit_29 : decode cX11_unit 29 = .ok (.ireturn, 1) := by decide +kernel
theorem dX11_unit_30 : decode cX11_unit 30 = .ok (.aload_n 0, 1) := by decide +kernel
theorem dX11_unit_31 : decode cX11_unit 31 = .ok (.iload_n 1, 1) := by decide +kernel
theorem dX11_unit_32 : decode cX11_unit 32 = .ok (.ifCond .eq 13, 3) := by decide +kernel
theorem dX11_unit_35 : decode cX11_unit 35 = .ok (.aload_n 0, 1) := by decide +kernel
theorem dX11_unit_36 : decode cX11_unit 36 = .ok (.getfield 160, 3) := by decide +kernel
theorem dX11_unit_39 : decode cX11_unit 39 = .ok (.bipush 40, 2) := by decide +kernel
theorem dX11_unit_41 : decode cX11_unit 41 = .ok (.isub, 1) := by decide +kernel
theorem dX11_unit_42 : decode cX11_unit 42 = .ok (.goto 4, 3) := by decide +kernel
theorem dX11_unit_45 : decode cX11_unit 45 = .ok (.iconst 0, 1) := by decide +kernel
theorem dX11_unit_46 : decode cX11_unit 46 = .ok (.aload_n 0, 1) := by decide +kernel
theorem dX11_unit_47 : decode cX11_unit 47 = .ok (.getfield 173, 3) := by decide +kernel
theorem dX11_unit_50 : decode cX11_unit 50 = .ok (.invokevirtual 198, 3) := by decide +kernel
theorem dX11_unit_53 : decode cX11_unit 53 = .ok (.aload_n 0, 1) := by decide +kernel
theorem dX11_unit_54 : decode cX11_unit 54 = .ok (.invokevirtual 185, 3) := by decide +kernel
theorem dX11_unit_57 : decode cX11_unit 57 = .ok (.iconst 1, 1) := by decide +kernel
theorem dX11_unit_58 : decode cX11_unit 58 = .ok (.ireturn, 1) := by decide +kernel
theorem dX11_any_0 : decode cX11_any 0 = .ok (.aload_n 0, 1) := by decide +kernel
theorem dX11_any_1 : decode cX11_any 1 = .ok (.invokevirtual 205, 3) := by decide +kernel
theorem dX11_any_4 : decode cX11_any 4 = .ok (.ifCond .ne 5, 3) := by decide +kernel
theorem dX11_any_7 : decode cX11_any 7 = .ok (.iconst 0, 1) := by decide +kernel
theorem dX11_any_8 : decode cX11_any 8 = .ok (.ireturn, 1) := by decide +kernel
theorem dX11_any_9 : decode cX11_any 9 = .ok (.aload_n 0, 1) := by decide +kernel
theorem dX11_any_10 : decode cX11_any 10 = .ok (.getfield 160, 3) := by decide +kernel
theorem dX11_any_13 : decode cX11_any 13 = .ok (.iconst 4, 1) := by decide +kernel
theorem dX11_any_14 : decode cX11_any 14 = .ok (.if_icmp .ne 26, 3) := by decide +kernel
theorem dX11_any_17 : decode cX11_any 17 = .ok (.aload_n 0, 1) := by decide +kernel
theorem dX11_any_18 : decode cX11_any 18 = .ok (.invokevirtual 185, 3) := by decide +kernel
theorem dX11_any_21 : decode cX11_any 21 = .ok (.aload_n 0, 1) := by decide +kernel
theorem dX11_any_22 : decode cX11_any 22 = .ok (.invokevirtual 205, 3) := by decide +kernel
theorem dX11_any_25 : decode cX11_any 25 = .ok (.ifCond .ne 5, 3) := by decide +kernel
theorem dX11_any_28 : decode cX11_any 28 = .ok (.iconst 0, 1) := by decide +kernel
theorem dX11_any_29 : decode cX11_any 29 = .ok (.ireturn, 1) := by decide +kernel
theorem dX11_any_30 : decode cX11_any 30 = .ok (.aload_n 0, 1) := by decide +kernel
theorem dX11_any_31 : decode cX11_any 31 = .ok (.bipush 32, 2) := by decide +kernel
theorem dX11_any_33 : decode cX11_any 33 = .ok (.iconst 0, 1) := by decide +kernel
theorem dX11_any_34 : decode cX11_any 34 = .ok (.invokevirtual 198, 3) := by decide +kernel
theorem dX11_any_37 : decode cX11_any 37 = .ok (.goto (-28), 3) := by decide +kernel
theorem dX11_any_40 : decode cX11_any 40 = .ok (.iconst 1, 1) := by decide +kernel
theorem dX11_any_41 : decode cX11_any 41 = .ok (.ireturn, 1) := by decide +kernel
theorem dX11_every_0 : decode cX11_every 0 = .ok (.aload_n 0, 1) := by decide +kernel
theorem dX11_every_1 : decode cX11_every 1 = .ok (.invokevirtual 208, 3) := by decide +kernel
theorem dX11_every_4 : decode cX11_every 4 = .ok (.ifCond .ne 5, 3) := by decide +kernel
theorem dX11_every_7 : decode cX11_every 7 = .ok (.iconst 0, 1) := by decide +kernel
theorem dX11_every_8 : decode cX11_every 8 = .ok (.ireturn, 1) := by decide +kernel
theorem dX11_every_9 : decode cX11_every 9 = .ok (.aload_n 0, 1) := by decide +kernel
theorem dX11_every_10 : decode cX11_every 10 = .ok (.getfield 160, 3) := by decide +kernel
theorem dX11_every_13 : decode cX11_every 13 = .ok (.iconst 5, 1) := by decide +kernel
theorem dX11_every_14 : decode cX11_every 14 = .ok (.if_icmp .ne 26, 3) := by decide +kernel
theorem dX11_every_17 : decode cX11_every 17 = .ok (.aload_n 0, 1) := by decide +kernel
theorem dX11_every_18 : decode cX11_every 18 = .ok (.invokevirtual 185, 3) := by decide +kernel
theorem dX11_every_21 : decode cX11_every 21 = .ok (.aload_n 0, 1) := by decide +kernel
theorem dX11_every_22 : decode cX11_every 22 = .ok (.invokevirtual 208, 3) := by decide +kernel
theorem dX11_every_25 : decode cX11_every 25 = .ok (.ifCond .ne 5, 3) := by decide +kernel
theorem dX11_every_28 : decode cX11_every 28 = .ok (.iconst 0, 1) := by decide +kernel
theorem dX11_every_29 : decode cX11_every 29 = .ok (.ireturn, 1) := by decide +kernel
theorem dX11_every_30 : decode cX11_every 30 = .ok (.aload_n 0, 1) := by decide +kernel
theorem dX11_every_31 : decode cX11_every 31 = .ok (.bipush 31, 2) := by decide +kernel
theorem dX11_every_33 : decode cX11_every 33 = .ok (.iconst 0, 1) := by decide +kernel
theorem dX11_every_34 : decode cX11_every 34 = .ok (.invokevirtual 198, 3) := by decide +kernel
theorem dX11_every_37 : decode cX11_every 37 = .ok (.goto (-28), 3) := by decide +kernel
theorem dX11_every_40 : decode cX11_every 40 = .ok (.iconst 1, 1) := by decide +kernel
theorem dX11_every_41 : decode cX11_every 41 = .ok (.ireturn, 1) := by decide +kernel
theorem dX11_oneTest_0 : decode cX11_oneTest 0 = .ok (.aload_n 0, 1) := by decide +kernel
theorem dX11_oneTest_1 : decode cX11_oneTest 1 = .ok (.getfield 160, 3) := by decide +kernel
theorem dX11_oneTest_4 : decode cX11_oneTest 4 = .ok (.bipush 6, 2) := by decide +kernel
theorem dX11_oneTest_6 : decode cX11_oneTest 6 = .ok (.if_icmp .ne 38, 3) := by decide +kernel
theorem dX11_oneTest_9 : decode cX11_oneTest 9 = .ok (.aload_n 0, 1) := by decide +kernel
theorem dX11_oneTest_10 : decode cX11_oneTest 10 = .ok (.invokevirtual 211, 3) := by decide +kernel
theorem dX11_oneTest_13 : decode cX11_oneTest 13 = .ok (.ifCond .eq 10, 3) := by decide +kernel
theorem dX11_oneTest_16 : decode cX11_oneTest 16 = .ok (.aload_n 0, 1) := by decide +kernel
theorem dX11_oneTest_17 : decode cX11_oneTest 17 = .ok (.invokevirtual 208, 3) := by decide +kernel
theorem dX11_oneTest_20 : decode cX11_oneTest 20 = .ok (.ifCond .ne 5, 3) := by decide +kernel
theorem dX11_oneTest_23 : decode cX11_oneTest 23 = .ok (.iconst 0, 1) := by decide +kernel
theorem dX11_oneTest_24 : decode cX11_oneTest 24 = .ok (.ireturn, 1) := by decide +kernel
theorem dX11_oneTest_25 : decode cX11_oneTest 25 = .ok (.aload_n 0, 1) := by decide +kernel
theorem dX11_oneTest_26 : decode cX11_oneTest 26 = .ok (.dup, 1) := by decide +kernel
theorem dX11_oneTest_27 : decode cX11_oneTest 27 = .ok (.getfield 191, 3) := by decide +kernel
theorem dX11_oneTest_30 : decode cX11_oneTest 30 = .ok (.iconst 1, 1) := by decide +kernel
theorem dX11_oneTest_31 : decode cX11_oneTest 31 = .ok (.isub, 1) := by decide +kernel
theorem dX11_oneTest_32 : decode cX11_oneTest 32 = .ok (.putfield 191, 3) := by decide +kernel
theorem dX11_oneTest_35 : decode cX11_oneTest 35 = .ok (.aload_n 0, 1) := by decide +kernel
theorem dX11_oneTest_36 : decode cX11_oneTest 36 = .ok (.bipush 30, 2) := by decide +kernel
theorem dX11_oneTest_38 : decode cX11_oneTest 38 = .ok (.iconst 0, 1) := by decide +kernel
theorem dX11_oneTest_39 : decode cX11_oneTest 39 = .ok (.invokevirtual 198, 3) := by decide +kernel
theorem dX11_oneTest_42 : decode cX11_oneTest 42 = .ok (.iconst 1, 1) := by decide +kernel
theorem dX11_oneTest_43 : decode cX11_oneTest 43 = .ok (.ireturn, 1) := by decide +kernel
theorem dX11_oneTest_44 : decode cX11_oneTest 44 = .ok (.aload_n 0, 1) := by decide +kernel
theorem dX11_oneTest_45 : decode cX11_oneTest 45 = .ok (.getfield 160, 3) := by decide +kernel
theorem dX11_oneTest_48 : decode cX11_oneTest 48 = .ok (.sipush 140, 3) := by decide +kernel
theorem dX11_oneTest_51 : decode cX11_oneTest 51 = .ok (.if_icmp .ne 41, 3) := by decide +kernel
theorem dX11_oneTest_54 : decode cX11_oneTest 54 = .ok (.aload_n 0, 1) := by decide +kernel
theorem dX11_oneTest_55 : decode cX11_oneTest 55 = .ok (.invokevirtual 211, 3) := by decide +kernel
theorem dX11_oneTest_58 : decode cX11_oneTest 58 = .ok (.ifCond .eq 20, 3) := by decide +kernel
theorem dX11_oneTest_61 : decode cX11_oneTest 61 = .ok (.aload_n 0, 1) := by decide +kernel
theorem dX11_oneTest_62 : decode cX11_oneTest 62 = .ok (.invokevirtual 214, 3) := by decide +kernel
theorem dX11_oneTest_65 : decode cX11_oneTest 65 = .ok (.ifCond .eq 13, 3) := by decide +kernel
theorem dX11_oneTest_68 : decode cX11_oneTest 68 = .ok (.aload_n 0, 1) := by decide +kernel
theorem dX11_oneTest_69 : decode cX11_oneTest 69 = .ok (.sipush 141, 3) := by decide +kernel
theorem dX11_oneTest_72 : decode cX11_oneTest 72 = .ok (.invokevirtual 217, 3) := by decide +kernel
theorem dX11_oneTest_75 : decode cX11_oneTest 75 = .ok (.ifCond .ne 5, 3) := by decide +kernel
theorem dX11_oneTest_78 : decode cX11_oneTest 78 = .ok (.iconst 0, 1) := by decide +kernel
theorem dX11_oneTest_79 : decode cX11_oneTest 79 = .ok (.ireturn, 1) := by decide +kernel
theorem dX11_oneTest_80 : decode cX11_oneTest 80 = .ok (.aload_n 0, 1) := by decide +kernel
theorem dX11_oneTest_81 : decode cX11_oneTest 81 = .ok (.dup, 1) := by decide +kernel
theorem dX11_oneTest_82 : decode cX11_oneTest 82 = .ok (.getfield 191, 3) := by decide +kernel
theorem dX11_oneTest_85 : decode cX11_oneTest 85 = .ok (.iconst 1, 1) := by decide +kernel
theorem dX11_oneTest_86 : decode cX11_oneTest 86 = .ok (.isub, 1) := by decide +kernel
theorem dX11_oneTest_87 : decode cX11_oneTest 87 = .ok (.putfield 191, 3) := by decide +kernel
theorem dX11_oneTest_90 : decode cX11_oneTest 90 = .ok (.iconst 1, 1) := by decide +kernel
theorem dX11_oneTest_91 : decode cX11_oneTest 91 = .ok (.ireturn, 1) := by decide +kernel
theorem dX11_oneTest_92 : decode cX11_oneTest 92 = .ok (.aload_n 0, 1) := by decide +kernel
theorem dX11_oneTest_93 : decode cX11_oneTest 93 = .ok (.invokevirtual 220, 3) := by decide +kernel
theorem dX11_oneTest_96 : decode cX11_oneTest 96 = .ok (.ifCond .ne 5, 3) := by decide +kernel
theorem dX11_oneTest_99 : decode cX11_oneTest 99 = .ok (.iconst 0, 1) := by decide +kernel
theorem dX11_oneTest_100 : decode cX11_oneTest 100 = .ok (.ireturn, 1) := by decide +kernel
theorem dX11_oneTest_101 : decode cX11_oneTest 101 = .ok (.aload_n 0, 1) := by decide +kernel
theorem dX11_oneTest_102 : decode cX11_oneTest 102 = .ok (.getfield 160, 3) := by decide +kernel
theorem dX11_oneTest_105 : decode cX11_oneTest 105 = .ok (.sipush 160, 3) := by decide +kernel
theorem dX11_oneTest_108 : decode cX11_oneTest 108 = .ok (.if_icmp .ne 8, 3) := by decide +kernel
theorem dX11_oneTest_111 : decode cX11_oneTest 111 = .ok (.bipush 27, 2) := by decide +kernel
theorem dX11_oneTest_113 : decode cX11_oneTest 113 = .ok (.goto 34, 3) := by decide +kernel
theorem dX11_oneTest_116 : decode cX11_oneTest 116 = .ok (.aload_n 0, 1) := by decide +kernel
theorem dX11_oneTest_117 : decode cX11_oneTest 117 = .ok (.getfield 160, 3) := by decide +kernel
theorem dX11_oneTest_120 : decode cX11_oneTest 120 = .ok (.sipush 161, 3) := by decide +kernel
theorem dX11_oneTest_123 : decode cX11_oneTest 123 = .ok (.if_icmp .ne 8, 3) := by decide +kernel
theorem dX11_oneTest_126 : decode cX11_oneTest 126 = .ok (.bipush 28, 2) := by decide +kernel
theorem dX11_oneTest_128 : decode cX11_oneTest 128 = .ok (.goto 19, 3) := by decide +kernel
theorem dX11_oneTest_131 : decode cX11_oneTest 131 = .ok (.aload_n 0, 1) := by decide +kernel
theorem dX11_oneTest_132 : decode cX11_oneTest 132 = .ok (.getfield 160, 3) := by decide +kernel
theorem dX11_oneTest_135 : decode cX11_oneTest 135 = .ok (.sipush 162, 3) := by decide +kernel
theorem dX11_oneTest_138 : decode cX11_oneTest 138 = .ok (.if_icmp .ne 8, 3) := by decide +kernel
theorem dX11_oneTest_141 : decode cX11_oneTest 141 = .ok (.bipush 29, 2) := by decide +kernel
theorem dX11_oneTest_143 : decode cX11_oneTest 143 = .ok (.goto 4, 3) := by decide +kernel
theorem dX11_oneTest_146 : decode cX11_oneTest 146 = .ok (.iconst (-1), 1) := by decide +kernel
theorem dX11_oneTest_147 : decode cX11_oneTest 147 = .ok (.istore_n 1, 1) := by decide +kernel
theorem dX11_oneTest_148 : decode cX11_oneTest 148 = .ok (.iload_n 1, 1) := by decide +kernel
theorem dX11_oneTest_149 : decode cX11_oneTest 149 = .ok (.iconst (-1), 1) := by decide +kernel
theorem dX11_oneTest_150 : decode cX11_oneTest 150 = .ok (.if_icmp .ne 9, 3) := by decide +kernel
theorem dX11_oneTest_153 : decode cX11_oneTest 153 = .ok (.aload_n 0, 1) := by decide +kernel
theorem dX11_oneTest_154 : decode cX11_oneTest 154 = .ok (.iconst 1, 1) := by decide +kernel
theorem dX11_oneTest_155 : decode cX11_oneTest 155 = .ok (.invokevirtual 182, 3) := by decide +kernel
theorem dX11_oneTest_158 : decode cX11_oneTest 158 = .ok (.ireturn, 1) := by decide +kernel
theorem dX11_oneTest_159 : decode cX11_oneTest 159 = .ok (.aload_n 0, 1) := by decide +kernel
theorem dX11_oneTest_160 : decode cX11_oneTest 160 = .ok (.invokevirtual 185, 3) := by decide +kernel
theorem dX11_oneTest_163 : decode cX11_oneTest 163 = .ok (.aload_n 0, 1) := by decide +kernel
theorem dX11_oneTest_164 : decode cX11_oneTest 164 = .ok (.invokevirtual 220, 3) := by decide +kernel
theorem dX11_oneTest_167 : decode cX11_oneTest 167 = .ok (.ifCond .ne 5, 3) := by decide +kernel
theorem dX11_oneTest_170 : decode cX11_oneTest 170 = .ok (.iconst 0, 1) := by decide +kernel
theorem dX11_oneTest_171 : decode cX11_oneTest 171 = .ok (.ireturn, 1) := by decide +kernel
theorem dX11_oneTest_172 : decode cX11_oneTest 172 = .ok (.aload_n 0, 1) := by decide +kernel
theorem dX11_oneTest_173 : decode cX11_oneTest 173 = .ok (.iload_n 1, 1) := by decide +kernel
theorem dX11_oneTest_174 : decode cX11_oneTest 174 = .ok (.iconst 0, 1) := by decide +kernel
theorem dX11_oneTest_175 : decode cX11_oneTest 175 = .ok (.invokevirtual 198, 3) := by decide +kernel
theorem dX11_oneTest_178 : decode cX11_oneTest 178 = .ok (.iconst 1, 1) := by decide +kernel
theorem dX11_oneTest_179 : decode cX11_oneTest 179 = .ok (.ireturn, 1) := by decide +kernel
theorem dX11_aLine_0 : decode cX11_aLine 0 = .ok (.aload_n 0, 1) := by decide +kernel
theorem dX11_aLine_1 : decode cX11_aLine 1 = .ok (.getfield 160, 3) := by decide +kernel
theorem dX11_aLine_4 : decode cX11_aLine 4 = .ok (.bipush 20, 2) := by decide +kernel
theorem dX11_aLine_6 : decode cX11_aLine 6 = .ok (.bipush 23, 2) := by decide +kernel
theorem dX11_aLine_8 : decode cX11_aLine 8 = .ok (.invokestatic 53, 3) := by decide +kernel
theorem dX11_aLine_11 : decode cX11_aLine 11 = .ok (.ifCond .ne 9, 3) := by decide +kernel
theorem dX11_aLine_14 : decode cX11_aLine 14 = .ok (.aload_n 0, 1) := by decide +kernel
theorem dX11_aLine_15 : decode cX11_aLine 15 = .ok (.iconst 1, 1) := by decide +kernel
theorem dX11_aLine_16 : decode cX11_aLine 16 = .ok (.invokevirtual 182, 3) := by decide +kernel
theorem dX11_aLine_19 : decode cX11_aLine 19 = .ok (.ireturn, 1) := by decide +kernel
theorem dX11_aLine_20 : decode cX11_aLine 20 = .ok (.aload_n 0, 1) := by decide +kernel
theorem dX11_aLine_21 : decode cX11_aLine 21 = .ok (.getfield 223, 3) := by decide +kernel
theorem dX11_aLine_24 : decode cX11_aLine 24 = .ok (.bipush 16, 2) := by decide +kernel
theorem dX11_aLine_26 : decode cX11_aLine 26 = .ok (.if_icmp .ne 9, 3) := by decide +kernel
theorem dX11_aLine_29 : decode cX11_aLine 29 = .ok (.aload_n 0, 1) := by decide +kernel
theorem dX11_aLine_30 : decode cX11_aLine 30 = .ok (.iconst 3, 1) := by decide +kernel
theorem dX11_aLine_31 : decode cX11_aLine 31 = .ok (.invokevirtual 182, 3) := by decide +kernel
theorem dX11_aLine_34 : decode cX11_aLine 34 = .ok (.ireturn, 1) := by decide +kernel
theorem dX11_aLine_35 : decode cX11_aLine 35 = .ok (.aload_n 0, 1) := by decide +kernel
theorem dX11_aLine_36 : decode cX11_aLine 36 = .ok (.iconst 0, 1) := by decide +kernel
theorem dX11_aLine_37 : decode cX11_aLine 37 = .ok (.putfield 191, 3) := by decide +kernel
theorem dX11_aLine_40 : decode cX11_aLine 40 = .ok (.aload_n 0, 1) := by decide +kernel
theorem dX11_aLine_41 : decode cX11_aLine 41 = .ok (.getfield 22, 3) := by decide +kernel
theorem dX11_aLine_44 : decode cX11_aLine 44 = .ok (.iconst 4, 1) := by decide +kernel
theorem dX11_aLine_45 : decode cX11_aLine 45 = .ok (.aload_n 0, 1) := by decide +kernel
theorem dX11_aLine_46 : decode cX11_aLine 46 = .ok (.getfield 223, 3) := by decide +kernel
theorem dX11_aLine_49 : decode cX11_aLine 49 = .ok (.imul, 1) := by decide +kernel
theorem dX11_aLine_50 : decode cX11_aLine 50 = .ok (.iconst 3, 1) := by decide +kernel
theorem dX11_aLine_51 : decode cX11_aLine 51 = .ok (.iadd, 1) := by decide +kernel
theorem dX11_aLine_52 : decode cX11_aLine 52 = .ok (.aload_n 0, 1) := by decide +kernel
theorem dX11_aLine_53 : decode cX11_aLine 53 = .ok (.getfield 160, 3) := by decide +kernel
theorem dX11_aLine_56 : decode cX11_aLine 56 = .ok (.iastore, 1) := by decide +kernel
theorem dX11_aLine_57 : decode cX11_aLine 57 = .ok (.aload_n 0, 1) := by decide +kernel
theorem dX11_aLine_58 : decode cX11_aLine 58 = .ok (.invokevirtual 185, 3) := by decide +kernel
theorem dX11_aLine_61 : decode cX11_aLine 61 = .ok (.aload_n 0, 1) := by decide +kernel
theorem dX11_aLine_62 : decode cX11_aLine 62 = .ok (.getfield 22, 3) := by decide +kernel
theorem dX11_aLine_65 : decode cX11_aLine 65 = .ok (.iconst 4, 1) := by decide +kernel
theorem dX11_aLine_66 : decode cX11_aLine 66 = .ok (.aload_n 0, 1) := by decide +kernel
theorem dX11_aLine_67 : decode cX11_aLine 67 = .ok (.getfield 223, 3) := by decide +kernel
theorem dX11_aLine_70 : decode cX11_aLine 70 = .ok (.imul, 1) := by decide +kernel
theorem dX11_aLine_71 : decode cX11_aLine 71 = .ok (.aload_n 0, 1) := by decide +kernel
theorem dX11_aLine_72 : decode cX11_aLine 72 = .ok (.getfield 188, 3) := by decide +kernel
theorem dX11_aLine_75 : decode cX11_aLine 75 = .ok (.iastore, 1) := by decide +kernel
theorem dX11_aLine_76 : decode cX11_aLine 76 = .ok (.aload_n 0, 1) := by decide +kernel
theorem dX11_aLine_77 : decode cX11_aLine 77 = .ok (.invokevirtual 220, 3) := by decide +kernel
theorem dX11_aLine_80 : decode cX11_aLine 80 = .ok (.ifCond .ne 5, 3) := by decide +kernel
theorem dX11_aLine_83 : decode cX11_aLine 83 = .ok (.iconst 0, 1) := by decide +kernel
theorem dX11_aLine_84 : decode cX11_aLine 84 = .ok (.ireturn, 1) := by decide +kernel
theorem dX11_aLine_85 : decode cX11_aLine 85 = .ok (.aload_n 0, 1) := by decide +kernel
theorem dX11_aLine_86 : decode cX11_aLine 86 = .ok (.getfield 22, 3) := by decide +kernel
theorem dX11_aLine_89 : decode cX11_aLine 89 = .ok (.iconst 4, 1) := by decide +kernel
theorem dX11_aLine_90 : decode cX11_aLine 90 = .ok (.aload_n 0, 1) := by decide +kernel
theorem dX11_aLine_91 : decode cX11_aLine 91 = .ok (.getfield 223, 3) := by decide +kernel
theorem dX11_aLine_94 : decode cX11_aLine 94 = .ok (.imul, 1) := by decide +kernel
theorem dX11_aLine_95 : decode cX11_aLine 95 = .ok (.iconst 1, 1) := by decide +kernel
theorem dX11_aLine_96 : decode cX11_aLine 96 = .ok (.iadd, 1) := by decide +kernel
theorem dX11_aLine_97 : decode cX11_aLine 97 = .ok (.aload_n 0, 1) := by decide +kernel
theorem dX11_aLine_98 : decode cX11_aLine 98 = .ok (.getfield 188, 3) := by decide +kernel
theorem dX11_aLine_101 : decode cX11_aLine 101 = .ok (.iastore, 1) := by decide +kernel
theorem dX11_aLine_102 : decode cX11_aLine 102 = .ok (.aload_n 0, 1) := by decide +kernel
theorem dX11_aLine_103 : decode cX11_aLine 103 = .ok (.getfield 160, 3) := by decide +kernel
theorem dX11_aLine_106 : decode cX11_aLine 106 = .ok (.iconst 3, 1) := by decide +kernel
theorem dX11_aLine_107 : decode cX11_aLine 107 = .ok (.if_icmp .ne 16, 3) := by decide +kernel
theorem dX11_aLine_110 : decode cX11_aLine 110 = .ok (.aload_n 0, 1) := by decide +kernel
theorem dX11_aLine_111 : decode cX11_aLine 111 = .ok (.invokevirtual 185, 3) := by decide +kernel
theorem dX11_aLine_114 : decode cX11_aLine 114 = .ok (.aload_n 0, 1) := by decide +kernel
theorem dX11_aLine_115 : decode cX11_aLine 115 = .ok (.invokevirtual 214, 3) := by decide +kernel
theorem dX11_aLine_118 : decode cX11_aLine 118 = .ok (.ifCond .ne 5, 3) := by decide +kernel
theorem dX11_aLine_121 : decode cX11_aLine 121 = .ok (.iconst 0, 1) := by decide +kernel
theorem dX11_aLine_122 : decode cX11_aLine 122 = .ok (.ireturn, 1) := by decide +kernel
theorem dX11_aLine_123 : decode cX11_aLine 123 = .ok (.aload_n 0, 1) := by decide +kernel
theorem dX11_aLine_124 : decode cX11_aLine 124 = .ok (.getfield 22, 3) := by decide +kernel
theorem dX11_aLine_127 : decode cX11_aLine 127 = .ok (.iconst 4, 1) := by decide +kernel
theorem dX11_aLine_128 : decode cX11_aLine 128 = .ok (.aload_n 0, 1) := by decide +kernel
theorem dX11_aLine_129 : decode cX11_aLine 129 = .ok (.getfield 223, 3) := by decide +kernel
theorem dX11_aLine_132 : decode cX11_aLine 132 = .ok (.imul, 1) := by decide +kernel
theorem dX11_aLine_133 : decode cX11_aLine 133 = .ok (.iconst 2, 1) := by decide +kernel
theorem dX11_aLine_134 : decode cX11_aLine 134 = .ok (.iadd, 1) := by decide +kernel
theorem dX11_aLine_135 : decode cX11_aLine 135 = .ok (.aload_n 0, 1) := by decide +kernel
theorem dX11_aLine_136 : decode cX11_aLine 136 = .ok (.getfield 188, 3) := by decide +kernel
theorem dX11_aLine_139 : decode cX11_aLine 139 = .ok (.iastore, 1) := by decide +kernel
theorem dX11_aLine_140 : decode cX11_aLine 140 = .ok (.aload_n 0, 1) := by decide +kernel
theorem dX11_aLine_141 : decode cX11_aLine 141 = .ok (.sipush 159, 3) := by decide +kernel
theorem dX11_aLine_144 : decode cX11_aLine 144 = .ok (.invokevirtual 217, 3) := by decide +kernel
theorem dX11_aLine_147 : decode cX11_aLine 147 = .ok (.ireturn, 1) := by decide +kernel
theorem dX11_readsLaw_0 : decode cX11_readsLaw 0 = .ok (.aload_n 0, 1) := by decide +kernel
theorem dX11_readsLaw_1 : decode cX11_readsLaw 1 = .ok (.iconst 0, 1) := by decide +kernel
theorem dX11_readsLaw_2 : decode cX11_readsLaw 2 = .ok (.putfield 223, 3) := by decide +kernel
theorem dX11_readsLaw_5 : decode cX11_readsLaw 5 = .ok (.aload_n 0, 1) := by decide +kernel
theorem dX11_readsLaw_6 : decode cX11_readsLaw 6 = .ok (.iconst 0, 1) := by decide +kernel
theorem dX11_readsLaw_7 : decode cX11_readsLaw 7 = .ok (.putfield 188, 3) := by decide +kernel
theorem dX11_readsLaw_10 : decode cX11_readsLaw 10 = .ok (.iconst 1, 1) := by decide +kernel
theorem dX11_readsLaw_11 : decode cX11_readsLaw 11 = .ok (.istore_n 1, 1) := by decide +kernel
theorem dX11_readsLaw_12 : decode cX11_readsLaw 12 = .ok (.iload_n 1, 1) := by decide +kernel
theorem dX11_readsLaw_13 : decode cX11_readsLaw 13 = .ok (.ifCond .eq 36, 3) := by decide +kernel
theorem dX11_readsLaw_16 : decode cX11_readsLaw 16 = .ok (.aload_n 0, 1) := by decide +kernel
theorem dX11_readsLaw_17 : decode cX11_readsLaw 17 = .ok (.getfield 160, 3) := by decide +kernel
theorem dX11_readsLaw_20 : decode cX11_readsLaw 20 = .ok (.ifCond .eq 29, 3) := by decide +kernel
theorem dX11_readsLaw_23 : decode cX11_readsLaw 23 = .ok (.aload_n 0, 1) := by decide +kernel
theorem dX11_readsLaw_24 : decode cX11_readsLaw 24 = .ok (.invokevirtual 226, 3) := by decide +kernel
theorem dX11_readsLaw_27 : decode cX11_readsLaw 27 = .ok (.istore_n 1, 1) := by decide +kernel
theorem dX11_readsLaw_28 : decode cX11_readsLaw 28 = .ok (.aload_n 0, 1) := by decide +kernel
theorem dX11_readsLaw_29 : decode cX11_readsLaw 29 = .ok (.dup, 1) := by decide +kernel
theorem dX11_readsLaw_30 : decode cX11_readsLaw 30 = .ok (.getfield 223, 3) := by decide +kernel
theorem dX11_readsLaw_33 : decode cX11_readsLaw 33 = .ok (.iload_n 1, 1) := by decide +kernel
theorem dX11_readsLaw_34 : decode cX11_readsLaw 34 = .ok (.ifCond .eq 7, 3) := by decide +kernel
theorem dX11_readsLaw_37 : decode cX11_readsLaw 37 = .ok (.iconst 1, 1) := by decide +kernel
theorem dX11_readsLaw_38 : decode cX11_readsLaw 38 = .ok (.goto 4, 3) := by decide +kernel
theorem dX11_readsLaw_41 : decode cX11_readsLaw 41 = .ok (.iconst 0, 1) := by decide +kernel
theorem dX11_readsLaw_42 : decode cX11_readsLaw 42 = .ok (.iadd, 1) := by decide +kernel
theorem dX11_readsLaw_43 : decode cX11_readsLaw 43 = .ok (.putfield 223, 3) := by decide +kernel
theorem dX11_readsLaw_46 : decode cX11_readsLaw 46 = .ok (.goto (-34), 3) := by decide +kernel
theorem dX11_readsLaw_49 : decode cX11_readsLaw 49 = .ok (.iload_n 1, 1) := by decide +kernel
theorem dX11_readsLaw_50 : decode cX11_readsLaw 50 = .ok (.ireturn, 1) := by decide +kernel
theorem dX11_number_0 : decode cX11_number 0 = .ok (.aload_n 0, 1) := by decide +kernel
theorem dX11_number_1 : decode cX11_number 1 = .ok (.getfield 160, 3) := by decide +kernel
theorem dX11_number_4 : decode cX11_number 4 = .ok (.iconst 2, 1) := by decide +kernel
theorem dX11_number_5 : decode cX11_number 5 = .ok (.if_icmp .eq 9, 3) := by decide +kernel
theorem dX11_number_8 : decode cX11_number 8 = .ok (.aload_n 0, 1) := by decide +kernel
theorem dX11_number_9 : decode cX11_number 9 = .ok (.iconst 1, 1) := by decide +kernel
theorem dX11_number_10 : decode cX11_number 10 = .ok (.invokevirtual 182, 3) := by decide +kernel
theorem dX11_number_13 : decode cX11_number 13 = .ok (.ireturn, 1) := by decide +kernel
theorem dX11_number_14 : decode cX11_number 14 = .ok (.aload_n 0, 1) := by decide +kernel
theorem dX11_number_15 : decode cX11_number 15 = .ok (.getfield 173, 3) := by decide +kernel
theorem dX11_number_18 : decode cX11_number 18 = .ok (.iload_n 2, 1) := by decide +kernel
theorem dX11_number_19 : decode cX11_number 19 = .ok (.iload_n 3, 1) := by decide +kernel
theorem dX11_number_20 : decode cX11_number 20 = .ok (.invokestatic 53, 3) := by decide +kernel
theorem dX11_number_23 : decode cX11_number 23 = .ok (.ifCond .ne 9, 3) := by decide +kernel
theorem dX11_number_26 : decode cX11_number 26 = .ok (.aload_n 0, 1) := by decide +kernel
theorem dX11_number_27 : decode cX11_number 27 = .ok (.iconst 2, 1) := by decide +kernel
theorem dX11_number_28 : decode cX11_number 28 = .ok (.invokevirtual 182, 3) := by decide +kernel
theorem dX11_number_31 : decode cX11_number 31 = .ok (.ireturn, 1) := by decide +kernel
theorem dX11_number_32 : decode cX11_number 32 = .ok (.aload_n 0, 1) := by decide +kernel
theorem dX11_number_33 : decode cX11_number 33 = .ok (.getfield 28, 3) := by decide +kernel
theorem dX11_number_36 : decode cX11_number 36 = .ok (.iload_n 1, 1) := by decide +kernel
theorem dX11_number_37 : decode cX11_number 37 = .ok (.aload_n 0, 1) := by decide +kernel
theorem dX11_number_38 : decode cX11_number 38 = .ok (.getfield 173, 3) := by decide +kernel
theorem dX11_number_41 : decode cX11_number 41 = .ok (.iastore, 1) := by decide +kernel
theorem dX11_number_42 : decode cX11_number 42 = .ok (.aload_n 0, 1) := by decide +kernel
theorem dX11_number_43 : decode cX11_number 43 = .ok (.invokevirtual 185, 3) := by decide +kernel
theorem dX11_number_46 : decode cX11_number 46 = .ok (.iconst 1, 1) := by decide +kernel
theorem dX11_number_47 : decode cX11_number 47 = .ok (.ireturn, 1) := by decide +kernel
theorem dX11_told_0 : decode cX11_told 0 = .ok (.aload_n 0, 1) := by decide +kernel
theorem dX11_told_1 : decode cX11_told 1 = .ok (.iload_n 2, 1) := by decide +kernel
theorem dX11_told_2 : decode cX11_told 2 = .ok (.invokevirtual 217, 3) := by decide +kernel
theorem dX11_told_5 : decode cX11_told 5 = .ok (.ifCond .eq 18, 3) := by decide +kernel
theorem dX11_told_8 : decode cX11_told 8 = .ok (.aload_n 0, 1) := by decide +kernel
theorem dX11_told_9 : decode cX11_told 9 = .ok (.iload_n 1, 1) := by decide +kernel
theorem dX11_told_10 : decode cX11_told 10 = .ok (.iload_n 3, 1) := by decide +kernel
theorem dX11_told_11 : decode cX11_told 11 = .ok (.iload 4, 2) := by decide +kernel
theorem dX11_told_13 : decode cX11_told 13 = .ok (.invokevirtual 229, 3) := by decide +kernel
theorem dX11_told_16 : decode cX11_told 16 = .ok (.ifCond .eq 7, 3) := by decide +kernel
theorem dX11_told_19 : decode cX11_told 19 = .ok (.iconst 1, 1) := by decide +kernel
theorem dX11_told_20 : decode cX11_told 20 = .ok (.goto 4, 3) := by decide +kernel
theorem dX11_told_23 : decode cX11_told 23 = .ok (.iconst 0, 1) := by decide +kernel
theorem dX11_told_24 : decode cX11_told 24 = .ok (.ireturn, 1) := by decide +kernel
theorem dX11_aKind_0 : decode cX11_aKind 0 = .ok (.aload_n 0, 1) := by decide +kernel
theorem dX11_aKind_1 : decode cX11_aKind 1 = .ok (.iconst 2, 1) := by decide +kernel
theorem dX11_aKind_2 : decode cX11_aKind 2 = .ok (.aload_n 0, 1) := by decide +kernel
theorem dX11_aKind_3 : decode cX11_aKind 3 = .ok (.getfield 232, 3) := by decide +kernel
theorem dX11_aKind_6 : decode cX11_aKind 6 = .ok (.imul, 1) := by decide +kernel
theorem dX11_aKind_7 : decode cX11_aKind 7 = .ok (.bipush 7, 2) := by decide +kernel
theorem dX11_aKind_9 : decode cX11_aKind 9 = .ok (.iconst 1, 1) := by decide +kernel
theorem dX11_aKind_10 : decode cX11_aKind 10 = .ok (.bipush 99, 2) := by decide +kernel
theorem dX11_aKind_12 : decode cX11_aKind 12 = .ok (.invokevirtual 235, 3) := by decide +kernel
theorem dX11_aKind_15 : decode cX11_aKind 15 = .ok (.ifCond .eq 27, 3) := by decide +kernel
theorem dX11_aKind_18 : decode cX11_aKind 18 = .ok (.aload_n 0, 1) := by decide +kernel
theorem dX11_aKind_19 : decode cX11_aKind 19 = .ok (.iconst 2, 1) := by decide +kernel
theorem dX11_aKind_20 : decode cX11_aKind 20 = .ok (.aload_n 0, 1) := by decide +kernel
theorem dX11_aKind_21 : decode cX11_aKind 21 = .ok (.getfield 232, 3) := by decide +kernel
theorem dX11_aKind_24 : decode cX11_aKind 24 = .ok (.imul, 1) := by decide +kernel
theorem dX11_aKind_25 : decode cX11_aKind 25 = .ok (.iconst 1, 1) := by decide +kernel
theorem dX11_aKind_26 : decode cX11_aKind 26 = .ok (.iadd, 1) := by decide +kernel
theorem dX11_aKind_27 : decode cX11_aKind 27 = .ok (.bipush 8, 2) := by decide +kernel
theorem dX11_aKind_29 : decode cX11_aKind 29 = .ok (.iconst 1, 1) := by decide +kernel
theorem dX11_aKind_30 : decode cX11_aKind 30 = .ok (.bipush 30, 2) := by decide +kernel
theorem dX11_aKind_32 : decode cX11_aKind 32 = .ok (.invokevirtual 235, 3) := by decide +kernel
theorem dX11_aKind_35 : decode cX11_aKind 35 = .ok (.ifCond .eq 7, 3) := by decide +kernel
theorem dX11_aKind_38 : decode cX11_aKind 38 = .ok (.iconst 1, 1) := by decide +kernel
theorem dX11_aKind_39 : decode cX11_aKind 39 = .ok (.goto 4, 3) := by decide +kernel
theorem dX11_aKind_42 : decode cX11_aKind 42 = .ok (.iconst 0, 1) := by decide +kernel
theorem dX11_aKind_43 : decode cX11_aKind 43 = .ok (.ireturn, 1) := by decide +kernel
theorem dX11_aFeast_0 : decode cX11_aFeast 0 = .ok (.aload_n 0, 1) := by decide +kernel
theorem dX11_aFeast_1 : decode cX11_aFeast 1 = .ok (.iconst 3, 1) := by decide +kernel
theorem dX11_aFeast_2 : decode cX11_aFeast 2 = .ok (.aload_n 0, 1) := by decide +kernel
theorem dX11_aFeast_3 : decode cX11_aFeast 3 = .ok (.getfield 232, 3) := by decide +kernel
theorem dX11_aFeast_6 : decode cX11_aFeast 6 = .ok (.imul, 1) := by decide +kernel
theorem dX11_aFeast_7 : decode cX11_aFeast 7 = .ok (.bipush 9, 2) := by decide +kernel
theorem dX11_aFeast_9 : decode cX11_aFeast 9 = .ok (.iconst 0, 1) := by decide +kernel
theorem dX11_aFeast_10 : decode cX11_aFeast 10 = .ok (.sipush 999, 3) := by decide +kernel
theorem dX11_aFeast_13 : decode cX11_aFeast 13 = .ok (.invokevirtual 235, 3) := by decide +kernel
theorem dX11_aFeast_16 : decode cX11_aFeast 16 = .ok (.ifCond .eq 54, 3) := by decide +kernel
theorem dX11_aFeast_19 : decode cX11_aFeast 19 = .ok (.aload_n 0, 1) := by decide +kernel
theorem dX11_aFeast_20 : decode cX11_aFeast 20 = .ok (.iconst 3, 1) := by decide +kernel
theorem dX11_aFeast_21 : decode cX11_aFeast 21 = .ok (.aload_n 0, 1) := by decide +kernel
theorem dX11_aFeast_22 : decode cX11_aFeast 22 = .ok (.getfield 232, 3) := by decide +kernel
theorem dX11_aFeast_25 : decode cX11_aFeast 25 = .ok (.imul, 1) := by decide +kernel
theorem dX11_aFeast_26 : decode cX11_aFeast 26 = .ok (.iconst 1, 1) := by decide +kernel
theorem dX11_aFeast_27 : decode cX11_aFeast 27 = .ok (.iadd, 1) := by decide +kernel
theorem dX11_aFeast_28 : decode cX11_aFeast 28 = .ok (.bipush 10, 2) := by decide +kernel
theorem dX11_aFeast_30 : decode cX11_aFeast 30 = .ok (.iconst 0, 1) := by decide +kernel
theorem dX11_aFeast_31 : decode cX11_aFeast 31 = .ok (.aload_n 0, 1) := by decide +kernel
theorem dX11_aFeast_32 : decode cX11_aFeast 32 = .ok (.getfield 7, 3) := by decide +kernel
theorem dX11_aFeast_35 : decode cX11_aFeast 35 = .ok (.bipush 80, 2) := by decide +kernel
theorem dX11_aFeast_37 : decode cX11_aFeast 37 = .ok (.iaload, 1) := by decide +kernel
theorem dX11_aFeast_38 : decode cX11_aFeast 38 = .ok (.iconst 1, 1) := by decide +kernel
theorem dX11_aFeast_39 : decode cX11_aFeast 39 = .ok (.isub, 1) := by decide +kernel
theorem dX11_aFeast_40 : decode cX11_aFeast 40 = .ok (.invokevirtual 235, 3) := by decide +kernel
theorem dX11_aFeast_43 : decode cX11_aFeast 43 = .ok (.ifCond .eq 27, 3) := by decide +kernel
theorem dX11_aFeast_46 : decode cX11_aFeast 46 = .ok (.aload_n 0, 1) := by decide +kernel
theorem dX11_aFeast_47 : decode cX11_aFeast 47 = .ok (.iconst 3, 1) := by decide +kernel
theorem dX11_aFeast_48 : decode cX11_aFeast 48 = .ok (.aload_n 0, 1) := by decide +kernel
theorem dX11_aFeast_49 : decode cX11_aFeast 49 = .ok (.getfield 232, 3) := by decide +kernel
theorem dX11_aFeast_52 : decode cX11_aFeast 52 = .ok (.imul, 1) := by decide +kernel
theorem dX11_aFeast_53 : decode cX11_aFeast 53 = .ok (.iconst 2, 1) := by decide +kernel
theorem dX11_aFeast_54 : decode cX11_aFeast 54 = .ok (.iadd, 1) := by decide +kernel
theorem dX11_aFeast_55 : decode cX11_aFeast 55 = .ok (.bipush 11, 2) := by decide +kernel
theorem dX11_aFeast_57 : decode cX11_aFeast 57 = .ok (.iconst 1, 1) := by decide +kernel
theorem dX11_aFeast_58 : decode cX11_aFeast 58 = .ok (.bipush 20, 2) := by decide +kernel
theorem dX11_aFeast_60 : decode cX11_aFeast 60 = .ok (.invokevirtual 235, 3) := by decide +kernel
theorem dX11_aFeast_63 : decode cX11_aFeast 63 = .ok (.ifCond .eq 7, 3) := by decide +kernel
theorem dX11_aFeast_66 : decode cX11_aFeast 66 = .ok (.iconst 1, 1) := by decide +kernel
theorem dX11_aFeast_67 : decode cX11_aFeast 67 = .ok (.goto 4, 3) := by decide +kernel
theorem dX11_aFeast_70 : decode cX11_aFeast 70 = .ok (.iconst 0, 1) := by decide +kernel
theorem dX11_aFeast_71 : decode cX11_aFeast 71 = .ok (.ireturn, 1) := by decide +kernel
theorem dX11_aWant_0 : decode cX11_aWant 0 = .ok (.iconst 4, 1) := by decide +kernel
theorem dX11_aWant_1 : decode cX11_aWant 1 = .ok (.aload_n 0, 1) := by decide +kernel
theorem dX11_aWant_2 : decode cX11_aWant 2 = .ok (.getfield 232, 3) := by decide +kernel
theorem dX11_aWant_5 : decode cX11_aWant 5 = .ok (.imul, 1) := by decide +kernel
theorem dX11_aWant_6 : decode cX11_aWant 6 = .ok (.istore_n 1, 1) := by decide +kernel
theorem dX11_aWant_7 : decode cX11_aWant 7 = .ok (.aload_n 0, 1) := by decide +kernel
theorem dX11_aWant_8 : decode cX11_aWant 8 = .ok (.iload_n 1, 1) := by decide +kernel
theorem dX11_aWant_9 : decode cX11_aWant 9 = .ok (.bipush 12, 2) := by decide +kernel
theorem dX11_aWant_11 : decode cX11_aWant 11 = .ok (.iconst 0, 1) := by decide +kernel
theorem dX11_aWant_12 : decode cX11_aWant 12 = .ok (.aload_n 0, 1) := by decide +kernel
theorem dX11_aWant_13 : decode cX11_aWant 13 = .ok (.getfield 7, 3) := by decide +kernel
theorem dX11_aWant_16 : decode cX11_aWant 16 = .ok (.bipush 80, 2) := by decide +kernel
theorem dX11_aWant_18 : decode cX11_aWant 18 = .ok (.iaload, 1) := by decide +kernel
theorem dX11_aWant_19 : decode cX11_aWant 19 = .ok (.iconst 1, 1) := by decide +kernel
theorem dX11_aWant_20 : decode cX11_aWant 20 = .ok (.isub, 1) := by decide +kernel
theorem dX11_aWant_21 : decode cX11_aWant 21 = .ok (.invokevirtual 235, 3) := by decide +kernel
theorem dX11_aWant_24 : decode cX11_aWant 24 = .ok (.ifCond .eq 52, 3) := by decide +kernel
theorem dX11_aWant_27 : decode cX11_aWant 27 = .ok (.aload_n 0, 1) := by decide +kernel
theorem dX11_aWant_28 : decode cX11_aWant 28 = .ok (.iload_n 1, 1) := by decide +kernel
theorem dX11_aWant_29 : decode cX11_aWant 29 = .ok (.iconst 1, 1) := by decide +kernel
theorem dX11_aWant_30 : decode cX11_aWant 30 = .ok (.iadd, 1) := by decide +kernel
theorem dX11_aWant_31 : decode cX11_aWant 31 = .ok (.iconst 1, 1) := by decide +kernel
theorem dX11_aWant_32 : decode cX11_aWant 32 = .ok (.bipush 99, 2) := by decide +kernel
theorem dX11_aWant_34 : decode cX11_aWant 34 = .ok (.invokevirtual 229, 3) := by decide +kernel
theorem dX11_aWant_37 : decode cX11_aWant 37 = .ok (.ifCond .eq 39, 3) := by decide +kernel
theorem dX11_aWant_40 : decode cX11_aWant 40 = .ok (.aload_n 0, 1) := by decide +kernel
theorem dX11_aWant_41 : decode cX11_aWant 41 = .ok (.iload_n 1, 1) := by decide +kernel
theorem dX11_aWant_42 : decode cX11_aWant 42 = .ok (.iconst 2, 1) := by decide +kernel
theorem dX11_aWant_43 : decode cX11_aWant 43 = .ok (.iadd, 1) := by decide +kernel
theorem dX11_aWant_44 : decode cX11_aWant 44 = .ok (.bipush 13, 2) := by decide +kernel
theorem dX11_aWant_46 : decode cX11_aWant 46 = .ok (.iconst 0, 1) := by decide +kernel
theorem dX11_aWant_47 : decode cX11_aWant 47 = .ok (.sipush 999, 3) := by decide +kernel
theorem dX11_aWant_50 : decode cX11_aWant 50 = .ok (.invokevirtual 235, 3) := by decide +kernel
theorem dX11_aWant_53 : decode cX11_aWant 53 = .ok (.ifCond .eq 23, 3) := by decide +kernel
theorem dX11_aWant_56 : decode cX11_aWant 56 = .ok (.aload_n 0, 1) := by decide +kernel
theorem dX11_aWant_57 : decode cX11_aWant 57 = .ok (.iload_n 1, 1) := by decide +kernel
theorem dX11_aWant_58 : decode cX11_aWant 58 = .ok (.iconst 3, 1) := by decide +kernel
theorem dX11_aWant_59 : decode cX11_aWant 59 = .ok (.iadd, 1) := by decide +kernel
theorem dX11_aWant_60 : decode cX11_aWant 60 = .ok (.bipush 14, 2) := by decide +kernel
theorem dX11_aWant_62 : decode cX11_aWant 62 = .ok (.iconst 0, 1) := by decide +kernel
theorem dX11_aWant_63 : decode cX11_aWant 63 = .ok (.sipush 999, 3) := by decide +kernel
theorem dX11_aWant_66 : decode cX11_aWant 66 = .ok (.invokevirtual 235, 3) := by decide +kernel
theorem dX11_aWant_69 : decode cX11_aWant 69 = .ok (.ifCond .eq 7, 3) := by decide +kernel
theorem dX11_aWant_72 : decode cX11_aWant 72 = .ok (.iconst 1, 1) := by decide +kernel
theorem dX11_aWant_73 : decode cX11_aWant 73 = .ok (.goto 4, 3) := by decide +kernel
theorem dX11_aWant_76 : decode cX11_aWant 76 = .ok (.iconst 0, 1) := by decide +kernel
theorem dX11_aWant_77 : decode cX11_aWant 77 = .ok (.ireturn, 1) := by decide +kernel
theorem dX11_aDish_0 : decode cX11_aDish 0 = .ok (.bipush 10, 2) := by decide +kernel
theorem dX11_aDish_2 : decode cX11_aDish 2 = .ok (.aload_n 0, 1) := by decide +kernel
theorem dX11_aDish_3 : decode cX11_aDish 3 = .ok (.getfield 232, 3) := by decide +kernel
theorem dX11_aDish_6 : decode cX11_aDish 6 = .ok (.imul, 1) := by decide +kernel
theorem dX11_aDish_7 : decode cX11_aDish 7 = .ok (.istore_n 1, 1) := by decide +kernel
theorem dX11_aDish_8 : decode cX11_aDish 8 = .ok (.aload_n 0, 1) := by decide +kernel
theorem dX11_aDish_9 : decode cX11_aDish 9 = .ok (.iload_n 1, 1) := by decide +kernel
theorem dX11_aDish_10 : decode cX11_aDish 10 = .ok (.bipush 15, 2) := by decide +kernel
theorem dX11_aDish_12 : decode cX11_aDish 12 = .ok (.iconst 1, 1) := by decide +kernel
theorem dX11_aDish_13 : decode cX11_aDish 13 = .ok (.bipush 99, 2) := by decide +kernel
theorem dX11_aDish_15 : decode cX11_aDish 15 = .ok (.invokevirtual 235, 3) := by decide +kernel
theorem dX11_aDish_18 : decode cX11_aDish 18 = .ok (.ifCond .ne 5, 3) := by decide +kernel
theorem dX11_aDish_21 : decode cX11_aDish 21 = .ok (.iconst 0, 1) := by decide +kernel
theorem dX11_aDish_22 : decode cX11_aDish 22 = .ok (.ireturn, 1) := by decide +kernel
theorem dX11_aDish_23 : decode cX11_aDish 23 = .ok (.iconst 0, 1) := by decide +kernel
theorem dX11_aDish_24 : decode cX11_aDish 24 = .ok (.istore_n 2, 1) := by decide +kernel
theorem dX11_aDish_25 : decode cX11_aDish 25 = .ok (.aload_n 0, 1) := by decide +kernel
theorem dX11_aDish_26 : decode cX11_aDish 26 = .ok (.getfield 160, 3) := by decide +kernel
theorem dX11_aDish_29 : decode cX11_aDish 29 = .ok (.iconst 2, 1) := by decide +kernel
theorem dX11_aDish_30 : decode cX11_aDish 30 = .ok (.if_icmp .ne 124, 3) := by decide +kernel
theorem dX11_aDish_33 : decode cX11_aDish 33 = .ok (.iconst 0, 1) := by decide +kernel
theorem dX11_aDish_34 : decode cX11_aDish 34 = .ok (.istore_n 3, 1) := by decide +kernel
theorem dX11_aDish_35 : decode cX11_aDish 35 = .ok (.iconst 0, 1) := by decide +kernel
theorem dX11_aDish_36 : decode cX11_aDish 36 = .ok (.istore 4, 2) := by decide +kernel
theorem dX11_aDish_38 : decode cX11_aDish 38 = .ok (.iload 4, 2) := by decide +kernel
theorem dX11_aDish_40 : decode cX11_aDish 40 = .ok (.iload_n 2, 1) := by decide +kernel
theorem dX11_aDish_41 : decode cX11_aDish 41 = .ok (.if_icmp .ge 39, 3) := by decide +kernel
theorem dX11_aDish_44 : decode cX11_aDish 44 = .ok (.iload_n 3, 1) := by decide +kernel
theorem dX11_aDish_45 : decode cX11_aDish 45 = .ok (.ifCond .ne 23, 3) := by decide +kernel
theorem dX11_aDish_48 : decode cX11_aDish 48 = .ok (.aload_n 0, 1) := by decide +kernel
theorem dX11_aDish_49 : decode cX11_aDish 49 = .ok (.getfield 28, 3) := by decide +kernel
theorem dX11_aDish_52 : decode cX11_aDish 52 = .ok (.iload_n 1, 1) := by decide +kernel
theorem dX11_aDish_53 : decode cX11_aDish 53 = .ok (.iconst 2, 1) := by decide +kernel
theorem dX11_aDish_54 : decode cX11_aDish 54 = .ok (.iadd, 1) := by decide +kernel
theorem dX11_aDish_55 : decode cX11_aDish 55 = .ok (.iconst 2, 1) := by decide +kernel
theorem dX11_aDish_56 : decode cX11_aDish 56 = .ok (.iload 4, 2) := by decide +kernel
theorem dX11_aDish_58 : decode cX11_aDish 58 = .ok (.imul, 1) := by decide +kernel
theorem dX11_aDish_59 : decode cX11_aDish 59 = .ok (.iadd, 1) := by decide +kernel
theorem dX11_aDish_60 : decode cX11_aDish 60 = .ok (.iaload, 1) := by decide +kernel
theorem dX11_aDish_61 : decode cX11_aDish 61 = .ok (.aload_n 0, 1) := by decide +kernel
theorem dX11_aDish_62 : decode cX11_aDish 62 = .ok (.getfield 173, 3) := by decide +kernel
theorem dX11_aDish_65 : decode cX11_aDish 65 = .ok (.if_icmp .ne 7, 3) := by decide +kernel
theorem dX11_aDish_68 : decode cX11_aDish 68 = .ok (.iconst 1, 1) := by decide +kernel
theorem dX11_aDish_69 : decode cX11_aDish 69 = .ok (.goto 4, 3) := by decide +kernel
theorem dX11_aDish_72 : decode cX11_aDish 72 = .ok (.iconst 0, 1) := by decide +kernel
theorem dX11_aDish_73 : decode cX11_aDish 73 = .ok (.istore_n 3, 1) := by decide +kernel
theorem dX11_aDish_74 : decode cX11_aDish 74 = .ok (.iinc 4 1, 3) := by decide +kernel
theorem dX11_aDish_77 : decode cX11_aDish 77 = .ok (.goto (-39), 3) := by decide +kernel
theorem dX11_aDish_80 : decode cX11_aDish 80 = .ok (.aload_n 0, 1) := by decide +kernel
theorem dX11_aDish_81 : decode cX11_aDish 81 = .ok (.aload_n 0, 1) := by decide +kernel
theorem dX11_aDish_82 : decode cX11_aDish 82 = .ok (.getfield 173, 3) := by decide +kernel
theorem dX11_aDish_85 : decode cX11_aDish 85 = .ok (.invokevirtual 239, 3) := by decide +kernel
theorem dX11_aDish_88 : decode cX11_aDish 88 = .ok (.ifCond .eq 7, 3) := by decide +kernel
theorem dX11_aDish_91 : decode cX11_aDish 91 = .ok (.iload_n 3, 1) := by decide +kernel
theorem dX11_aDish_92 : decode cX11_aDish 92 = .ok (.ifCond .eq 9, 3) := by decide +kernel
theorem dX11_aDish_95 : decode cX11_aDish 95 = .ok (.aload_n 0, 1) := by decide +kernel
theorem dX11_aDish_96 : decode cX11_aDish 96 = .ok (.iconst 2, 1) := by decide +kernel
theorem dX11_aDish_97 : decode cX11_aDish 97 = .ok (.invokevirtual 182, 3) := by decide +kernel
theorem dX11_aDish_100 : decode cX11_aDish 100 = .ok (.ireturn, 1) := by decide +kernel
theorem dX11_aDish_101 : decode cX11_aDish 101 = .ok (.iload_n 2, 1) := by decide +kernel
theorem dX11_aDish_102 : decode cX11_aDish 102 = .ok (.iconst 4, 1) := by decide +kernel
theorem dX11_aDish_103 : decode cX11_aDish 103 = .ok (.if_icmp .ne 9, 3) := by decide +kernel
theorem dX11_aDish_106 : decode cX11_aDish 106 = .ok (.aload_n 0, 1) := by decide +kernel
theorem dX11_aDish_107 : decode cX11_aDish 107 = .ok (.iconst 3, 1) := by decide +kernel
theorem dX11_aDish_108 : decode cX11_aDish 108 = .ok (.invokevirtual 182, 3) := by decide +kernel
theorem dX11_aDish_111 : decode cX11_aDish 111 = .ok (.ireturn, 1) := by decide +kernel
theorem dX11_aDish_112 : decode cX11_aDish 112 = .ok (.aload_n 0, 1) := by decide +kernel
theorem dX11_aDish_113 : decode cX11_aDish 113 = .ok (.iload_n 1, 1) := by decide +kernel
theorem dX11_aDish_114 : decode cX11_aDish 114 = .ok (.iconst 2, 1) := by decide +kernel
theorem dX11_aDish_115 : decode cX11_aDish 115 = .ok (.iadd, 1) := by decide +kernel
theorem dX11_aDish_116 : decode cX11_aDish 116 = .ok (.iconst 2, 1) := by decide +kernel
theorem dX11_aDish_117 : decode cX11_aDish 117 = .ok (.iload_n 2, 1) := by decide +kernel
theorem dX11_aDish_118 : decode cX11_aDish 118 = .ok (.imul, 1) := by decide +kernel
theorem dX11_aDish_119 : decode cX11_aDish 119 = .ok (.iadd, 1) := by decide +kernel
theorem dX11_aDish_120 : decode cX11_aDish 120 = .ok (.iconst 0, 1) := by decide +kernel
theorem dX11_aDish_121 : decode cX11_aDish 121 = .ok (.bipush 6, 2) := by decide +kernel
theorem dX11_aDish_123 : decode cX11_aDish 123 = .ok (.invokevirtual 229, 3) := by decide +kernel
theorem dX11_aDish_126 : decode cX11_aDish 126 = .ok (.ifCond .eq 20, 3) := by decide +kernel
theorem dX11_aDish_129 : decode cX11_aDish 129 = .ok (.aload_n 0, 1) := by decide +kernel
theorem dX11_aDish_130 : decode cX11_aDish 130 = .ok (.iload_n 1, 1) := by decide +kernel
theorem dX11_aDish_131 : decode cX11_aDish 131 = .ok (.iconst 3, 1) := by decide +kernel
theorem dX11_aDish_132 : decode cX11_aDish 132 = .ok (.iadd, 1) := by decide +kernel
theorem dX11_aDish_133 : decode cX11_aDish 133 = .ok (.iconst 2, 1) := by decide +kernel
theorem dX11_aDish_134 : decode cX11_aDish 134 = .ok (.iload_n 2, 1) := by decide +kernel
theorem dX11_aDish_135 : decode cX11_aDish 135 = .ok (.imul, 1) := by decide +kernel
theorem dX11_aDish_136 : decode cX11_aDish 136 = .ok (.iadd, 1) := by decide +kernel
theorem dX11_aDish_137 : decode cX11_aDish 137 = .ok (.iconst 1, 1) := by decide +kernel
theorem dX11_aDish_138 : decode cX11_aDish 138 = .ok (.bipush 99, 2) := by decide +kernel
theorem dX11_aDish_140 : decode cX11_aDish 140 = .ok (.invokevirtual 229, 3) := by decide +kernel
theorem dX11_aDish_143 : decode cX11_aDish 143 = .ok (.ifCond .ne 5, 3) := by decide +kernel
theorem dX11_aDish_146 : decode cX11_aDish 146 = .ok (.iconst 0, 1) := by decide +kernel
theorem dX11_aDish_147 : decode cX11_aDish 147 = .ok (.ireturn, 1) := by decide +kernel
theorem dX11_aDish_148 : decode cX11_aDish 148 = .ok (.iinc 2 1, 3) := by decide +kernel
theorem dX11_aDish_151 : decode cX11_aDish 151 = .ok (.goto (-126), 3) := by decide +kernel
theorem dX11_aDish_154 : decode cX11_aDish 154 = .ok (.aload_n 0, 1) := by decide +kernel
theorem dX11_aDish_155 : decode cX11_aDish 155 = .ok (.getfield 28, 3) := by decide +kernel
theorem dX11_aDish_158 : decode cX11_aDish 158 = .ok (.iload_n 1, 1) := by decide +kernel
theorem dX11_aDish_159 : decode cX11_aDish 159 = .ok (.iconst 1, 1) := by decide +kernel
theorem dX11_aDish_160 : decode cX11_aDish 160 = .ok (.iadd, 1) := by decide +kernel
theorem dX11_aDish_161 : decode cX11_aDish 161 = .ok (.iload_n 2, 1) := by decide +kernel
theorem dX11_aDish_162 : decode cX11_aDish 162 = .ok (.iastore, 1) := by decide +kernel
theorem dX11_aDish_163 : decode cX11_aDish 163 = .ok (.iconst 1, 1) := by decide +kernel
theorem dX11_aDish_164 : decode cX11_aDish 164 = .ok (.ireturn, 1) := by decide +kernel
theorem dX11_aRow_0 : decode cX11_aRow 0 = .ok (.aload_n 0, 1) := by decide +kernel
theorem dX11_aRow_1 : decode cX11_aRow 1 = .ok (.getfield 139, 3) := by decide +kernel
theorem dX11_aRow_4 : decode cX11_aRow 4 = .ok (.tableswitch 47 0 3 #[32, 47, 37, 42], 32) := by decide +kernel
theorem dX11_aRow_36 : decode cX11_aRow 36 = .ok (.aload_n 0, 1) := by decide +kernel
theorem dX11_aRow_37 : decode cX11_aRow 37 = .ok (.invokevirtual 242, 3) := by decide +kernel
theorem dX11_aRow_40 : decode cX11_aRow 40 = .ok (.ireturn, 1) := by decide +kernel
theorem dX11_aRow_41 : decode cX11_aRow 41 = .ok (.aload_n 0, 1) := by decide +kernel
theorem dX11_aRow_42 : decode cX11_aRow 42 = .ok (.invokevirtual 245, 3) := by decide +kernel
theorem dX11_aRow_45 : decode cX11_aRow 45 = .ok (.ireturn, 1) := by decide +kernel
theorem dX11_aRow_46 : decode cX11_aRow 46 = .ok (.aload_n 0, 1) := by decide +kernel
theorem dX11_aRow_47 : decode cX11_aRow 47 = .ok (.invokevirtual 248, 3) := by decide +kernel
theorem dX11_aRow_50 : decode cX11_aRow 50 = .ok (.ireturn, 1) := by decide +kernel
theorem dX11_aRow_51 : decode cX11_aRow 51 = .ok (.aload_n 0, 1) := by decide +kernel
theorem dX11_aRow_52 : decode cX11_aRow 52 = .ok (.invokevirtual 251, 3) := by decide +kernel
theorem dX11_aRow_55 : decode cX11_aRow 55 = .ok (.ireturn, 1) := by decide +kernel
theorem dX11_readsRows_0 : decode cX11_readsRows 0 = .ok (.aload_n 0, 1) := by decide +kernel
theorem dX11_readsRows_1 : decode cX11_readsRows 1 = .ok (.iconst 0, 1) := by decide +kernel
theorem dX11_readsRows_2 : decode cX11_readsRows 2 = .ok (.putfield 232, 3) := by decide +kernel
theorem dX11_readsRows_5 : decode cX11_readsRows 5 = .ok (.aload_n 0, 1) := by decide +kernel
theorem dX11_readsRows_6 : decode cX11_readsRows 6 = .ok (.getfield 139, 3) := by decide +kernel
theorem dX11_readsRows_9 : decode cX11_readsRows 9 = .ok (.ifCond .ne 8, 3) := by decide +kernel
theorem dX11_readsRows_12 : decode cX11_readsRows 12 = .ok (.bipush 7, 2) := by decide +kernel
theorem dX11_readsRows_14 : decode cX11_readsRows 14 = .ok (.goto 31, 3) := by decide +kernel
theorem dX11_readsRows_17 : decode cX11_readsRows 17 = .ok (.aload_n 0, 1) := by decide +kernel
theorem dX11_readsRows_18 : decode cX11_readsRows 18 = .ok (.getfield 139, 3) := by decide +kernel
theorem dX11_readsRows_21 : decode cX11_readsRows 21 = .ok (.iconst 2, 1) := by decide +kernel
theorem dX11_readsRows_22 : decode cX11_readsRows 22 = .ok (.if_icmp .ne 8, 3) := by decide +kernel
theorem dX11_readsRows_25 : decode cX11_readsRows 25 = .ok (.bipush 9, 2) := by decide +kernel
theorem dX11_readsRows_27 : decode cX11_readsRows 27 = .ok (.goto 18, 3) := by decide +kernel
theorem dX11_readsRows_30 : decode cX11_readsRows 30 = .ok (.aload_n 0, 1) := by decide +kernel
theorem dX11_readsRows_31 : decode cX11_readsRows 31 = .ok (.getfield 139, 3) := by decide +kernel
theorem dX11_readsRows_34 : decode cX11_readsRows 34 = .ok (.iconst 3, 1) := by decide +kernel
theorem dX11_readsRows_35 : decode cX11_readsRows 35 = .ok (.if_icmp .ne 8, 3) := by decide +kernel
theorem dX11_readsRows_38 : decode cX11_readsRows 38 = .ok (.bipush 12, 2) := by decide +kernel
theorem dX11_readsRows_40 : decode cX11_readsRows 40 = .ok (.goto 5, 3) := by decide +kernel
theorem dX11_readsRows_43 : decode cX11_readsRows 43 = .ok (.bipush 15, 2) := by decide +kernel
theorem dX11_readsRows_45 : decode cX11_readsRows 45 = .ok (.istore_n 1, 1) := by decide +kernel
theorem dX11_readsRows_46 : decode cX11_readsRows 46 = .ok (.iconst 1, 1) := by decide +kernel
theorem dX11_readsRows_47 : decode cX11_readsRows 47 = .ok (.istore_n 2, 1) := by decide +kernel
theorem dX11_readsRows_48 : decode cX11_readsRows 48 = .ok (.iload_n 2, 1) := by decide +kernel
theorem dX11_readsRows_49 : decode cX11_readsRows 49 = .ok (.ifCond .eq 95, 3) := by decide +kernel
theorem dX11_readsRows_52 : decode cX11_readsRows 52 = .ok (.aload_n 0, 1) := by decide +kernel
theorem dX11_readsRows_53 : decode cX11_readsRows 53 = .ok (.getfield 160, 3) := by decide +kernel
theorem dX11_readsRows_56 : decode cX11_readsRows 56 = .ok (.ifCond .eq 88, 3) := by decide +kernel
theorem dX11_readsRows_59 : decode cX11_readsRows 59 = .ok (.aload_n 0, 1) := by decide +kernel
theorem dX11_readsRows_60 : decode cX11_readsRows 60 = .ok (.getfield 160, 3) := by decide +kernel
theorem dX11_readsRows_63 : decode cX11_readsRows 63 = .ok (.iload_n 1, 1) := by decide +kernel
theorem dX11_readsRows_64 : decode cX11_readsRows 64 = .ok (.if_icmp .eq 9, 3) := by decide +kernel
theorem dX11_readsRows_67 : decode cX11_readsRows 67 = .ok (.aload_n 0, 1) := by decide +kernel
theorem dX11_readsRows_68 : decode cX11_readsRows 68 = .ok (.iconst 1, 1) := by decide +kernel
theorem dX11_readsRows_69 : decode cX11_readsRows 69 = .ok (.invokevirtual 182, 3) := by decide +kernel
theorem dX11_readsRows_72 : decode cX11_readsRows 72 = .ok (.ireturn, 1) := by decide +kernel
theorem dX11_readsRows_73 : decode cX11_readsRows 73 = .ok (.aload_n 0, 1) := by decide +kernel
theorem dX11_readsRows_74 : decode cX11_readsRows 74 = .ok (.getfield 232, 3) := by decide +kernel
theorem dX11_readsRows_77 : decode cX11_readsRows 77 = .ok (.aload_n 0, 1) := by decide +kernel
theorem dX11_readsRows_78 : decode cX11_readsRows 78 = .ok (.getfield 139, 3) := by decide +kernel
theorem dX11_readsRows_81 : decode cX11_readsRows 81 = .ok (.ifCond .ne 8, 3) := by decide +kernel
theorem dX11_readsRows_84 : decode cX11_readsRows 84 = .ok (.bipush 6, 2) := by decide +kernel
theorem dX11_readsRows_86 : decode cX11_readsRows 86 = .ok (.goto 5, 3) := by decide +kernel
theorem dX11_readsRows_89 : decode cX11_readsRows 89 = .ok (.bipush 12, 2) := by decide +kernel
theorem dX11_readsRows_91 : decode cX11_readsRows 91 = .ok (.if_icmp .ne 9, 3) := by decide +kernel
theorem dX11_readsRows_94 : decode cX11_readsRows 94 = .ok (.aload_n 0, 1) := by decide +kernel
theorem dX11_readsRows_95 : decode cX11_readsRows 95 = .ok (.iconst 3, 1) := by decide +kernel
theorem dX11_readsRows_96 : decode cX11_readsRows 96 = .ok (.invokevirtual 182, 3) := by decide +kernel
theorem dX11_readsRows_99 : decode cX11_readsRows 99 = .ok (.ireturn, 1) := by decide +kernel
theorem dX11_readsRows_100 : decode cX11_readsRows 100 = .ok (.aload_n 0, 1) := by decide +kernel
theorem dX11_readsRows_101 : decode cX11_readsRows 101 = .ok (.invokevirtual 254, 3) := by decide +kernel
theorem dX11_readsRows_104 : decode cX11_readsRows 104 = .ok (.ifCond .eq 17, 3) := by decide +kernel
theorem dX11_readsRows_107 : decode cX11_readsRows 107 = .ok (.aload_n 0, 1) := by decide +kernel
theorem dX11_readsRows_108 : decode cX11_readsRows 108 = .ok (.sipush 159, 3) := by decide +kernel
theorem dX11_readsRows_111 : decode cX11_readsRows 111 = .ok (.invokevirtual 217, 3) := by decide +kernel
theorem dX11_readsRows_114 : decode cX11_readsRows 114 = .ok (.ifCond .eq 7, 3) := by decide +kernel
theorem dX11_readsRows_117 : decode cX11_readsRows 117 = .ok (.iconst 1, 1) := by decide +kernel
theorem dX11_readsRows_118 : decode cX11_readsRows 118 = .ok (.goto 4, 3) := by decide +kernel
theorem dX11_readsRows_121 : decode cX11_readsRows 121 = .ok (.iconst 0, 1) := by decide +kernel
theorem dX11_readsRows_122 : decode cX11_readsRows 122 = .ok (.istore_n 2, 1) := by decide +kernel
theorem dX11_readsRows_123 : decode cX11_readsRows 123 = .ok (.aload_n 0, 1) := by decide +kernel
theorem dX11_readsRows_124 : decode cX11_readsRows 124 = .ok (.dup, 1) := by decide +kernel
theorem dX11_readsRows_125 : decode cX11_readsRows 125 = .ok (.getfield 232, 3) := by decide +kernel
theorem dX11_readsRows_128 : decode cX11_readsRows 128 = .ok (.iload_n 2, 1) := by decide +kernel
theorem dX11_readsRows_129 : decode cX11_readsRows 129 = .ok (.ifCond .eq 7, 3) := by decide +kernel
theorem dX11_readsRows_132 : decode cX11_readsRows 132 = .ok (.iconst 1, 1) := by decide +kernel
theorem dX11_readsRows_133 : decode cX11_readsRows 133 = .ok (.goto 4, 3) := by decide +kernel
theorem dX11_readsRows_136 : decode cX11_readsRows 136 = .ok (.iconst 0, 1) := by decide +kernel
theorem dX11_readsRows_137 : decode cX11_readsRows 137 = .ok (.iadd, 1) := by decide +kernel
theorem dX11_readsRows_138 : decode cX11_readsRows 138 = .ok (.putfield 232, 3) := by decide +kernel
theorem dX11_readsRows_141 : decode cX11_readsRows 141 = .ok (.goto (-93), 3) := by decide +kernel
theorem dX11_readsRows_144 : decode cX11_readsRows 144 = .ok (.iload_n 2, 1) := by decide +kernel
theorem dX11_readsRows_145 : decode cX11_readsRows 145 = .ok (.ireturn, 1) := by decide +kernel
theorem dX11_putsLaw_0 : decode cX11_putsLaw 0 = .ok (.aload_n 0, 1) := by decide +kernel
theorem dX11_putsLaw_1 : decode cX11_putsLaw 1 = .ok (.getfield 7, 3) := by decide +kernel
theorem dX11_putsLaw_4 : decode cX11_putsLaw 4 = .ok (.bipush 83, 2) := by decide +kernel
theorem dX11_putsLaw_6 : decode cX11_putsLaw 6 = .ok (.aload_n 0, 1) := by decide +kernel
theorem dX11_putsLaw_7 : decode cX11_putsLaw 7 = .ok (.getfield 223, 3) := by decide +kernel
theorem dX11_putsLaw_10 : decode cX11_putsLaw 10 = .ok (.iastore, 1) := by decide +kernel
theorem dX11_putsLaw_11 : decode cX11_putsLaw 11 = .ok (.iconst 0, 1) := by decide +kernel
theorem dX11_putsLaw_12 : decode cX11_putsLaw 12 = .ok (.istore_n 1, 1) := by decide +kernel
theorem dX11_putsLaw_13 : decode cX11_putsLaw 13 = .ok (.iload_n 1, 1) := by decide +kernel
theorem dX11_putsLaw_14 : decode cX11_putsLaw 14 = .ok (.aload_n 0, 1) := by decide +kernel
theorem dX11_putsLaw_15 : decode cX11_putsLaw 15 = .ok (.getfield 223, 3) := by decide +kernel
theorem dX11_putsLaw_18 : decode cX11_putsLaw 18 = .ok (.if_icmp .ge 87, 3) := by decide +kernel
theorem dX11_putsLaw_21 : decode cX11_putsLaw 21 = .ok (.aload_n 0, 1) := by decide +kernel
theorem dX11_putsLaw_22 : decode cX11_putsLaw 22 = .ok (.getfield 7, 3) := by decide +kernel
theorem dX11_putsLaw_25 : decode cX11_putsLaw 25 = .ok (.sipush 970, 3) := by decide +kernel
theorem dX11_putsLaw_28 : decode cX11_putsLaw 28 = .ok (.iload_n 1, 1) := by decide +kernel
theorem dX11_putsLaw_29 : decode cX11_putsLaw 29 = .ok (.iadd, 1) := by decide +kernel
theorem dX11_putsLaw_30 : decode cX11_putsLaw 30 = .ok (.aload_n 0, 1) := by decide +kernel
theorem dX11_putsLaw_31 : decode cX11_putsLaw 31 = .ok (.getfield 22, 3) := by decide +kernel
theorem dX11_putsLaw_34 : decode cX11_putsLaw 34 = .ok (.iconst 4, 1) := by decide +kernel
theorem dX11_putsLaw_35 : decode cX11_putsLaw 35 = .ok (.iload_n 1, 1) := by decide +kernel
theorem dX11_putsLaw_36 : decode cX11_putsLaw 36 = .ok (.imul, 1) := by decide +kernel
theorem dX11_putsLaw_37 : decode cX11_putsLaw 37 = .ok (.iaload, 1) := by decide +kernel
theorem dX11_putsLaw_38 : decode cX11_putsLaw 38 = .ok (.iastore, 1) := by decide +kernel
theorem dX11_putsLaw_39 : decode cX11_putsLaw 39 = .ok (.aload_n 0, 1) := by decide +kernel
theorem dX11_putsLaw_40 : decode cX11_putsLaw 40 = .ok (.getfield 7, 3) := by decide +kernel
theorem dX11_putsLaw_43 : decode cX11_putsLaw 43 = .ok (.sipush 986, 3) := by decide +kernel
theorem dX11_putsLaw_46 : decode cX11_putsLaw 46 = .ok (.iload_n 1, 1) := by decide +kernel
theorem dX11_putsLaw_47 : decode cX11_putsLaw 47 = .ok (.iadd, 1) := by decide +kernel
theorem dX11_putsLaw_48 : decode cX11_putsLaw 48 = .ok (.aload_n 0, 1) := by decide +kernel
theorem dX11_putsLaw_49 : decode cX11_putsLaw 49 = .ok (.getfield 22, 3) := by decide +kernel
theorem dX11_putsLaw_52 : decode cX11_putsLaw 52 = .ok (.iconst 4, 1) := by decide +kernel
theorem dX11_putsLaw_53 : decode cX11_putsLaw 53 = .ok (.iload_n 1, 1) := by decide +kernel
theorem dX11_putsLaw_54 : decode cX11_putsLaw 54 = .ok (.imul, 1) := by decide +kernel
theorem dX11_putsLaw_55 : decode cX11_putsLaw 55 = .ok (.iconst 1, 1) := by decide +kernel
theorem dX11_putsLaw_56 : decode cX11_putsLaw 56 = .ok (.iadd, 1) := by decide +kernel
theorem dX11_putsLaw_57 : decode cX11_putsLaw 57 = .ok (.iaload, 1) := by decide +kernel
theorem dX11_putsLaw_58 : decode cX11_putsLaw 58 = .ok (.iastore, 1) := by decide +kernel
theorem dX11_putsLaw_59 : decode cX11_putsLaw 59 = .ok (.aload_n 0, 1) := by decide +kernel
theorem dX11_putsLaw_60 : decode cX11_putsLaw 60 = .ok (.getfield 7, 3) := by decide +kernel
theorem dX11_putsLaw_63 : decode cX11_putsLaw 63 = .ok (.sipush 1002, 3) := by decide +kernel
theorem dX11_putsLaw_66 : decode cX11_putsLaw 66 = .ok (.iload_n 1, 1) := by decide +kernel
theorem dX11_putsLaw_67 : decode cX11_putsLaw 67 = .ok (.iadd, 1) := by decide +kernel
theorem dX11_putsLaw_68 : decode cX11_putsLaw 68 = .ok (.aload_n 0, 1) := by decide +kernel
theorem dX11_putsLaw_69 : decode cX11_putsLaw 69 = .ok (.getfield 22, 3) := by decide +kernel
theorem dX11_putsLaw_72 : decode cX11_putsLaw 72 = .ok (.iconst 4, 1) := by decide +kernel
theorem dX11_putsLaw_73 : decode cX11_putsLaw 73 = .ok (.iload_n 1, 1) := by decide +kernel
theorem dX11_putsLaw_74 : decode cX11_putsLaw 74 = .ok (.imul, 1) := by decide +kernel
theorem dX11_putsLaw_75 : decode cX11_putsLaw 75 = .ok (.iconst 2, 1) := by decide +kernel
theorem dX11_putsLaw_76 : decode cX11_putsLaw 76 = .ok (.iadd, 1) := by decide +kernel
theorem dX11_putsLaw_77 : decode cX11_putsLaw 77 = .ok (.iaload, 1) := by decide +kernel
theorem dX11_putsLaw_78 : decode cX11_putsLaw 78 = .ok (.iastore, 1) := by decide +kernel
theorem dX11_putsLaw_79 : decode cX11_putsLaw 79 = .ok (.aload_n 0, 1) := by decide +kernel
theorem dX11_putsLaw_80 : decode cX11_putsLaw 80 = .ok (.getfield 7, 3) := by decide +kernel
theorem dX11_putsLaw_83 : decode cX11_putsLaw 83 = .ok (.sipush 1018, 3) := by decide +kernel
theorem dX11_putsLaw_86 : decode cX11_putsLaw 86 = .ok (.iload_n 1, 1) := by decide +kernel
theorem dX11_putsLaw_87 : decode cX11_putsLaw 87 = .ok (.iadd, 1) := by decide +kernel
theorem dX11_putsLaw_88 : decode cX11_putsLaw 88 = .ok (.aload_n 0, 1) := by decide +kernel
theorem dX11_putsLaw_89 : decode cX11_putsLaw 89 = .ok (.getfield 22, 3) := by decide +kernel
theorem dX11_putsLaw_92 : decode cX11_putsLaw 92 = .ok (.iconst 4, 1) := by decide +kernel
theorem dX11_putsLaw_93 : decode cX11_putsLaw 93 = .ok (.iload_n 1, 1) := by decide +kernel
theorem dX11_putsLaw_94 : decode cX11_putsLaw 94 = .ok (.imul, 1) := by decide +kernel
theorem dX11_putsLaw_95 : decode cX11_putsLaw 95 = .ok (.iconst 3, 1) := by decide +kernel
theorem dX11_putsLaw_96 : decode cX11_putsLaw 96 = .ok (.iadd, 1) := by decide +kernel
theorem dX11_putsLaw_97 : decode cX11_putsLaw 97 = .ok (.iaload, 1) := by decide +kernel
theorem dX11_putsLaw_98 : decode cX11_putsLaw 98 = .ok (.iastore, 1) := by decide +kernel
theorem dX11_putsLaw_99 : decode cX11_putsLaw 99 = .ok (.iinc 1 1, 3) := by decide +kernel
theorem dX11_putsLaw_102 : decode cX11_putsLaw 102 = .ok (.goto (-89), 3) := by decide +kernel
theorem dX11_putsLaw_105 : decode cX11_putsLaw 105 = .ok (.iconst 0, 1) := by decide +kernel
theorem dX11_putsLaw_106 : decode cX11_putsLaw 106 = .ok (.istore_n 1, 1) := by decide +kernel
theorem dX11_putsLaw_107 : decode cX11_putsLaw 107 = .ok (.iload_n 1, 1) := by decide +kernel
theorem dX11_putsLaw_108 : decode cX11_putsLaw 108 = .ok (.iconst 2, 1) := by decide +kernel
theorem dX11_putsLaw_109 : decode cX11_putsLaw 109 = .ok (.aload_n 0, 1) := by decide +kernel
theorem dX11_putsLaw_110 : decode cX11_putsLaw 110 = .ok (.getfield 188, 3) := by decide +kernel
theorem dX11_putsLaw_113 : decode cX11_putsLaw 113 = .ok (.imul, 1) := by decide +kernel
theorem dX11_putsLaw_114 : decode cX11_putsLaw 114 = .ok (.if_icmp .ge 25, 3) := by decide +kernel
theorem dX11_putsLaw_117 : decode cX11_putsLaw 117 = .ok (.aload_n 0, 1) := by decide +kernel
theorem dX11_putsLaw_118 : decode cX11_putsLaw 118 = .ok (.getfield 7, 3) := by decide +kernel
theorem dX11_putsLaw_121 : decode cX11_putsLaw 121 = .ok (.sipush 1036, 3) := by decide +kernel
theorem dX11_putsLaw_124 : decode cX11_putsLaw 124 = .ok (.iload_n 1, 1) := by decide +kernel
theorem dX11_putsLaw_125 : decode cX11_putsLaw 125 = .ok (.iadd, 1) := by decide +kernel
theorem dX11_putsLaw_126 : decode cX11_putsLaw 126 = .ok (.aload_n 0, 1) := by decide +kernel
theorem dX11_putsLaw_127 : decode cX11_putsLaw 127 = .ok (.getfield 25, 3) := by decide +kernel
theorem dX11_putsLaw_130 : decode cX11_putsLaw 130 = .ok (.iload_n 1, 1) := by decide +kernel
theorem dX11_putsLaw_131 : decode cX11_putsLaw 131 = .ok (.iaload, 1) := by decide +kernel
theorem dX11_putsLaw_132 : decode cX11_putsLaw 132 = .ok (.iastore, 1) := by decide +kernel
theorem dX11_putsLaw_133 : decode cX11_putsLaw 133 = .ok (.iinc 1 1, 3) := by decide +kernel
theorem dX11_putsLaw_136 : decode cX11_putsLaw 136 = .ok (.goto (-29), 3) := by decide +kernel
theorem dX11_putsLaw_139 : decode cX11_putsLaw 139 = .ok (.aload_n 0, 1) := by decide +kernel
theorem dX11_putsLaw_140 : decode cX11_putsLaw 140 = .ok (.getfield 223, 3) := by decide +kernel
theorem dX11_putsLaw_143 : decode cX11_putsLaw 143 = .ok (.ireturn, 1) := by decide +kernel
theorem dX11_puts_0 : decode cX11_puts 0 = .ok (.aload_n 0, 1) := by decide +kernel
theorem dX11_puts_1 : decode cX11_puts 1 = .ok (.getfield 7, 3) := by decide +kernel
theorem dX11_puts_4 : decode cX11_puts 4 = .ok (.iload_n 1, 1) := by decide +kernel
theorem dX11_puts_5 : decode cX11_puts 5 = .ok (.aload_n 0, 1) := by decide +kernel
theorem dX11_puts_6 : decode cX11_puts 6 = .ok (.getfield 232, 3) := by decide +kernel
theorem dX11_puts_9 : decode cX11_puts 9 = .ok (.iastore, 1) := by decide +kernel
theorem dX11_puts_10 : decode cX11_puts 10 = .ok (.iconst 0, 1) := by decide +kernel
theorem dX11_puts_11 : decode cX11_puts 11 = .ok (.istore 4, 2) := by decide +kernel
theorem dX11_puts_13 : decode cX11_puts 13 = .ok (.iload 4, 2) := by decide +kernel
theorem dX11_puts_15 : decode cX11_puts 15 = .ok (.iload_n 3, 1) := by decide +kernel
theorem dX11_puts_16 : decode cX11_puts 16 = .ok (.aload_n 0, 1) := by decide +kernel
theorem dX11_puts_17 : decode cX11_puts 17 = .ok (.getfield 232, 3) := by decide +kernel
theorem dX11_puts_20 : decode cX11_puts 20 = .ok (.imul, 1) := by decide +kernel
theorem dX11_puts_21 : decode cX11_puts 21 = .ok (.if_icmp .ge 25, 3) := by decide +kernel
theorem dX11_puts_24 : decode cX11_puts 24 = .ok (.aload_n 0, 1) := by decide +kernel
theorem dX11_puts_25 : decode cX11_puts 25 = .ok (.getfield 7, 3) := by decide +kernel
theorem dX11_puts_28 : decode cX11_puts 28 = .ok (.iload_n 2, 1) := by decide +kernel
theorem dX11_puts_29 : decode cX11_puts 29 = .ok (.iload 4, 2) := by decide +kernel
theorem dX11_puts_31 : decode cX11_puts 31 = .ok (.iadd, 1) := by decide +kernel
theorem dX11_puts_32 : decode cX11_puts 32 = .ok (.aload_n 0, 1) := by decide +kernel
theorem dX11_puts_33 : decode cX11_puts 33 = .ok (.getfield 28, 3) := by decide +kernel
theorem dX11_puts_36 : decode cX11_puts 36 = .ok (.iload 4, 2) := by decide +kernel
theorem dX11_puts_38 : decode cX11_puts 38 = .ok (.iaload, 1) := by decide +kernel
theorem dX11_puts_39 : decode cX11_puts 39 = .ok (.iastore, 1) := by decide +kernel
theorem dX11_puts_40 : decode cX11_puts 40 = .ok (.iinc 4 1, 3) := by decide +kernel
theorem dX11_puts_43 : decode cX11_puts 43 = .ok (.goto (-30), 3) := by decide +kernel
theorem dX11_puts_46 : decode cX11_puts 46 = .ok (.aload_n 0, 1) := by decide +kernel
theorem dX11_puts_47 : decode cX11_puts 47 = .ok (.getfield 232, 3) := by decide +kernel
theorem dX11_puts_50 : decode cX11_puts 50 = .ok (.ireturn, 1) := by decide +kernel
theorem dX11_putsKinds_0 : decode cX11_putsKinds 0 = .ok (.aload_n 0, 1) := by decide +kernel
theorem dX11_putsKinds_1 : decode cX11_putsKinds 1 = .ok (.getfield 7, 3) := by decide +kernel
theorem dX11_putsKinds_4 : decode cX11_putsKinds 4 = .ok (.bipush 7, 2) := by decide +kernel
theorem dX11_putsKinds_6 : decode cX11_putsKinds 6 = .ok (.iconst 0, 1) := by decide +kernel
theorem dX11_putsKinds_7 : decode cX11_putsKinds 7 = .ok (.iastore, 1) := by decide +kernel
theorem dX11_putsKinds_8 : decode cX11_putsKinds 8 = .ok (.aload_n 0, 1) := by decide +kernel
theorem dX11_putsKinds_9 : decode cX11_putsKinds 9 = .ok (.getfield 7, 3) := by decide +kernel
theorem dX11_putsKinds_12 : decode cX11_putsKinds 12 = .ok (.bipush 84, 2) := by decide +kernel
theorem dX11_putsKinds_14 : decode cX11_putsKinds 14 = .ok (.iconst 0, 1) := by decide +kernel
theorem dX11_putsKinds_15 : decode cX11_putsKinds 15 = .ok (.iastore, 1) := by decide +kernel
theorem dX11_putsKinds_16 : decode cX11_putsKinds 16 = .ok (.aload_n 0, 1) := by decide +kernel
theorem dX11_putsKinds_17 : decode cX11_putsKinds 17 = .ok (.getfield 7, 3) := by decide +kernel
theorem dX11_putsKinds_20 : decode cX11_putsKinds 20 = .ok (.bipush 85, 2) := by decide +kernel
theorem dX11_putsKinds_22 : decode cX11_putsKinds 22 = .ok (.iconst 0, 1) := by decide +kernel
theorem dX11_putsKinds_23 : decode cX11_putsKinds 23 = .ok (.iastore, 1) := by decide +kernel
theorem dX11_putsKinds_24 : decode cX11_putsKinds 24 = .ok (.aload_n 0, 1) := by decide +kernel
theorem dX11_putsKinds_25 : decode cX11_putsKinds 25 = .ok (.getfield 7, 3) := by decide +kernel
theorem dX11_putsKinds_28 : decode cX11_putsKinds 28 = .ok (.bipush 86, 2) := by decide +kernel
theorem dX11_putsKinds_30 : decode cX11_putsKinds 30 = .ok (.iconst 0, 1) := by decide +kernel
theorem dX11_putsKinds_31 : decode cX11_putsKinds 31 = .ok (.iastore, 1) := by decide +kernel
theorem dX11_putsKinds_32 : decode cX11_putsKinds 32 = .ok (.aload_n 0, 1) := by decide +kernel
theorem dX11_putsKinds_33 : decode cX11_putsKinds 33 = .ok (.getfield 7, 3) := by decide +kernel
theorem dX11_putsKinds_36 : decode cX11_putsKinds 36 = .ok (.bipush 6, 2) := by decide +kernel
theorem dX11_putsKinds_38 : decode cX11_putsKinds 38 = .ok (.iconst 0, 1) := by decide +kernel
theorem dX11_putsKinds_39 : decode cX11_putsKinds 39 = .ok (.iastore, 1) := by decide +kernel
theorem dX11_putsKinds_40 : decode cX11_putsKinds 40 = .ok (.aload_n 0, 1) := by decide +kernel
theorem dX11_putsKinds_41 : decode cX11_putsKinds 41 = .ok (.bipush 80, 2) := by decide +kernel
theorem dX11_putsKinds_43 : decode cX11_putsKinds 43 = .ok (.bipush 91, 2) := by decide +kernel
theorem dX11_putsKinds_45 : decode cX11_putsKinds 45 = .ok (.iconst 2, 1) := by decide +kernel
theorem dX11_putsKinds_46 : decode cX11_putsKinds 46 = .ok (.invokevirtual 257, 3) := by decide +kernel
theorem dX11_putsKinds_49 : decode cX11_putsKinds 49 = .ok (.ireturn, 1) := by decide +kernel
theorem dX11_putsText_0 : decode cX11_putsText 0 = .ok (.iload_n 1, 1) := by decide +kernel
theorem dX11_putsText_1 : decode cX11_putsText 1 = .ok (.iconst 1, 1) := by decide +kernel
theorem dX11_putsText_2 : decode cX11_putsText 2 = .ok (.if_icmp .ne 8, 3) := by decide +kernel
theorem dX11_putsText_5 : decode cX11_putsText 5 = .ok (.aload_n 0, 1) := by decide +kernel
theorem dX11_putsText_6 : decode cX11_putsText 6 = .ok (.invokevirtual 261, 3) := by decide +kernel
theorem dX11_putsText_9 : decode cX11_putsText 9 = .ok (.ireturn, 1) := by decide +kernel
theorem dX11_putsText_10 : decode cX11_putsText 10 = .ok (.iload_n 1, 1) := by decide +kernel
theorem dX11_putsText_11 : decode cX11_putsText 11 = .ok (.iconst 4, 1) := by decide +kernel
theorem dX11_putsText_12 : decode cX11_putsText 12 = .ok (.if_icmp .ne 15, 3) := by decide +kernel
theorem dX11_putsText_15 : decode cX11_putsText 15 = .ok (.aload_n 0, 1) := by decide +kernel
theorem dX11_putsText_16 : decode cX11_putsText 16 = .ok (.bipush 86, 2) := by decide +kernel
theorem dX11_putsText_18 : decode cX11_putsText 18 = .ok (.sipush 187, 3) := by decide +kernel
theorem dX11_putsText_21 : decode cX11_putsText 21 = .ok (.bipush 10, 2) := by decide +kernel
theorem dX11_putsText_23 : decode cX11_putsText 23 = .ok (.invokevirtual 257, 3) := by decide +kernel
theorem dX11_putsText_26 : decode cX11_putsText 26 = .ok (.ireturn, 1) := by decide +kernel
theorem dX11_putsText_27 : decode cX11_putsText 27 = .ok (.aload_n 0, 1) := by decide +kernel
theorem dX11_putsText_28 : decode cX11_putsText 28 = .ok (.invokevirtual 64, 3) := by decide +kernel
theorem dX11_putsText_31 : decode cX11_putsText 31 = .ok (.iload_n 1, 1) := by decide +kernel
theorem dX11_putsText_32 : decode cX11_putsText 32 = .ok (.ifCond .ne 8, 3) := by decide +kernel
theorem dX11_putsText_35 : decode cX11_putsText 35 = .ok (.aload_n 0, 1) := by decide +kernel
theorem dX11_putsText_36 : decode cX11_putsText 36 = .ok (.invokevirtual 264, 3) := by decide +kernel
theorem dX11_putsText_39 : decode cX11_putsText 39 = .ok (.ireturn, 1) := by decide +kernel
theorem dX11_putsText_40 : decode cX11_putsText 40 = .ok (.iload_n 1, 1) := by decide +kernel
theorem dX11_putsText_41 : decode cX11_putsText 41 = .ok (.iconst 2, 1) := by decide +kernel
theorem dX11_putsText_42 : decode cX11_putsText 42 = .ok (.if_icmp .ne 13, 3) := by decide +kernel
theorem dX11_putsText_45 : decode cX11_putsText 45 = .ok (.aload_n 0, 1) := by decide +kernel
theorem dX11_putsText_46 : decode cX11_putsText 46 = .ok (.bipush 84, 2) := by decide +kernel
theorem dX11_putsText_48 : decode cX11_putsText 48 = .ok (.bipush 103, 2) := by decide +kernel
theorem dX11_putsText_50 : decode cX11_putsText 50 = .ok (.iconst 3, 1) := by decide +kernel
theorem dX11_putsText_51 : decode cX11_putsText 51 = .ok (.invokevirtual 257, 3) := by decide +kernel
theorem dX11_putsText_54 : decode cX11_putsText 54 = .ok (.ireturn, 1) := by decide +kernel
theorem dX11_putsText_55 : decode cX11_putsText 55 = .ok (.aload_n 0, 1) := by decide +kernel
theorem dX11_putsText_56 : decode cX11_putsText 56 = .ok (.getfield 7, 3) := by decide +kernel
theorem dX11_putsText_59 : decode cX11_putsText 59 = .ok (.bipush 6, 2) := by decide +kernel
theorem dX11_putsText_61 : decode cX11_putsText 61 = .ok (.iconst 0, 1) := by decide +kernel
theorem dX11_putsText_62 : decode cX11_putsText 62 = .ok (.iastore, 1) := by decide +kernel
theorem dX11_putsText_63 : decode cX11_putsText 63 = .ok (.aload_n 0, 1) := by decide +kernel
theorem dX11_putsText_64 : decode cX11_putsText 64 = .ok (.bipush 85, 2) := by decide +kernel
theorem dX11_putsText_66 : decode cX11_putsText 66 = .ok (.sipush 139, 3) := by decide +kernel
theorem dX11_putsText_69 : decode cX11_putsText 69 = .ok (.iconst 4, 1) := by decide +kernel
theorem dX11_putsText_70 : decode cX11_putsText 70 = .ok (.invokevirtual 257, 3) := by decide +kernel
theorem dX11_putsText_73 : decode cX11_putsText 73 = .ok (.ireturn, 1) := by decide +kernel
theorem dX11_text_0 : decode cX11_text 0 = .ok (.aload_n 0, 1) := by decide +kernel
theorem dX11_text_1 : decode cX11_text 1 = .ok (.iconst 0, 1) := by decide +kernel
theorem dX11_text_2 : decode cX11_text 2 = .ok (.putfield 267, 3) := by decide +kernel
theorem dX11_text_5 : decode cX11_text 5 = .ok (.aload_n 0, 1) := by decide +kernel
theorem dX11_text_6 : decode cX11_text 6 = .ok (.iconst (-1), 1) := by decide +kernel
theorem dX11_text_7 : decode cX11_text 7 = .ok (.putfield 40, 3) := by decide +kernel
theorem dX11_text_10 : decode cX11_text 10 = .ok (.iload_n 1, 1) := by decide +kernel
theorem dX11_text_11 : decode cX11_text 11 = .ok (.iconst 0, 1) := by decide +kernel
theorem dX11_text_12 : decode cX11_text 12 = .ok (.iconst 4, 1) := by decide +kernel
theorem dX11_text_13 : decode cX11_text 13 = .ok (.invokestatic 53, 3) := by decide +kernel
theorem dX11_text_16 : decode cX11_text 16 = .ok (.ifCond .ne 10, 3) := by decide +kernel
theorem dX11_text_19 : decode cX11_text 19 = .ok (.aload_n 0, 1) := by decide +kernel
theorem dX11_text_20 : decode cX11_text 20 = .ok (.iconst 0, 1) := by decide +kernel
theorem dX11_text_21 : decode cX11_text 21 = .ok (.putfield 69, 3) := by decide +kernel
theorem dX11_text_24 : decode cX11_text 24 = .ok (.iconst (-1), 1) := by decide +kernel
theorem dX11_text_25 : decode cX11_text 25 = .ok (.ireturn, 1) := by decide +kernel
theorem dX11_text_26 : decode cX11_text 26 = .ok (.aload_n 0, 1) := by decide +kernel
theorem dX11_text_27 : decode cX11_text 27 = .ok (.iconst 0, 1) := by decide +kernel
theorem dX11_text_28 : decode cX11_text 28 = .ok (.putfield 176, 3) := by decide +kernel
theorem dX11_text_31 : decode cX11_text 31 = .ok (.aload_n 0, 1) := by decide +kernel
theorem dX11_text_32 : decode cX11_text 32 = .ok (.iconst 0, 1) := by decide +kernel
theorem dX11_text_33 : decode cX11_text 33 = .ok (.putfield 72, 3) := by decide +kernel
theorem dX11_text_36 : decode cX11_text 36 = .ok (.aload_n 0, 1) := by decide +kernel
theorem dX11_text_37 : decode cX11_text 37 = .ok (.iload_n 1, 1) := by decide +kernel
theorem dX11_text_38 : decode cX11_text 38 = .ok (.putfield 139, 3) := by decide +kernel
theorem dX11_text_41 : decode cX11_text 41 = .ok (.aload_n 0, 1) := by decide +kernel
theorem dX11_text_42 : decode cX11_text 42 = .ok (.invokevirtual 185, 3) := by decide +kernel
theorem dX11_text_45 : decode cX11_text 45 = .ok (.iload_n 1, 1) := by decide +kernel
theorem dX11_text_46 : decode cX11_text 46 = .ok (.iconst 1, 1) := by decide +kernel
theorem dX11_text_47 : decode cX11_text 47 = .ok (.if_icmp .ne 10, 3) := by decide +kernel
theorem dX11_text_50 : decode cX11_text 50 = .ok (.aload_n 0, 1) := by decide +kernel
theorem dX11_text_51 : decode cX11_text 51 = .ok (.invokevirtual 270, 3) := by decide +kernel
theorem dX11_text_54 : decode cX11_text 54 = .ok (.goto 7, 3) := by decide +kernel
theorem dX11_text_57 : decode cX11_text 57 = .ok (.aload_n 0, 1) := by decide +kernel
theorem dX11_text_58 : decode cX11_text 58 = .ok (.invokevirtual 273, 3) := by decide +kernel
theorem dX11_text_61 : decode cX11_text 61 = .ok (.istore_n 2, 1) := by decide +kernel
theorem dX11_text_62 : decode cX11_text 62 = .ok (.aload_n 0, 1) := by decide +kernel
theorem dX11_text_63 : decode cX11_text 63 = .ok (.iconst 0, 1) := by decide +kernel
theorem dX11_text_64 : decode cX11_text 64 = .ok (.putfield 69, 3) := by decide +kernel
theorem dX11_text_67 : decode cX11_text 67 = .ok (.iload_n 2, 1) := by decide +kernel
theorem dX11_text_68 : decode cX11_text 68 = .ok (.ifCond .eq 9, 3) := by decide +kernel
theorem dX11_text_71 : decode cX11_text 71 = .ok (.aload_n 0, 1) := by decide +kernel
theorem dX11_text_72 : decode cX11_text 72 = .ok (.iload_n 1, 1) := by decide +kernel
theorem dX11_text_73 : decode cX11_text 73 = .ok (.invokevirtual 276, 3) := by decide +kernel
theorem dX11_text_76 : decode cX11_text 76 = .ok (.ireturn, 1) := by decide +kernel
theorem dX11_text_77 : decode cX11_text 77 = .ok (.aload_n 0, 1) := by decide +kernel
theorem dX11_text_78 : decode cX11_text 78 = .ok (.aload_n 0, 1) := by decide +kernel
theorem dX11_text_79 : decode cX11_text 79 = .ok (.getfield 176, 3) := by decide +kernel
theorem dX11_text_82 : decode cX11_text 82 = .ok (.putfield 267, 3) := by decide +kernel
theorem dX11_text_85 : decode cX11_text 85 = .ok (.aload_n 0, 1) := by decide +kernel
theorem dX11_text_86 : decode cX11_text 86 = .ok (.aload_n 0, 1) := by decide +kernel
theorem dX11_text_87 : decode cX11_text 87 = .ok (.getfield 179, 3) := by decide +kernel
theorem dX11_text_90 : decode cX11_text 90 = .ok (.putfield 40, 3) := by decide +kernel
theorem dX11_text_93 : decode cX11_text 93 = .ok (.iconst (-1), 1) := by decide +kernel
theorem dX11_text_94 : decode cX11_text 94 = .ok (.ireturn, 1) := by decide +kernel
theorem dX11_fault_0 : decode cX11_fault 0 = .ok (.iload_n 1, 1) := by decide +kernel
theorem dX11_fault_1 : decode cX11_fault 1 = .ok (.ifCond .ne 10, 3) := by decide +kernel
theorem dX11_fault_4 : decode cX11_fault 4 = .ok (.aload_n 0, 1) := by decide +kernel
theorem dX11_fault_5 : decode cX11_fault 5 = .ok (.getfield 267, 3) := by decide +kernel
theorem dX11_fault_8 : decode cX11_fault 8 = .ok (.goto 16, 3) := by decide +kernel
theorem dX11_fault_11 : decode cX11_fault 11 = .ok (.iload_n 1, 1) := by decide +kernel
theorem dX11_fault_12 : decode cX11_fault 12 = .ok (.iconst 1, 1) := by decide +kernel
theorem dX11_fault_13 : decode cX11_fault 13 = .ok (.if_icmp .ne 10, 3) := by decide +kernel
theorem dX11_fault_16 : decode cX11_fault 16 = .ok (.aload_n 0, 1) := by decide +kernel
theorem dX11_fault_17 : decode cX11_fault 17 = .ok (.getfield 40, 3) := by decide +kernel
theorem dX11_fault_20 : decode cX11_fault 20 = .ok (.goto 4, 3) := by decide +kernel
theorem dX11_fault_23 : decode cX11_fault 23 = .ok (.iconst (-1), 1) := by decide +kernel
theorem dX11_fault_24 : decode cX11_fault 24 = .ok (.ireturn, 1) := by decide +kernel
theorem dX11_both_0 : decode cX11_both 0 = .ok (.iload_n 0, 1) := by decide +kernel
theorem dX11_both_1 : decode cX11_both 1 = .ok (.tableswitch 100 23 31 #[51, 55, 59, 100, 63, 74, 85, 100, 96], 51) := by decide +kernel
theorem dX11_both_52 : decode cX11_both 52 = .ok (.iload_n 1, 1) := by decide +kernel
theorem dX11_both_53 : decode cX11_both 53 = .ok (.iload_n 2, 1) := by decide +kernel
theorem dX11_both_54 : decode cX11_both 54 = .ok (.iadd, 1) := by decide +kernel
theorem dX11_both_55 : decode cX11_both 55 = .ok (.ireturn, 1) := by decide +kernel
theorem dX11_both_56 : decode cX11_both 56 = .ok (.iload_n 1, 1) := by decide +kernel
theorem dX11_both_57 : decode cX11_both 57 = .ok (.iload_n 2, 1) := by decide +kernel
theorem dX11_both_58 : decode cX11_both 58 = .ok (.isub, 1) := by decide +kernel
theorem dX11_both_59 : decode cX11_both 59 = .ok (.ireturn, 1) := by decide +kernel
theorem dX11_both_60 : decode cX11_both 60 = .ok (.iload_n 1, 1) := by decide +kernel
theorem dX11_both_61 : decode cX11_both 61 = .ok (.iload_n 2, 1) := by decide +kernel
theorem dX11_both_62 : decode cX11_both 62 = .ok (.imul, 1) := by decide +kernel
theorem dX11_both_63 : decode cX11_both 63 = .ok (.ireturn, 1) := by decide +kernel
theorem dX11_both_64 : decode cX11_both 64 = .ok (.iload_n 1, 1) := by decide +kernel
theorem dX11_both_65 : decode cX11_both 65 = .ok (.iload_n 2, 1) := by decide +kernel
theorem dX11_both_66 : decode cX11_both 66 = .ok (.if_icmp .ge 7, 3) := by decide +kernel
theorem dX11_both_69 : decode cX11_both 69 = .ok (.iconst 1, 1) := by decide +kernel
theorem dX11_both_70 : decode cX11_both 70 = .ok (.goto 4, 3) := by decide +kernel
theorem dX11_both_73 : decode cX11_both 73 = .ok (.iconst 0, 1) := by decide +kernel
theorem dX11_both_74 : decode cX11_both 74 = .ok (.ireturn, 1) := by decide +kernel
theorem dX11_both_75 : decode cX11_both 75 = .ok (.iload_n 1, 1) := by decide +kernel
theorem dX11_both_76 : decode cX11_both 76 = .ok (.iload_n 2, 1) := by decide +kernel
theorem dX11_both_77 : decode cX11_both 77 = .ok (.if_icmp .ne 7, 3) := by decide +kernel
theorem dX11_both_80 : decode cX11_both 80 = .ok (.iconst 1, 1) := by decide +kernel
theorem dX11_both_81 : decode cX11_both 81 = .ok (.goto 4, 3) := by decide +kernel
theorem dX11_both_84 : decode cX11_both 84 = .ok (.iconst 0, 1) := by decide +kernel
theorem dX11_both_85 : decode cX11_both 85 = .ok (.ireturn, 1) := by decide +kernel
theorem dX11_both_86 : decode cX11_both 86 = .ok (.iload_n 1, 1) := by decide +kernel
theorem dX11_both_87 : decode cX11_both 87 = .ok (.iload_n 2, 1) := by decide +kernel
theorem dX11_both_88 : decode cX11_both 88 = .ok (.if_icmp .le 7, 3) := by decide +kernel
theorem dX11_both_91 : decode cX11_both 91 = .ok (.iconst 1, 1) := by decide +kernel
theorem dX11_both_92 : decode cX11_both 92 = .ok (.goto 4, 3) := by decide +kernel
theorem dX11_both_95 : decode cX11_both 95 = .ok (.iconst 0, 1) := by decide +kernel
theorem dX11_both_96 : decode cX11_both 96 = .ok (.ireturn, 1) := by decide +kernel
theorem dX11_both_97 : decode cX11_both 97 = .ok (.iload_n 1, 1) := by decide +kernel
theorem dX11_both_98 : decode cX11_both 98 = .ok (.iload_n 2, 1) := by decide +kernel
theorem dX11_both_99 : decode cX11_both 99 = .ok (.iand, 1) := by decide +kernel
theorem dX11_both_100 : decode cX11_both 100 = .ok (.ireturn, 1) := by decide +kernel
theorem dX11_both_101 : decode cX11_both 101 = .ok (.iload_n 1, 1) := by decide +kernel
theorem dX11_both_102 : decode cX11_both 102 = .ok (.iload_n 2, 1) := by decide +kernel
theorem dX11_both_103 : decode cX11_both 103 = .ok (.ior, 1) := by decide +kernel
theorem dX11_both_104 : decode cX11_both 104 = .ok (.ireturn, 1) := by decide +kernel
theorem dX11_comesTo_0 : decode cX11_comesTo 0 = .ok (.iconst 0, 1) := by decide +kernel
theorem dX11_comesTo_1 : decode cX11_comesTo 1 = .ok (.istore 4, 2) := by decide +kernel
theorem dX11_comesTo_3 : decode cX11_comesTo 3 = .ok (.iload_n 2, 1) := by decide +kernel
theorem dX11_comesTo_4 : decode cX11_comesTo 4 = .ok (.istore 5, 2) := by decide +kernel
theorem dX11_comesTo_6 : decode cX11_comesTo 6 = .ok (.iload 5, 2) := by decide +kernel
theorem dX11_comesTo_8 : decode cX11_comesTo 8 = .ok (.iload_n 3, 1) := by decide +kernel
theorem dX11_comesTo_9 : decode cX11_comesTo 9 = .ok (.if_icmp .ge 177, 3) := by decide +kernel
theorem dX11_comesTo_12 : decode cX11_comesTo 12 = .ok (.aload_n 0, 1) := by decide +kernel
theorem dX11_comesTo_13 : decode cX11_comesTo 13 = .ok (.getfield 7, 3) := by decide +kernel
theorem dX11_comesTo_16 : decode cX11_comesTo 16 = .ok (.sipush 1036, 3) := by decide +kernel
theorem dX11_comesTo_19 : decode cX11_comesTo 19 = .ok (.sipush 820, 3) := by decide +kernel
theorem dX11_comesTo_22 : decode cX11_comesTo 22 = .ok (.iload_n 1, 1) := by decide +kernel
theorem dX11_comesTo_23 : decode cX11_comesTo 23 = .ok (.imul, 1) := by decide +kernel
theorem dX11_comesTo_24 : decode cX11_comesTo 24 = .ok (.iadd, 1) := by decide +kernel
theorem dX11_comesTo_25 : decode cX11_comesTo 25 = .ok (.iconst 2, 1) := by decide +kernel
theorem dX11_comesTo_26 : decode cX11_comesTo 26 = .ok (.iload 5, 2) := by decide +kernel
theorem dX11_comesTo_28 : decode cX11_comesTo 28 = .ok (.imul, 1) := by decide +kernel
theorem dX11_comesTo_29 : decode cX11_comesTo 29 = .ok (.iadd, 1) := by decide +kernel
theorem dX11_comesTo_30 : decode cX11_comesTo 30 = .ok (.iaload, 1) := by decide +kernel
theorem dX11_comesTo_31 : decode cX11_comesTo 31 = .ok (.istore 6, 2) := by decide +kernel
theorem dX11_comesTo_33 : decode cX11_comesTo 33 = .ok (.aload_n 0, 1) := by decide +kernel
theorem dX11_comesTo_34 : decode cX11_comesTo 34 = .ok (.getfield 7, 3) := by decide +kernel
theorem dX11_comesTo_37 : decode cX11_comesTo 37 = .ok (.sipush 1036, 3) := by decide +kernel
theorem dX11_comesTo_40 : decode cX11_comesTo 40 = .ok (.sipush 820, 3) := by decide +kernel
theorem dX11_comesTo_43 : decode cX11_comesTo 43 = .ok (.iload_n 1, 1) := by decide +kernel
theorem dX11_comesTo_44 : decode cX11_comesTo 44 = .ok (.imul, 1) := by decide +kernel
theorem dX11_comesTo_45 : decode cX11_comesTo 45 = .ok (.iadd, 1) := by decide +kernel
theorem dX11_comesTo_46 : decode cX11_comesTo 46 = .ok (.iconst 2, 1) := by decide +kernel
theorem dX11_comesTo_47 : decode cX11_comesTo 47 = .ok (.iload 5, 2) := by decide +kernel
theorem dX11_comesTo_49 : decode cX11_comesTo 49 = .ok (.imul, 1) := by decide +kernel
theorem dX11_comesTo_50 : decode cX11_comesTo 50 = .ok (.iadd, 1) := by decide +kernel
theorem dX11_comesTo_51 : decode cX11_comesTo 51 = .ok (.iconst 1, 1) := by decide +kernel
theorem dX11_comesTo_52 : decode cX11_comesTo 52 = .ok (.iadd, 1) := by decide +kernel
theorem dX11_comesTo_53 : decode cX11_comesTo 53 = .ok (.iaload, 1) := by decide +kernel
theorem dX11_comesTo_54 : decode cX11_comesTo 54 = .ok (.istore 7, 2) := by decide +kernel
theorem dX11_comesTo_56 : decode cX11_comesTo 56 = .ok (.iload 6, 2) := by decide +kernel
theorem dX11_comesTo_58 : decode cX11_comesTo 58 = .ok (.bipush 23, 2) := by decide +kernel
theorem dX11_comesTo_60 : decode cX11_comesTo 60 = .ok (.if_icmp .ge 33, 3) := by decide +kernel
theorem dX11_comesTo_63 : decode cX11_comesTo 63 = .ok (.aload_n 0, 1) := by decide +kernel
theorem dX11_comesTo_64 : decode cX11_comesTo 64 = .ok (.getfield 34, 3) := by decide +kernel
theorem dX11_comesTo_67 : decode cX11_comesTo 67 = .ok (.iload 4, 2) := by decide +kernel
theorem dX11_comesTo_69 : decode cX11_comesTo 69 = .ok (.iload 6, 2) := by decide +kernel
theorem dX11_comesTo_71 : decode cX11_comesTo 71 = .ok (.ifCond .ne 8, 3) := by decide +kernel
theorem dX11_comesTo_74 : decode cX11_comesTo 74 = .ok (.iload 7, 2) := by decide +kernel
theorem dX11_comesTo_76 : decode cX11_comesTo 76 = .ok (.goto 10, 3) := by decide +kernel
theorem dX11_comesTo_79 : decode cX11_comesTo 79 = .ok (.aload_n 0, 1) := by decide +kernel
theorem dX11_comesTo_80 : decode cX11_comesTo 80 = .ok (.getfield 37, 3) := by decide +kernel
theorem dX11_comesTo_83 : decode cX11_comesTo 83 = .ok (.iload 6, 2) := by decide +kernel
theorem dX11_comesTo_85 : decode cX11_comesTo 85 = .ok (.iaload, 1) := by decide +kernel
theorem dX11_comesTo_86 : decode cX11_comesTo 86 = .ok (.iastore, 1) := by decide +kernel
theorem dX11_comesTo_87 : decode cX11_comesTo 87 = .ok (.iinc 4 1, 3) := by decide +kernel
theorem dX11_comesTo_90 : decode cX11_comesTo 90 = .ok (.goto 90, 3) := by decide +kernel
theorem dX11_comesTo_93 : decode cX11_comesTo 93 = .ok (.iload 6, 2) := by decide +kernel
theorem dX11_comesTo_95 : decode cX11_comesTo 95 = .ok (.bipush 26, 2) := by decide +kernel
theorem dX11_comesTo_97 : decode cX11_comesTo 97 = .ok (.if_icmp .ne 20, 3) := by decide +kernel
theorem dX11_comesTo_100 : decode cX11_comesTo 100 = .ok (.aload_n 0, 1) := by decide +kernel
theorem dX11_comesTo_101 : decode cX11_comesTo 101 = .ok (.getfield 34, 3) := by decide +kernel
theorem dX11_comesTo_104 : decode cX11_comesTo 104 = .ok (.iload 4, 2) := by decide +kernel
theorem dX11_comesTo_106 : decode cX11_comesTo 106 = .ok (.iconst 1, 1) := by decide +kernel
theorem dX11_comesTo_107 : decode cX11_comesTo 107 = .ok (.isub, 1) := by decide +kernel
theorem dX11_comesTo_108 : decode cX11_comesTo 108 = .ok (.dup2, 1) := by decide +kernel
theorem dX11_comesTo_109 : decode cX11_comesTo 109 = .ok (.iaload, 1) := by decide +kernel
theorem dX11_comesTo_110 : decode cX11_comesTo 110 = .ok (.iload 7, 2) := by decide +kernel
theorem dX11_comesTo_112 : decode cX11_comesTo 112 = .ok (.idiv, 1) := by decide +kernel
theorem dX11_comesTo_113 : decode cX11_comesTo 113 = .ok (.iastore, 1) := by decide +kernel
theorem dX11_comesTo_114 : decode cX11_comesTo 114 = .ok (.goto 66, 3) := by decide +kernel
theorem dX11_comesTo_117 : decode cX11_comesTo 117 = .ok (.iload 6, 2) := by decide +kernel
theorem dX11_comesTo_119 : decode cX11_comesTo 119 = .ok (.bipush 30, 2) := by decide +kernel
theorem dX11_comesTo_121 : decode cX11_comesTo 121 = .ok (.if_icmp .ne 26, 3) := by decide +kernel
theorem dX11_comesTo_124 : decode cX11_comesTo 124 = .ok (.aload_n 0, 1) := by decide +kernel
theorem dX11_comesTo_125 : decode cX11_comesTo 125 = .ok (.getfield 34, 3) := by decide +kernel
theorem dX11_comesTo_128 : decode cX11_comesTo 128 = .ok (.iload 4, 2) := by decide +kernel
theorem dX11_comesTo_130 : decode cX11_comesTo 130 = .ok (.iconst 1, 1) := by decide +kernel
theorem dX11_comesTo_131 : decode cX11_comesTo 131 = .ok (.isub, 1) := by decide +kernel
theorem dX11_comesTo_132 : decode cX11_comesTo 132 = .ok (.iconst 1, 1) := by decide +kernel
theorem dX11_comesTo_133 : decode cX11_comesTo 133 = .ok (.aload_n 0, 1) := by decide +kernel
theorem dX11_comesTo_134 : decode cX11_comesTo 134 = .ok (.getfield 34, 3) := by decide +kernel
theorem dX11_comesTo_137 : decode cX11_comesTo 137 = .ok (.iload 4, 2) := by decide +kernel
theorem dX11_comesTo_139 : decode cX11_comesTo 139 = .ok (.iconst 1, 1) := by decide +kernel
theorem dX11_comesTo_140 : decode cX11_comesTo 140 = .ok (.isub, 1) := by decide +kernel
theorem dX11_comesTo_141 : decode cX11_comesTo 141 = .ok (.iaload, 1) := by decide +kernel
theorem dX11_comesTo_142 : decode cX11_comesTo 142 = .ok (.isub, 1) := by decide +kernel
theorem dX11_comesTo_143 : decode cX11_comesTo 143 = .ok (.iastore, 1) := by decide +kernel
theorem dX11_comesTo_144 : decode cX11_comesTo 144 = .ok (.goto 36, 3) := by decide +kernel
theorem dX11_comesTo_147 : decode cX11_comesTo 147 = .ok (.iinc 4 (-1), 3) := by decide +kernel
theorem dX11_comesTo_150 : decode cX11_comesTo 150 = .ok (.aload_n 0, 1) := by decide +kernel
theorem dX11_comesTo_151 : decode cX11_comesTo 151 = .ok (.getfield 34, 3) := by decide +kernel
theorem dX11_comesTo_154 : decode cX11_comesTo 154 = .ok (.iload 4, 2) := by decide +kernel
theorem dX11_comesTo_156 : decode cX11_comesTo 156 = .ok (.iconst 1, 1) := by decide +kernel
theorem dX11_comesTo_157 : decode cX11_comesTo 157 = .ok (.isub, 1) := by decide +kernel
theorem dX11_comesTo_158 : decode cX11_comesTo 158 = .ok (.iload 6, 2) := by decide +kernel
theorem dX11_comesTo_160 : decode cX11_comesTo 160 = .ok (.aload_n 0, 1) := by decide +kernel
theorem dX11_comesTo_161 : decode cX11_comesTo 161 = .ok (.getfield 34, 3) := by decide +kernel
theorem dX11_comesTo_164 : decode cX11_comesTo 164 = .ok (.iload 4, 2) := by decide +kernel
theorem dX11_comesTo_166 : decode cX11_comesTo 166 = .ok (.iconst 1, 1) := by decide +kernel
theorem dX11_comesTo_167 : decode cX11_comesTo 167 = .ok (.isub, 1) := by decide +kernel
theorem dX11_comesTo_168 : decode cX11_comesTo 168 = .ok (.iaload, 1) := by decide +kernel
theorem dX11_comesTo_169 : decode cX11_comesTo 169 = .ok (.aload_n 0, 1) := by decide +kernel
theorem dX11_comesTo_170 : decode cX11_comesTo 170 = .ok (.getfield 34, 3) := by decide +kernel
theorem dX11_comesTo_173 : decode cX11_comesTo 173 = .ok (.iload 4, 2) := by decide +kernel
theorem dX11_comesTo_175 : decode cX11_comesTo 175 = .ok (.iaload, 1) := by decide +kernel
theorem dX11_comesTo_176 : decode cX11_comesTo 176 = .ok (.invokestatic 279, 3) := by decide +kernel
theorem dX11_comesTo_179 : decode cX11_comesTo 179 = .ok (.iastore, 1) := by decide +kernel
theorem dX11_comesTo_180 : decode cX11_comesTo 180 = .ok (.iinc 5 1, 3) := by decide +kernel
theorem dX11_comesTo_183 : decode cX11_comesTo 183 = .ok (.goto (-177), 3) := by decide +kernel
theorem dX11_comesTo_186 : decode cX11_comesTo 186 = .ok (.aload_n 0, 1) := by decide +kernel
theorem dX11_comesTo_187 : decode cX11_comesTo 187 = .ok (.getfield 34, 3) := by decide +kernel
theorem dX11_comesTo_190 : decode cX11_comesTo 190 = .ok (.iconst 0, 1) := by decide +kernel
theorem dX11_comesTo_191 : decode cX11_comesTo 191 = .ok (.iaload, 1) := by decide +kernel
theorem dX11_comesTo_192 : decode cX11_comesTo 192 = .ok (.ireturn, 1) := by decide +kernel
theorem dX11_isSo_0 : decode cX11_isSo 0 = .ok (.aload_n 0, 1) := by decide +kernel
theorem dX11_isSo_1 : decode cX11_isSo 1 = .ok (.getfield 7, 3) := by decide +kernel
theorem dX11_isSo_4 : decode cX11_isSo 4 = .ok (.sipush 1002, 3) := by decide +kernel
theorem dX11_isSo_7 : decode cX11_isSo 7 = .ok (.iload_n 1, 1) := by decide +kernel
theorem dX11_isSo_8 : decode cX11_isSo 8 = .ok (.iadd, 1) := by decide +kernel
theorem dX11_isSo_9 : decode cX11_isSo 9 = .ok (.iaload, 1) := by decide +kernel
theorem dX11_isSo_10 : decode cX11_isSo 10 = .ok (.aload_n 0, 1) := by decide +kernel
theorem dX11_isSo_11 : decode cX11_isSo 11 = .ok (.getfield 7, 3) := by decide +kernel
theorem dX11_isSo_14 : decode cX11_isSo 14 = .ok (.sipush 986, 3) := by decide +kernel
theorem dX11_isSo_17 : decode cX11_isSo 17 = .ok (.iload_n 1, 1) := by decide +kernel
theorem dX11_isSo_18 : decode cX11_isSo 18 = .ok (.iadd, 1) := by decide +kernel
theorem dX11_isSo_19 : decode cX11_isSo 19 = .ok (.iaload, 1) := by decide +kernel
theorem dX11_isSo_20 : decode cX11_isSo 20 = .ok (.if_icmp .eq 32, 3) := by decide +kernel
theorem dX11_isSo_23 : decode cX11_isSo 23 = .ok (.aload_n 0, 1) := by decide +kernel
theorem dX11_isSo_24 : decode cX11_isSo 24 = .ok (.iconst 0, 1) := by decide +kernel
theorem dX11_isSo_25 : decode cX11_isSo 25 = .ok (.aload_n 0, 1) := by decide +kernel
theorem dX11_isSo_26 : decode cX11_isSo 26 = .ok (.getfield 7, 3) := by decide +kernel
theorem dX11_isSo_29 : decode cX11_isSo 29 = .ok (.sipush 986, 3) := by decide +kernel
theorem dX11_isSo_32 : decode cX11_isSo 32 = .ok (.iload_n 1, 1) := by decide +kernel
theorem dX11_isSo_33 : decode cX11_isSo 33 = .ok (.iadd, 1) := by decide +kernel
theorem dX11_isSo_34 : decode cX11_isSo 34 = .ok (.iaload, 1) := by decide +kernel
theorem dX11_isSo_35 : decode cX11_isSo 35 = .ok (.aload_n 0, 1) := by decide +kernel
theorem dX11_isSo_36 : decode cX11_isSo 36 = .ok (.getfield 7, 3) := by decide +kernel
theorem dX11_isSo_39 : decode cX11_isSo 39 = .ok (.sipush 1002, 3) := by decide +kernel
theorem dX11_isSo_42 : decode cX11_isSo 42 = .ok (.iload_n 1, 1) := by decide +kernel
theorem dX11_isSo_43 : decode cX11_isSo 43 = .ok (.iadd, 1) := by decide +kernel
theorem dX11_isSo_44 : decode cX11_isSo 44 = .ok (.iaload, 1) := by decide +kernel
theorem dX11_isSo_45 : decode cX11_isSo 45 = .ok (.invokevirtual 282, 3) := by decide +kernel
theorem dX11_isSo_48 : decode cX11_isSo 48 = .ok (.iconst 1, 1) := by decide +kernel
theorem dX11_isSo_49 : decode cX11_isSo 49 = .ok (.if_icmp .ne 7, 3) := by decide +kernel
theorem dX11_isSo_52 : decode cX11_isSo 52 = .ok (.iconst 1, 1) := by decide +kernel
theorem dX11_isSo_53 : decode cX11_isSo 53 = .ok (.goto 4, 3) := by decide +kernel
theorem dX11_isSo_56 : decode cX11_isSo 56 = .ok (.iconst 0, 1) := by decide +kernel
theorem dX11_isSo_57 : decode cX11_isSo 57 = .ok (.ireturn, 1) := by decide +kernel
theorem dX11_says_0 : decode cX11_says 0 = .ok (.iconst 0, 1) := by decide +kernel
theorem dX11_says_1 : decode cX11_says 1 = .ok (.istore 4, 2) := by decide +kernel
theorem dX11_says_3 : decode cX11_says 3 = .ok (.iload 4, 2) := by decide +kernel
theorem dX11_says_5 : decode cX11_says 5 = .ok (.aload_n 0, 1) := by decide +kernel
theorem dX11_says_6 : decode cX11_says 6 = .ok (.getfield 7, 3) := by decide +kernel
theorem dX11_says_9 : decode cX11_says 9 = .ok (.bipush 83, 2) := by decide +kernel
theorem dX11_says_11 : decode cX11_says 11 = .ok (.iaload, 1) := by decide +kernel
theorem dX11_says_12 : decode cX11_says 12 = .ok (.if_icmp .ge 69, 3) := by decide +kernel
theorem dX11_says_15 : decode cX11_says 15 = .ok (.aload_n 0, 1) := by decide +kernel
theorem dX11_says_16 : decode cX11_says 16 = .ok (.getfield 7, 3) := by decide +kernel
theorem dX11_says_19 : decode cX11_says 19 = .ok (.sipush 1018, 3) := by decide +kernel
theorem dX11_says_22 : decode cX11_says 22 = .ok (.iload 4, 2) := by decide +kernel
theorem dX11_says_24 : decode cX11_says 24 = .ok (.iadd, 1) := by decide +kernel
theorem dX11_says_25 : decode cX11_says 25 = .ok (.iaload, 1) := by decide +kernel
theorem dX11_says_26 : decode cX11_says 26 = .ok (.iload_n 1, 1) := by decide +kernel
theorem dX11_says_27 : decode cX11_says 27 = .ok (.if_icmp .ne 48, 3) := by decide +kernel
theorem dX11_says_30 : decode cX11_says 30 = .ok (.aload_n 0, 1) := by decide +kernel
theorem dX11_says_31 : decode cX11_says 31 = .ok (.iload 4, 2) := by decide +kernel
theorem dX11_says_33 : decode cX11_says 33 = .ok (.invokevirtual 285, 3) := by decide +kernel
theorem dX11_says_36 : decode cX11_says 36 = .ok (.ifCond .eq 39, 3) := by decide +kernel
theorem dX11_says_39 : decode cX11_says 39 = .ok (.iconst 0, 1) := by decide +kernel
theorem dX11_says_40 : decode cX11_says 40 = .ok (.iload_n 3, 1) := by decide +kernel
theorem dX11_says_41 : decode cX11_says 41 = .ok (.aload_n 0, 1) := by decide +kernel
theorem dX11_says_42 : decode cX11_says 42 = .ok (.iconst 0, 1) := by decide +kernel
theorem dX11_says_43 : decode cX11_says 43 = .ok (.aload_n 0, 1) := by decide +kernel
theorem dX11_says_44 : decode cX11_says 44 = .ok (.getfield 7, 3) := by decide +kernel
theorem dX11_says_47 : decode cX11_says 47 = .ok (.sipush 970, 3) := by decide +kernel
theorem dX11_says_50 : decode cX11_says 50 = .ok (.iload 4, 2) := by decide +kernel
theorem dX11_says_52 : decode cX11_says 52 = .ok (.iadd, 1) := by decide +kernel
theorem dX11_says_53 : decode cX11_says 53 = .ok (.iaload, 1) := by decide +kernel
theorem dX11_says_54 : decode cX11_says 54 = .ok (.aload_n 0, 1) := by decide +kernel
theorem dX11_says_55 : decode cX11_says 55 = .ok (.getfield 7, 3) := by decide +kernel
theorem dX11_says_58 : decode cX11_says 58 = .ok (.sipush 986, 3) := by decide +kernel
theorem dX11_says_61 : decode cX11_says 61 = .ok (.iload 4, 2) := by decide +kernel
theorem dX11_says_63 : decode cX11_says 63 = .ok (.iadd, 1) := by decide +kernel
theorem dX11_says_64 : decode cX11_says 64 = .ok (.iaload, 1) := by decide +kernel
theorem dX11_says_65 : decode cX11_says 65 = .ok (.invokevirtual 282, 3) := by decide +kernel
theorem dX11_says_68 : decode cX11_says 68 = .ok (.invokestatic 288, 3) := by decide +kernel
theorem dX11_says_71 : decode cX11_says 71 = .ok (.invokestatic 291, 3) := by decide +kernel
theorem dX11_says_74 : decode cX11_says 74 = .ok (.ireturn, 1) := by decide +kernel
theorem dX11_says_75 : decode cX11_says 75 = .ok (.iinc 4 1, 3) := by decide +kernel
theorem dX11_says_78 : decode cX11_says 78 = .ok (.goto (-75), 3) := by decide +kernel
theorem dX11_says_81 : decode cX11_says 81 = .ok (.iconst 0, 1) := by decide +kernel
theorem dX11_says_82 : decode cX11_says 82 = .ok (.iload_n 3, 1) := by decide +kernel
theorem dX11_says_83 : decode cX11_says 83 = .ok (.iload_n 2, 1) := by decide +kernel
theorem dX11_says_84 : decode cX11_says 84 = .ok (.invokestatic 288, 3) := by decide +kernel
theorem dX11_says_87 : decode cX11_says 87 = .ok (.invokestatic 291, 3) := by decide +kernel
theorem dX11_says_90 : decode cX11_says 90 = .ok (.ireturn, 1) := by decide +kernel
theorem dX11_laysFeast_0 : decode cX11_laysFeast 0 = .ok (.aload_n 0, 1) := by decide +kernel
theorem dX11_laysFeast_1 : decode cX11_laysFeast 1 = .ok (.getfield 37, 3) := by decide +kernel
theorem dX11_laysFeast_4 : decode cX11_laysFeast 4 = .ok (.iconst 1, 1) := by decide +kernel
theorem dX11_laysFeast_5 : decode cX11_laysFeast 5 = .ok (.iload_n 1, 1) := by decide +kernel
theorem dX11_laysFeast_6 : decode cX11_laysFeast 6 = .ok (.iastore, 1) := by decide +kernel
theorem dX11_laysFeast_7 : decode cX11_laysFeast 7 = .ok (.aload_n 0, 1) := by decide +kernel
theorem dX11_laysFeast_8 : decode cX11_laysFeast 8 = .ok (.getfield 37, 3) := by decide +kernel
theorem dX11_laysFeast_11 : decode cX11_laysFeast 11 = .ok (.iconst 2, 1) := by decide +kernel
theorem dX11_laysFeast_12 : decode cX11_laysFeast 12 = .ok (.aload_n 0, 1) := by decide +kernel
theorem dX11_laysFeast_13 : decode cX11_laysFeast 13 = .ok (.iload_n 1, 1) := by decide +kernel
theorem dX11_laysFeast_14 : decode cX11_laysFeast 14 = .ok (.invokevirtual 294, 3) := by decide +kernel
theorem dX11_laysFeast_17 : decode cX11_laysFeast 17 = .ok (.iastore, 1) := by decide +kernel
theorem dX11_laysFeast_18 : decode cX11_laysFeast 18 = .ok (.aload_n 0, 1) := by decide +kernel
theorem dX11_laysFeast_19 : decode cX11_laysFeast 19 = .ok (.getfield 37, 3) := by decide +kernel
theorem dX11_laysFeast_22 : decode cX11_laysFeast 22 = .ok (.iconst 3, 1) := by decide +kernel
theorem dX11_laysFeast_23 : decode cX11_laysFeast 23 = .ok (.iload_n 2, 1) := by decide +kernel
theorem dX11_laysFeast_24 : decode cX11_laysFeast 24 = .ok (.iastore, 1) := by decide +kernel
theorem dX11_laysFeast_25 : decode cX11_laysFeast 25 = .ok (.aload_n 0, 1) := by decide +kernel
theorem dX11_laysFeast_26 : decode cX11_laysFeast 26 = .ok (.getfield 37, 3) := by decide +kernel
theorem dX11_laysFeast_29 : decode cX11_laysFeast 29 = .ok (.iconst 4, 1) := by decide +kernel
theorem dX11_laysFeast_30 : decode cX11_laysFeast 30 = .ok (.iconst 0, 1) := by decide +kernel
theorem dX11_laysFeast_31 : decode cX11_laysFeast 31 = .ok (.iastore, 1) := by decide +kernel
theorem dX11_laysFeast_32 : decode cX11_laysFeast 32 = .ok (.aload_n 0, 1) := by decide +kernel
theorem dX11_laysFeast_33 : decode cX11_laysFeast 33 = .ok (.getfield 37, 3) := by decide +kernel
theorem dX11_laysFeast_36 : decode cX11_laysFeast 36 = .ok (.iconst 5, 1) := by decide +kernel
theorem dX11_laysFeast_37 : decode cX11_laysFeast 37 = .ok (.iconst 0, 1) := by decide +kernel
theorem dX11_laysFeast_38 : decode cX11_laysFeast 38 = .ok (.iastore, 1) := by decide +kernel
theorem dX11_laysFeast_39 : decode cX11_laysFeast 39 = .ok (.aload_n 0, 1) := by decide +kernel
theorem dX11_laysFeast_40 : decode cX11_laysFeast 40 = .ok (.getfield 37, 3) := by decide +kernel
theorem dX11_laysFeast_43 : decode cX11_laysFeast 43 = .ok (.bipush 6, 2) := by decide +kernel
theorem dX11_laysFeast_45 : decode cX11_laysFeast 45 = .ok (.iconst 0, 1) := by decide +kernel
theorem dX11_laysFeast_46 : decode cX11_laysFeast 46 = .ok (.iastore, 1) := by decide +kernel
theorem dX11_laysFeast_47 : decode cX11_laysFeast 47 = .ok (.aload_n 0, 1) := by decide +kernel
theorem dX11_laysFeast_48 : decode cX11_laysFeast 48 = .ok (.getfield 37, 3) := by decide +kernel
theorem dX11_laysFeast_51 : decode cX11_laysFeast 51 = .ok (.bipush 7, 2) := by decide +kernel
theorem dX11_laysFeast_53 : decode cX11_laysFeast 53 = .ok (.aload_n 0, 1) := by decide +kernel
theorem dX11_laysFeast_54 : decode cX11_laysFeast 54 = .ok (.getfield 7, 3) := by decide +kernel
theorem dX11_laysFeast_57 : decode cX11_laysFeast 57 = .ok (.iconst 0, 1) := by decide +kernel
theorem dX11_laysFeast_58 : decode cX11_laysFeast 58 = .ok (.iaload, 1) := by decide +kernel
theorem dX11_laysFeast_59 : decode cX11_laysFeast 59 = .ok (.iastore, 1) := by decide +kernel
theorem dX11_laysFeast_60 : decode cX11_laysFeast 60 = .ok (.return_, 1) := by decide +kernel
theorem dX11_leftOf_0 : decode cX11_leftOf 0 = .ok (.aload_n 0, 1) := by decide +kernel
theorem dX11_leftOf_1 : decode cX11_leftOf 1 = .ok (.iload_n 1, 1) := by decide +kernel
theorem dX11_leftOf_2 : decode cX11_leftOf 2 = .ok (.iload_n 2, 1) := by decide +kernel
theorem dX11_leftOf_3 : decode cX11_leftOf 3 = .ok (.invokevirtual 297, 3) := by decide +kernel
theorem dX11_leftOf_6 : decode cX11_leftOf 6 = .ok (.aload_n 0, 1) := by decide +kernel
theorem dX11_leftOf_7 : decode cX11_leftOf 7 = .ok (.bipush 20, 2) := by decide +kernel
theorem dX11_leftOf_9 : decode cX11_leftOf 9 = .ok (.aload_n 0, 1) := by decide +kernel
theorem dX11_leftOf_10 : decode cX11_leftOf 10 = .ok (.iload_n 1, 1) := by decide +kernel
theorem dX11_leftOf_11 : decode cX11_leftOf 11 = .ok (.invokevirtual 294, 3) := by decide +kernel
theorem dX11_leftOf_14 : decode cX11_leftOf 14 = .ok (.iconst 5, 1) := by decide +kernel
theorem dX11_leftOf_15 : decode cX11_leftOf 15 = .ok (.iload_n 2, 1) := by decide +kernel
theorem dX11_leftOf_16 : decode cX11_leftOf 16 = .ok (.imul, 1) := by decide +kernel
theorem dX11_leftOf_17 : decode cX11_leftOf 17 = .ok (.isub, 1) := by decide +kernel
theorem dX11_leftOf_18 : decode cX11_leftOf 18 = .ok (.aload_n 0, 1) := by decide +kernel
theorem dX11_leftOf_19 : decode cX11_leftOf 19 = .ok (.iload_n 1, 1) := by decide +kernel
theorem dX11_leftOf_20 : decode cX11_leftOf 20 = .ok (.invokevirtual 294, 3) := by decide +kernel
theorem dX11_leftOf_23 : decode cX11_leftOf 23 = .ok (.iconst 1, 1) := by decide +kernel
theorem dX11_leftOf_24 : decode cX11_leftOf 24 = .ok (.isub, 1) := by decide +kernel
theorem dX11_leftOf_25 : decode cX11_leftOf 25 = .ok (.invokevirtual 300, 3) := by decide +kernel
theorem dX11_leftOf_28 : decode cX11_leftOf 28 = .ok (.ireturn, 1) := by decide +kernel
theorem dX11_edgeOf_0 : decode cX11_edgeOf 0 = .ok (.aload_n 0, 1) := by decide +kernel
theorem dX11_edgeOf_1 : decode cX11_edgeOf 1 = .ok (.iload_n 1, 1) := by decide +kernel
theorem dX11_edgeOf_2 : decode cX11_edgeOf 2 = .ok (.iload_n 2, 1) := by decide +kernel
theorem dX11_edgeOf_3 : decode cX11_edgeOf 3 = .ok (.invokevirtual 297, 3) := by decide +kernel
theorem dX11_edgeOf_6 : decode cX11_edgeOf 6 = .ok (.aload_n 0, 1) := by decide +kernel
theorem dX11_edgeOf_7 : decode cX11_edgeOf 7 = .ok (.bipush 23, 2) := by decide +kernel
theorem dX11_edgeOf_9 : decode cX11_edgeOf 9 = .ok (.iconst 3, 1) := by decide +kernel
theorem dX11_edgeOf_10 : decode cX11_edgeOf 10 = .ok (.bipush 9, 2) := by decide +kernel
theorem dX11_edgeOf_12 : decode cX11_edgeOf 12 = .ok (.invokevirtual 300, 3) := by decide +kernel
theorem dX11_edgeOf_15 : decode cX11_edgeOf 15 = .ok (.ireturn, 1) := by decide +kernel
theorem dX11_laysRemain_0 : decode cX11_laysRemain 0 = .ok (.aload_n 0, 1) := by decide +kernel
theorem dX11_laysRemain_1 : decode cX11_laysRemain 1 = .ok (.aload_n 0, 1) := by decide +kernel
theorem dX11_laysRemain_2 : decode cX11_laysRemain 2 = .ok (.iload_n 1, 1) := by decide +kernel
theorem dX11_laysRemain_3 : decode cX11_laysRemain 3 = .ok (.iconst 0, 1) := by decide +kernel
theorem dX11_laysRemain_4 : decode cX11_laysRemain 4 = .ok (.invokevirtual 57, 3) := by decide +kernel
theorem dX11_laysRemain_7 : decode cX11_laysRemain 7 = .ok (.iconst 0, 1) := by decide +kernel
theorem dX11_laysRemain_8 : decode cX11_laysRemain 8 = .ok (.invokevirtual 297, 3) := by decide +kernel
theorem dX11_laysRemain_11 : decode cX11_laysRemain 11 = .ok (.aload_n 0, 1) := by decide +kernel
theorem dX11_laysRemain_12 : decode cX11_laysRemain 12 = .ok (.getfield 37, 3) := by decide +kernel
theorem dX11_laysRemain_15 : decode cX11_laysRemain 15 = .ok (.iconst 4, 1) := by decide +kernel
theorem dX11_laysRemain_16 : decode cX11_laysRemain 16 = .ok (.aload_n 0, 1) := by decide +kernel
theorem dX11_laysRemain_17 : decode cX11_laysRemain 17 = .ok (.iload_n 1, 1) := by decide +kernel
theorem dX11_laysRemain_18 : decode cX11_laysRemain 18 = .ok (.iconst 1, 1) := by decide +kernel
theorem dX11_laysRemain_19 : decode cX11_laysRemain 19 = .ok (.invokevirtual 57, 3) := by decide +kernel
theorem dX11_laysRemain_22 : decode cX11_laysRemain 22 = .ok (.iastore, 1) := by decide +kernel
theorem dX11_laysRemain_23 : decode cX11_laysRemain 23 = .ok (.aload_n 0, 1) := by decide +kernel
theorem dX11_laysRemain_24 : decode cX11_laysRemain 24 = .ok (.getfield 37, 3) := by decide +kernel
theorem dX11_laysRemain_27 : decode cX11_laysRemain 27 = .ok (.iconst 5, 1) := by decide +kernel
theorem dX11_laysRemain_28 : decode cX11_laysRemain 28 = .ok (.aload_n 0, 1) := by decide +kernel
theorem dX11_laysRemain_29 : decode cX11_laysRemain 29 = .ok (.iload_n 1, 1) := by decide +kernel
theorem dX11_laysRemain_30 : decode cX11_laysRemain 30 = .ok (.invokevirtual 303, 3) := by decide +kernel
theorem dX11_laysRemain_33 : decode cX11_laysRemain 33 = .ok (.iload_n 2, 1) := by decide +kernel
theorem dX11_laysRemain_34 : decode cX11_laysRemain 34 = .ok (.iadd, 1) := by decide +kernel
theorem dX11_laysRemain_35 : decode cX11_laysRemain 35 = .ok (.iastore, 1) := by decide +kernel
theorem dX11_laysRemain_36 : decode cX11_laysRemain 36 = .ok (.aload_n 0, 1) := by decide +kernel
theorem dX11_laysRemain_37 : decode cX11_laysRemain 37 = .ok (.getfield 37, 3) := by decide +kernel
theorem dX11_laysRemain_40 : decode cX11_laysRemain 40 = .ok (.bipush 6, 2) := by decide +kernel
theorem dX11_laysRemain_42 : decode cX11_laysRemain 42 = .ok (.aload_n 0, 1) := by decide +kernel
theorem dX11_laysRemain_43 : decode cX11_laysRemain 43 = .ok (.iload_n 1, 1) := by decide +kernel
theorem dX11_laysRemain_44 : decode cX11_laysRemain 44 = .ok (.iconst 3, 1) := by decide +kernel
theorem dX11_laysRemain_45 : decode cX11_laysRemain 45 = .ok (.invokevirtual 57, 3) := by decide +kernel
theorem dX11_laysRemain_48 : decode cX11_laysRemain 48 = .ok (.iastore, 1) := by decide +kernel
theorem dX11_laysRemain_49 : decode cX11_laysRemain 49 = .ok (.aload_n 0, 1) := by decide +kernel
theorem dX11_laysRemain_50 : decode cX11_laysRemain 50 = .ok (.getfield 37, 3) := by decide +kernel
theorem dX11_laysRemain_53 : decode cX11_laysRemain 53 = .ok (.bipush 7, 2) := by decide +kernel
theorem dX11_laysRemain_55 : decode cX11_laysRemain 55 = .ok (.aload_n 0, 1) := by decide +kernel
theorem dX11_laysRemain_56 : decode cX11_laysRemain 56 = .ok (.getfield 7, 3) := by decide +kernel
theorem dX11_laysRemain_59 : decode cX11_laysRemain 59 = .ok (.iconst 0, 1) := by decide +kernel
theorem dX11_laysRemain_60 : decode cX11_laysRemain 60 = .ok (.iaload, 1) := by decide +kernel
theorem dX11_laysRemain_61 : decode cX11_laysRemain 61 = .ok (.iload_n 2, 1) := by decide +kernel
theorem dX11_laysRemain_62 : decode cX11_laysRemain 62 = .ok (.iadd, 1) := by decide +kernel
theorem dX11_laysRemain_63 : decode cX11_laysRemain 63 = .ok (.iastore, 1) := by decide +kernel
theorem dX11_laysRemain_64 : decode cX11_laysRemain 64 = .ok (.return_, 1) := by decide +kernel
theorem dX11_priceOf_0 : decode cX11_priceOf 0 = .ok (.aload_n 0, 1) := by decide +kernel
theorem dX11_priceOf_1 : decode cX11_priceOf 1 = .ok (.iload_n 1, 1) := by decide +kernel
theorem dX11_priceOf_2 : decode cX11_priceOf 2 = .ok (.iload_n 2, 1) := by decide +kernel
theorem dX11_priceOf_3 : decode cX11_priceOf 3 = .ok (.invokevirtual 306, 3) := by decide +kernel
theorem dX11_priceOf_6 : decode cX11_priceOf 6 = .ok (.aload_n 0, 1) := by decide +kernel
theorem dX11_priceOf_7 : decode cX11_priceOf 7 = .ok (.bipush 21, 2) := by decide +kernel
theorem dX11_priceOf_9 : decode cX11_priceOf 9 = .ok (.aload_n 0, 1) := by decide +kernel
theorem dX11_priceOf_10 : decode cX11_priceOf 10 = .ok (.iload_n 1, 1) := by decide +kernel
theorem dX11_priceOf_11 : decode cX11_priceOf 11 = .ok (.iconst 1, 1) := by decide +kernel
theorem dX11_priceOf_12 : decode cX11_priceOf 12 = .ok (.invokevirtual 57, 3) := by decide +kernel
theorem dX11_priceOf_15 : decode cX11_priceOf 15 = .ok (.sipush 999, 3) := by decide +kernel
theorem dX11_priceOf_18 : decode cX11_priceOf 18 = .ok (.invokevirtual 300, 3) := by decide +kernel
theorem dX11_priceOf_21 : decode cX11_priceOf 21 = .ok (.ireturn, 1) := by decide +kernel
theorem dX11_spoilOf_0 : decode cX11_spoilOf 0 = .ok (.aload_n 0, 1) := by decide +kernel
theorem dX11_spoilOf_1 : decode cX11_spoilOf 1 = .ok (.iload_n 1, 1) := by decide +kernel
theorem dX11_spoilOf_2 : decode cX11_spoilOf 2 = .ok (.iconst 0, 1) := by decide +kernel
theorem dX11_spoilOf_3 : decode cX11_spoilOf 3 = .ok (.invokevirtual 306, 3) := by decide +kernel
theorem dX11_spoilOf_6 : decode cX11_spoilOf 6 = .ok (.aload_n 0, 1) := by decide +kernel
theorem dX11_spoilOf_7 : decode cX11_spoilOf 7 = .ok (.bipush 22, 2) := by decide +kernel
theorem dX11_spoilOf_9 : decode cX11_spoilOf 9 = .ok (.iconst 0, 1) := by decide +kernel
theorem dX11_spoilOf_10 : decode cX11_spoilOf 10 = .ok (.sipush 1000, 3) := by decide +kernel
theorem dX11_spoilOf_13 : decode cX11_spoilOf 13 = .ok (.invokevirtual 300, 3) := by decide +kernel
theorem dX11_spoilOf_16 : decode cX11_spoilOf 16 = .ok (.ireturn, 1) := by decide +kernel
theorem dX11_keeps_0 : decode cX11_keeps 0 = .ok (.aload_n 0, 1) := by decide +kernel
theorem dX11_keeps_1 : decode cX11_keeps 1 = .ok (.getfield 61, 3) := by decide +kernel
theorem dX11_keeps_4 : decode cX11_keeps 4 = .ok (.bipush 6, 2) := by decide +kernel
theorem dX11_keeps_6 : decode cX11_keeps 6 = .ok (.if_icmp .ne 43, 3) := by decide +kernel
theorem dX11_keeps_9 : decode cX11_keeps 9 = .ok (.iconst 0, 1) := by decide +kernel
theorem dX11_keeps_10 : decode cX11_keeps 10 = .ok (.istore_n 1, 1) := by decide +kernel
theorem dX11_keeps_11 : decode cX11_keeps 11 = .ok (.iload_n 1, 1) := by decide +kernel
theorem dX11_keeps_12 : decode cX11_keeps 12 = .ok (.sipush 400, 3) := by decide +kernel
theorem dX11_keeps_15 : decode cX11_keeps 15 = .ok (.if_icmp .ge 24, 3) := by decide +kernel
theorem dX11_keeps_18 : decode cX11_keeps 18 = .ok (.aload_n 0, 1) := by decide +kernel
theorem dX11_keeps_19 : decode cX11_keeps 19 = .ok (.getfield 16, 3) := by decide +kernel
theorem dX11_keeps_22 : decode cX11_keeps 22 = .ok (.iload_n 1, 1) := by decide +kernel
theorem dX11_keeps_23 : decode cX11_keeps 23 = .ok (.aload_n 0, 1) := by decide +kernel
theorem dX11_keeps_24 : decode cX11_keeps 24 = .ok (.getfield 16, 3) := by decide +kernel
theorem dX11_keeps_27 : decode cX11_keeps 27 = .ok (.iload_n 1, 1) := by decide +kernel
theorem dX11_keeps_28 : decode cX11_keeps 28 = .ok (.bipush 80, 2) := by decide +kernel
theorem dX11_keeps_30 : decode cX11_keeps 30 = .ok (.iadd, 1) := by decide +kernel
theorem dX11_keeps_31 : decode cX11_keeps 31 = .ok (.iaload, 1) := by decide +kernel
theorem dX11_keeps_32 : decode cX11_keeps 32 = .ok (.iastore, 1) := by decide +kernel
theorem dX11_keeps_33 : decode cX11_keeps 33 = .ok (.iinc 1 1, 3) := by decide +kernel
theorem dX11_keeps_36 : decode cX11_keeps 36 = .ok (.goto (-25), 3) := by decide +kernel
theorem dX11_keeps_39 : decode cX11_keeps 39 = .ok (.aload_n 0, 1) := by decide +kernel
theorem dX11_keeps_40 : decode cX11_keeps 40 = .ok (.dup, 1) := by decide +kernel
theorem dX11_keeps_41 : decode cX11_keeps 41 = .ok (.getfield 61, 3) := by decide +kernel
theorem dX11_keeps_44 : decode cX11_keeps 44 = .ok (.iconst 1, 1) := by decide +kernel
theorem dX11_keeps_45 : decode cX11_keeps 45 = .ok (.isub, 1) := by decide +kernel
theorem dX11_keeps_46 : decode cX11_keeps 46 = .ok (.putfield 61, 3) := by decide +kernel
theorem dX11_keeps_49 : decode cX11_keeps 49 = .ok (.iconst 0, 1) := by decide +kernel
theorem dX11_keeps_50 : decode cX11_keeps 50 = .ok (.istore_n 1, 1) := by decide +kernel
theorem dX11_keeps_51 : decode cX11_keeps 51 = .ok (.iload_n 1, 1) := by decide +kernel
theorem dX11_keeps_52 : decode cX11_keeps 52 = .ok (.bipush 80, 2) := by decide +kernel
theorem dX11_keeps_54 : decode cX11_keeps 54 = .ok (.if_icmp .ge 29, 3) := by decide +kernel
theorem dX11_keeps_57 : decode cX11_keeps 57 = .ok (.aload_n 0, 1) := by decide +kernel
theorem dX11_keeps_58 : decode cX11_keeps 58 = .ok (.getfield 16, 3) := by decide +kernel
theorem dX11_keeps_61 : decode cX11_keeps 61 = .ok (.bipush 80, 2) := by decide +kernel
theorem dX11_keeps_63 : decode cX11_keeps 63 = .ok (.aload_n 0, 1) := by decide +kernel
theorem dX11_keeps_64 : decode cX11_keeps 64 = .ok (.getfield 61, 3) := by decide +kernel
theorem dX11_keeps_67 : decode cX11_keeps 67 = .ok (.imul, 1) := by decide +kernel
theorem dX11_keeps_68 : decode cX11_keeps 68 = .ok (.iload_n 1, 1) := by decide +kernel
theorem dX11_keeps_69 : decode cX11_keeps 69 = .ok (.iadd, 1) := by decide +kernel
theorem dX11_keeps_70 : decode cX11_keeps 70 = .ok (.aload_n 0, 1) := by decide +kernel
theorem dX11_keeps_71 : decode cX11_keeps 71 = .ok (.getfield 7, 3) := by decide +kernel
theorem dX11_keeps_74 : decode cX11_keeps 74 = .ok (.iload_n 1, 1) := by decide +kernel
theorem dX11_keeps_75 : decode cX11_keeps 75 = .ok (.iaload, 1) := by decide +kernel
theorem dX11_keeps_76 : decode cX11_keeps 76 = .ok (.iastore, 1) := by decide +kernel
theorem dX11_keeps_77 : decode cX11_keeps 77 = .ok (.iinc 1 1, 3) := by decide +kernel
theorem dX11_keeps_80 : decode cX11_keeps 80 = .ok (.goto (-29), 3) := by decide +kernel
theorem dX11_keeps_83 : decode cX11_keeps 83 = .ok (.aload_n 0, 1) := by decide +kernel
theorem dX11_keeps_84 : decode cX11_keeps 84 = .ok (.dup, 1) := by decide +kernel
theorem dX11_keeps_85 : decode cX11_keeps 85 = .ok (.getfield 61, 3) := by decide +kernel
theorem dX11_keeps_88 : decode cX11_keeps 88 = .ok (.iconst 1, 1) := by decide +kernel
theorem dX11_keeps_89 : decode cX11_keeps 89 = .ok (.iadd, 1) := by decide +kernel
theorem dX11_keeps_90 : decode cX11_keeps 90 = .ok (.putfield 61, 3) := by decide +kernel
theorem dX11_keeps_93 : decode cX11_keeps 93 = .ok (.aload_n 0, 1) := by decide +kernel
theorem dX11_keeps_94 : decode cX11_keeps 94 = .ok (.iconst 1, 1) := by decide +kernel
theorem dX11_keeps_95 : decode cX11_keeps 95 = .ok (.putfield 309, 3) := by decide +kernel
theorem dX11_keeps_98 : decode cX11_keeps 98 = .ok (.return_, 1) := by decide +kernel
theorem dX11_undo_0 : decode cX11_undo 0 = .ok (.aload_n 0, 1) := by decide +kernel
theorem dX11_undo_1 : decode cX11_undo 1 = .ok (.getfield 61, 3) := by decide +kernel
theorem dX11_undo_4 : decode cX11_undo 4 = .ok (.ifCond .ne 5, 3) := by decide +kernel
theorem dX11_undo_7 : decode cX11_undo 7 = .ok (.iconst 0, 1) := by decide +kernel
theorem dX11_undo_8 : decode cX11_undo 8 = .ok (.ireturn, 1) := by decide +kernel
theorem dX11_undo_9 : decode cX11_undo 9 = .ok (.aload_n 0, 1) := by decide +kernel
theorem dX11_undo_10 : decode cX11_undo 10 = .ok (.dup, 1) := by decide +kernel
theorem dX11_undo_11 : decode cX11_undo 11 = .ok (.getfield 61, 3) := by decide +kernel
theorem dX11_undo_14 : decode cX11_undo 14 = .ok (.iconst 1, 1) := by decide +kernel
theorem dX11_undo_15 : decode cX11_undo 15 = .ok (.isub, 1) := by decide +kernel
theorem dX11_undo_16 : decode cX11_undo 16 = .ok (.putfield 61, 3) := by decide +kernel
theorem dX11_undo_19 : decode cX11_undo 19 = .ok (.iconst 0, 1) := by decide +kernel
theorem dX11_undo_20 : decode cX11_undo 20 = .ok (.istore_n 1, 1) := by decide +kernel
theorem dX11_undo_21 : decode cX11_undo 21 = .ok (.iload_n 1, 1) := by decide +kernel
theorem dX11_undo_22 : decode cX11_undo 22 = .ok (.bipush 80, 2) := by decide +kernel
theorem dX11_undo_24 : decode cX11_undo 24 = .ok (.if_icmp .ge 29, 3) := by decide +kernel
theorem dX11_undo_27 : decode cX11_undo 27 = .ok (.aload_n 0, 1) := by decide +kernel
theorem dX11_undo_28 : decode cX11_undo 28 = .ok (.getfield 7, 3) := by decide +kernel
theorem dX11_undo_31 : decode cX11_undo 31 = .ok (.iload_n 1, 1) := by decide +kernel
theorem dX11_undo_32 : decode cX11_undo 32 = .ok (.aload_n 0, 1) := by decide +kernel
theorem dX11_undo_33 : decode cX11_undo 33 = .ok (.getfield 16, 3) := by decide +kernel
theorem dX11_undo_36 : decode cX11_undo 36 = .ok (.bipush 80, 2) := by decide +kernel
theorem dX11_undo_38 : decode cX11_undo 38 = .ok (.aload_n 0, 1) := by decide +kernel
theorem dX11_undo_39 : decode cX11_undo 39 = .ok (.getfield 61, 3) := by decide +kernel
theorem dX11_undo_42 : decode cX11_undo 42 = .ok (.imul, 1) := by decide +kernel
theorem dX11_undo_43 : decode cX11_undo 43 = .ok (.iload_n 1, 1) := by decide +kernel
theorem dX11_undo_44 : decode cX11_undo 44 = .ok (.iadd, 1) := by decide +kernel
theorem dX11_undo_45 : decode cX11_undo 45 = .ok (.iaload, 1) := by decide +kernel
theorem dX11_undo_46 : decode cX11_undo 46 = .ok (.iastore, 1) := by decide +kernel
theorem dX11_undo_47 : decode cX11_undo 47 = .ok (.iinc 1 1, 3) := by decide +kernel
theorem dX11_undo_50 : decode cX11_undo 50 = .ok (.goto (-29), 3) := by decide +kernel
theorem dX11_undo_53 : decode cX11_undo 53 = .ok (.iconst 1, 1) := by decide +kernel
theorem dX11_undo_54 : decode cX11_undo 54 = .ok (.ireturn, 1) := by decide +kernel
theorem dX11_notes_0 : decode cX11_notes 0 = .ok (.aload_n 0, 1) := by decide +kernel
theorem dX11_notes_1 : decode cX11_notes 1 = .ok (.getfield 309, 3) := by decide +kernel
theorem dX11_notes_4 : decode cX11_notes 4 = .ok (.ifCond .eq 15, 3) := by decide +kernel
theorem dX11_notes_7 : decode cX11_notes 7 = .ok (.aload_n 0, 1) := by decide +kernel
theorem dX11_notes_8 : decode cX11_notes 8 = .ok (.getfield 7, 3) := by decide +kernel
theorem dX11_notes_11 : decode cX11_notes 11 = .ok (.iconst 5, 1) := by decide +kernel
theorem dX11_notes_12 : decode cX11_notes 12 = .ok (.iaload, 1) := by decide +kernel
theorem dX11_notes_13 : decode cX11_notes 13 = .ok (.sipush 150, 3) := by decide +kernel
theorem dX11_notes_16 : decode cX11_notes 16 = .ok (.if_icmp .ne 4, 3) := by decide +kernel
theorem dX11_notes_19 : decode cX11_notes 19 = .ok (.return_, 1) := by decide +kernel
theorem dX11_notes_20 : decode cX11_notes 20 = .ok (.sipush 370, 3) := by decide +kernel
theorem dX11_notes_23 : decode cX11_notes 23 = .ok (.iconst 4, 1) := by decide +kernel
theorem dX11_notes_24 : decode cX11_notes 24 = .ok (.aload_n 0, 1) := by decide +kernel
theorem dX11_notes_25 : decode cX11_notes 25 = .ok (.getfield 7, 3) := by decide +kernel
theorem dX11_notes_28 : decode cX11_notes 28 = .ok (.iconst 5, 1) := by decide +kernel
theorem dX11_notes_29 : decode cX11_notes 29 = .ok (.iaload, 1) := by decide +kernel
theorem dX11_notes_30 : decode cX11_notes 30 = .ok (.imul, 1) := by decide +kernel
theorem dX11_notes_31 : decode cX11_notes 31 = .ok (.iadd, 1) := by decide +kernel
theorem dX11_notes_32 : decode cX11_notes 32 = .ok (.istore 4, 2) := by decide +kernel
theorem dX11_notes_34 : decode cX11_notes 34 = .ok (.aload_n 0, 1) := by decide +kernel
theorem dX11_notes_35 : decode cX11_notes 35 = .ok (.getfield 7, 3) := by decide +kernel
theorem dX11_notes_38 : decode cX11_notes 38 = .ok (.iload 4, 2) := by decide +kernel
theorem dX11_notes_40 : decode cX11_notes 40 = .ok (.aload_n 0, 1) := by decide +kernel
theorem dX11_notes_41 : decode cX11_notes 41 = .ok (.getfield 7, 3) := by decide +kernel
theorem dX11_notes_44 : decode cX11_notes 44 = .ok (.iconst 0, 1) := by decide +kernel
theorem dX11_notes_45 : decode cX11_notes 45 = .ok (.iaload, 1) := by decide +kernel
theorem dX11_notes_46 : decode cX11_notes 46 = .ok (.iastore, 1) := by decide +kernel
theorem dX11_notes_47 : decode cX11_notes 47 = .ok (.aload_n 0, 1) := by decide +kernel
theorem dX11_notes_48 : decode cX11_notes 48 = .ok (.getfield 7, 3) := by decide +kernel
theorem dX11_notes_51 : decode cX11_notes 51 = .ok (.iload 4, 2) := by decide +kernel
theorem dX11_notes_53 : decode cX11_notes 53 = .ok (.iconst 1, 1) := by decide +kernel
theorem dX11_notes_54 : decode cX11_notes 54 = .ok (.iadd, 1) := by decide +kernel
theorem dX11_notes_55 : decode cX11_notes 55 = .ok (.iload_n 1, 1) := by decide +kernel
theorem dX11_notes_56 : decode cX11_notes 56 = .ok (.iastore, 1) := by decide +kernel
theorem dX11_notes_57 : decode cX11_notes 57 = .ok (.aload_n 0, 1) := by decide +kernel
theorem dX11_notes_58 : decode cX11_notes 58 = .ok (.getfield 7, 3) := by decide +kernel
theorem dX11_notes_61 : decode cX11_notes 61 = .ok (.iload 4, 2) := by decide +kernel
theorem dX11_notes_63 : decode cX11_notes 63 = .ok (.iconst 2, 1) := by decide +kernel
theorem dX11_notes_64 : decode cX11_notes 64 = .ok (.iadd, 1) := by decide +kernel
theorem dX11_notes_65 : decode cX11_notes 65 = .ok (.iload_n 2, 1) := by decide +kernel
theorem dX11_notes_66 : decode cX11_notes 66 = .ok (.iastore, 1) := by decide +kernel
theorem dX11_notes_67 : decode cX11_notes 67 = .ok (.aload_n 0, 1) := by decide +kernel
theorem dX11_notes_68 : decode cX11_notes 68 = .ok (.getfield 7, 3) := by decide +kernel
theorem dX11_notes_71 : decode cX11_notes 71 = .ok (.iload 4, 2) := by decide +kernel
theorem dX11_notes_73 : decode cX11_notes 73 = .ok (.iconst 3, 1) := by decide +kernel
theorem dX11_notes_74 : decode cX11_notes 74 = .ok (.iadd, 1) := by decide +kernel
theorem dX11_notes_75 : decode cX11_notes 75 = .ok (.iload_n 3, 1) := by decide +kernel
theorem dX11_notes_76 : decode cX11_notes 76 = .ok (.iastore, 1) := by decide +kernel
theorem dX11_notes_77 : decode cX11_notes 77 = .ok (.aload_n 0, 1) := by decide +kernel
theorem dX11_notes_78 : decode cX11_notes 78 = .ok (.getfield 7, 3) := by decide +kernel
theorem dX11_notes_81 : decode cX11_notes 81 = .ok (.iconst 5, 1) := by decide +kernel
theorem dX11_notes_82 : decode cX11_notes 82 = .ok (.dup2, 1) := by decide +kernel
theorem dX11_notes_83 : decode cX11_notes 83 = .ok (.iaload, 1) := by decide +kernel
theorem dX11_notes_84 : decode cX11_notes 84 = .ok (.iconst 1, 1) := by decide +kernel
theorem dX11_notes_85 : decode cX11_notes 85 = .ok (.iadd, 1) := by decide +kernel
theorem dX11_notes_86 : decode cX11_notes 86 = .ok (.iastore, 1) := by decide +kernel
theorem dX11_notes_87 : decode cX11_notes 87 = .ok (.return_, 1) := by decide +kernel
theorem dX11_comes_0 : decode cX11_comes 0 = .ok (.aload_n 0, 1) := by decide +kernel
theorem dX11_comes_1 : decode cX11_comes 1 = .ok (.getfield 7, 3) := by decide +kernel
theorem dX11_comes_4 : decode cX11_comes 4 = .ok (.bipush 7, 2) := by decide +kernel
theorem dX11_comes_6 : decode cX11_comes 6 = .ok (.iaload, 1) := by decide +kernel
theorem dX11_comes_7 : decode cX11_comes 7 = .ok (.istore 6, 2) := by decide +kernel
theorem dX11_comes_9 : decode cX11_comes 9 = .ok (.bipush 8, 2) := by decide +kernel
theorem dX11_comes_11 : decode cX11_comes 11 = .ok (.iconst 5, 1) := by decide +kernel
theorem dX11_comes_12 : decode cX11_comes 12 = .ok (.iload 6, 2) := by decide +kernel
theorem dX11_comes_14 : decode cX11_comes 14 = .ok (.imul, 1) := by decide +kernel
theorem dX11_comes_15 : decode cX11_comes 15 = .ok (.iadd, 1) := by decide +kernel
theorem dX11_comes_16 : decode cX11_comes 16 = .ok (.istore 7, 2) := by decide +kernel
theorem dX11_comes_18 : decode cX11_comes 18 = .ok (.aload_n 0, 1) := by decide +kernel
theorem dX11_comes_19 : decode cX11_comes 19 = .ok (.getfield 7, 3) := by decide +kernel
theorem dX11_comes_22 : decode cX11_comes 22 = .ok (.iload 7, 2) := by decide +kernel
theorem dX11_comes_24 : decode cX11_comes 24 = .ok (.iconst 0, 1) := by decide +kernel
theorem dX11_comes_25 : decode cX11_comes 25 = .ok (.iadd, 1) := by decide +kernel
theorem dX11_comes_26 : decode cX11_comes 26 = .ok (.iload_n 1, 1) := by decide +kernel
theorem dX11_comes_27 : decode cX11_comes 27 = .ok (.iastore, 1) := by decide +kernel
theorem dX11_comes_28 : decode cX11_comes 28 = .ok (.aload_n 0, 1) := by decide +kernel
theorem dX11_comes_29 : decode cX11_comes 29 = .ok (.getfield 7, 3) := by decide +kernel
theorem dX11_comes_32 : decode cX11_comes 32 = .ok (.iload 7, 2) := by decide +kernel
theorem dX11_comes_34 : decode cX11_comes 34 = .ok (.iconst 1, 1) := by decide +kernel
theorem dX11_comes_35 : decode cX11_comes 35 = .ok (.iadd, 1) := by decide +kernel
theorem dX11_comes_36 : decode cX11_comes 36 = .ok (.iload_n 2, 1) := by decide +kernel
theorem dX11_comes_37 : decode cX11_comes 37 = .ok (.iastore, 1) := by decide +kernel
theorem dX11_comes_38 : decode cX11_comes 38 = .ok (.aload_n 0, 1) := by decide +kernel
theorem dX11_comes_39 : decode cX11_comes 39 = .ok (.getfield 7, 3) := by decide +kernel
theorem dX11_comes_42 : decode cX11_comes 42 = .ok (.iload 7, 2) := by decide +kernel
theorem dX11_comes_44 : decode cX11_comes 44 = .ok (.iconst 2, 1) := by decide +kernel
theorem dX11_comes_45 : decode cX11_comes 45 = .ok (.iadd, 1) := by decide +kernel
theorem dX11_comes_46 : decode cX11_comes 46 = .ok (.iload_n 3, 1) := by decide +kernel
theorem dX11_comes_47 : decode cX11_comes 47 = .ok (.iastore, 1) := by decide +kernel
theorem dX11_comes_48 : decode cX11_comes 48 = .ok (.aload_n 0, 1) := by decide +kernel
theorem dX11_comes_49 : decode cX11_comes 49 = .ok (.getfield 7, 3) := by decide +kernel
theorem dX11_comes_52 : decode cX11_comes 52 = .ok (.iload 7, 2) := by decide +kernel
theorem dX11_comes_54 : decode cX11_comes 54 = .ok (.iconst 3, 1) := by decide +kernel
theorem dX11_comes_55 : decode cX11_comes 55 = .ok (.iadd, 1) := by decide +kernel
theorem dX11_comes_56 : decode cX11_comes 56 = .ok (.iload 4, 2) := by decide +kernel
theorem dX11_comes_58 : decode cX11_comes 58 = .ok (.iastore, 1) := by decide +kernel
theorem dX11_comes_59 : decode cX11_comes 59 = .ok (.aload_n 0, 1) := by decide +kernel
theorem dX11_comes_60 : decode cX11_comes 60 = .ok (.getfield 7, 3) := by decide +kernel
theorem dX11_comes_63 : decode cX11_comes 63 = .ok (.iload 7, 2) := by decide +kernel
theorem dX11_comes_65 : decode cX11_comes 65 = .ok (.iconst 4, 1) := by decide +kernel
theorem dX11_comes_66 : decode cX11_comes 66 = .ok (.iadd, 1) := by decide +kernel
theorem dX11_comes_67 : decode cX11_comes 67 = .ok (.iload 5, 2) := by decide +kernel
theorem dX11_comes_69 : decode cX11_comes 69 = .ok (.iastore, 1) := by decide +kernel
theorem dX11_comes_70 : decode cX11_comes 70 = .ok (.aload_n 0, 1) := by decide +kernel
theorem dX11_comes_71 : decode cX11_comes 71 = .ok (.getfield 7, 3) := by decide +kernel
theorem dX11_comes_74 : decode cX11_comes 74 = .ok (.bipush 7, 2) := by decide +kernel
theorem dX11_comes_76 : decode cX11_comes 76 = .ok (.dup2, 1) := by decide +kernel
theorem dX11_comes_77 : decode cX11_comes 77 = .ok (.iaload, 1) := by decide +kernel
theorem dX11_comes_78 : decode cX11_comes 78 = .ok (.iconst 1, 1) := by decide +kernel
theorem dX11_comes_79 : decode cX11_comes 79 = .ok (.iadd, 1) := by decide +kernel
theorem dX11_comes_80 : decode cX11_comes 80 = .ok (.iastore, 1) := by decide +kernel
theorem dX11_comes_81 : decode cX11_comes 81 = .ok (.iload 6, 2) := by decide +kernel
theorem dX11_comes_83 : decode cX11_comes 83 = .ok (.ireturn, 1) := by decide +kernel
theorem dX11_goesAway_0 : decode cX11_goesAway 0 = .ok (.aload_n 0, 1) := by decide +kernel
theorem dX11_goesAway_1 : decode cX11_goesAway 1 = .ok (.getfield 7, 3) := by decide +kernel
theorem dX11_goesAway_4 : decode cX11_goesAway 4 = .ok (.bipush 7, 2) := by decide +kernel
theorem dX11_goesAway_6 : decode cX11_goesAway 6 = .ok (.dup2, 1) := by decide +kernel
theorem dX11_goesAway_7 : decode cX11_goesAway 7 = .ok (.iaload, 1) := by decide +kernel
theorem dX11_goesAway_8 : decode cX11_goesAway 8 = .ok (.iconst 1, 1) := by decide +kernel
theorem dX11_goesAway_9 : decode cX11_goesAway 9 = .ok (.isub, 1) := by decide +kernel
theorem dX11_goesAway_10 : decode cX11_goesAway 10 = .ok (.iastore, 1) := by decide +kernel
theorem dX11_goesAway_11 : decode cX11_goesAway 11 = .ok (.bipush 8, 2) := by decide +kernel
theorem dX11_goesAway_13 : decode cX11_goesAway 13 = .ok (.iconst 5, 1) := by decide +kernel
theorem dX11_goesAway_14 : decode cX11_goesAway 14 = .ok (.iload_n 1, 1) := by decide +kernel
theorem dX11_goesAway_15 : decode cX11_goesAway 15 = .ok (.imul, 1) := by decide +kernel
theorem dX11_goesAway_16 : decode cX11_goesAway 16 = .ok (.iadd, 1) := by decide +kernel
theorem dX11_goesAway_17 : decode cX11_goesAway 17 = .ok (.istore_n 2, 1) := by decide +kernel
theorem dX11_goesAway_18 : decode cX11_goesAway 18 = .ok (.iload_n 2, 1) := by decide +kernel
theorem dX11_goesAway_19 : decode cX11_goesAway 19 = .ok (.bipush 8, 2) := by decide +kernel
theorem dX11_goesAway_21 : decode cX11_goesAway 21 = .ok (.iconst 5, 1) := by decide +kernel
theorem dX11_goesAway_22 : decode cX11_goesAway 22 = .ok (.aload_n 0, 1) := by decide +kernel
theorem dX11_goesAway_23 : decode cX11_goesAway 23 = .ok (.getfield 7, 3) := by decide +kernel
theorem dX11_goesAway_26 : decode cX11_goesAway 26 = .ok (.bipush 7, 2) := by decide +kernel
theorem dX11_goesAway_28 : decode cX11_goesAway 28 = .ok (.iaload, 1) := by decide +kernel
theorem dX11_goesAway_29 : decode cX11_goesAway 29 = .ok (.imul, 1) := by decide +kernel
theorem dX11_goesAway_30 : decode cX11_goesAway 30 = .ok (.iadd, 1) := by decide +kernel
theorem dX11_goesAway_31 : decode cX11_goesAway 31 = .ok (.if_icmp .ge 23, 3) := by decide +kernel
theorem dX11_goesAway_34 : decode cX11_goesAway 34 = .ok (.aload_n 0, 1) := by decide +kernel
theorem dX11_goesAway_35 : decode cX11_goesAway 35 = .ok (.getfield 7, 3) := by decide +kernel
theorem dX11_goesAway_38 : decode cX11_goesAway 38 = .ok (.iload_n 2, 1) := by decide +kernel
theorem dX11_goesAway_39 : decode cX11_goesAway 39 = .ok (.aload_n 0, 1) := by decide +kernel
theorem dX11_goesAway_40 : decode cX11_goesAway 40 = .ok (.getfield 7, 3) := by decide +kernel
theorem dX11_goesAway_43 : decode cX11_goesAway 43 = .ok (.iload_n 2, 1) := by decide +kernel
theorem dX11_goesAway_44 : decode cX11_goesAway 44 = .ok (.iconst 5, 1) := by decide +kernel
theorem dX11_goesAway_45 : decode cX11_goesAway 45 = .ok (.iadd, 1) := by decide +kernel
theorem dX11_goesAway_46 : decode cX11_goesAway 46 = .ok (.iaload, 1) := by decide +kernel
theorem dX11_goesAway_47 : decode cX11_goesAway 47 = .ok (.iastore, 1) := by decide +kernel
theorem dX11_goesAway_48 : decode cX11_goesAway 48 = .ok (.iinc 2 1, 3) := by decide +kernel
theorem dX11_goesAway_51 : decode cX11_goesAway 51 = .ok (.goto (-33), 3) := by decide +kernel
theorem dX11_goesAway_54 : decode cX11_goesAway 54 = .ok (.return_, 1) := by decide +kernel
theorem dX11_feasts_0 : decode cX11_feasts 0 = .ok (.aload_n 0, 1) := by decide +kernel
theorem dX11_feasts_1 : decode cX11_feasts 1 = .ok (.getfield 7, 3) := by decide +kernel
theorem dX11_feasts_4 : decode cX11_feasts 4 = .ok (.bipush 7, 2) := by decide +kernel
theorem dX11_feasts_6 : decode cX11_feasts 6 = .ok (.iaload, 1) := by decide +kernel
theorem dX11_feasts_7 : decode cX11_feasts 7 = .ok (.bipush 14, 2) := by decide +kernel
theorem dX11_feasts_9 : decode cX11_feasts 9 = .ok (.if_icmp .ne 7, 3) := by decide +kernel
theorem dX11_feasts_12 : decode cX11_feasts 12 = .ok (.iconst 0, 1) := by decide +kernel
theorem dX11_feasts_13 : decode cX11_feasts 13 = .ok (.goto 9, 3) := by decide +kernel
theorem dX11_feasts_16 : decode cX11_feasts 16 = .ok (.aload_n 0, 1) := by decide +kernel
theorem dX11_feasts_17 : decode cX11_feasts 17 = .ok (.iload_n 1, 1) := by decide +kernel
theorem dX11_feasts_18 : decode cX11_feasts 18 = .ok (.iload_n 2, 1) := by decide +kernel
theorem dX11_feasts_19 : decode cX11_feasts 19 = .ok (.invokevirtual 313, 3) := by decide +kernel
theorem dX11_feasts_22 : decode cX11_feasts 22 = .ok (.istore_n 3, 1) := by decide +kernel
theorem dX11_feasts_23 : decode cX11_feasts 23 = .ok (.aload_n 0, 1) := by decide +kernel
theorem dX11_feasts_24 : decode cX11_feasts 24 = .ok (.getfield 7, 3) := by decide +kernel
theorem dX11_feasts_27 : decode cX11_feasts 27 = .ok (.iconst 3, 1) := by decide +kernel
theorem dX11_feasts_28 : decode cX11_feasts 28 = .ok (.dup2, 1) := by decide +kernel
theorem dX11_feasts_29 : decode cX11_feasts 29 = .ok (.iaload, 1) := by decide +kernel
theorem dX11_feasts_30 : decode cX11_feasts 30 = .ok (.iconst 1, 1) := by decide +kernel
theorem dX11_feasts_31 : decode cX11_feasts 31 = .ok (.iadd, 1) := by decide +kernel
theorem dX11_feasts_32 : decode cX11_feasts 32 = .ok (.iastore, 1) := by decide +kernel
theorem dX11_feasts_33 : decode cX11_feasts 33 = .ok (.iload_n 3, 1) := by decide +kernel
theorem dX11_feasts_34 : decode cX11_feasts 34 = .ok (.ifCond .le 27, 3) := by decide +kernel
theorem dX11_feasts_37 : decode cX11_feasts 37 = .ok (.aload_n 0, 1) := by decide +kernel
theorem dX11_feasts_38 : decode cX11_feasts 38 = .ok (.iload_n 1, 1) := by decide +kernel
theorem dX11_feasts_39 : decode cX11_feasts 39 = .ok (.iload_n 2, 1) := by decide +kernel
theorem dX11_feasts_40 : decode cX11_feasts 40 = .ok (.invokevirtual 316, 3) := by decide +kernel
theorem dX11_feasts_43 : decode cX11_feasts 43 = .ok (.istore 4, 2) := by decide +kernel
theorem dX11_feasts_45 : decode cX11_feasts 45 = .ok (.aload_n 0, 1) := by decide +kernel
theorem dX11_feasts_46 : decode cX11_feasts 46 = .ok (.iload_n 1, 1) := by decide +kernel
theorem dX11_feasts_47 : decode cX11_feasts 47 = .ok (.iload_n 3, 1) := by decide +kernel
theorem dX11_feasts_48 : decode cX11_feasts 48 = .ok (.aload_n 0, 1) := by decide +kernel
theorem dX11_feasts_49 : decode cX11_feasts 49 = .ok (.getfield 7, 3) := by decide +kernel
theorem dX11_feasts_52 : decode cX11_feasts 52 = .ok (.iconst 0, 1) := by decide +kernel
theorem dX11_feasts_53 : decode cX11_feasts 53 = .ok (.iaload, 1) := by decide +kernel
theorem dX11_feasts_54 : decode cX11_feasts 54 = .ok (.iload 4, 2) := by decide +kernel
theorem dX11_feasts_56 : decode cX11_feasts 56 = .ok (.iconst 0, 1) := by decide +kernel
theorem dX11_feasts_57 : decode cX11_feasts 57 = .ok (.invokevirtual 319, 3) := by decide +kernel
theorem dX11_feasts_60 : decode cX11_feasts 60 = .ok (.pop, 1) := by decide +kernel
theorem dX11_feasts_61 : decode cX11_feasts 61 = .ok (.aload_n 0, 1) := by decide +kernel
theorem dX11_feasts_62 : decode cX11_feasts 62 = .ok (.iconst 0, 1) := by decide +kernel
theorem dX11_feasts_63 : decode cX11_feasts 63 = .ok (.iload_n 1, 1) := by decide +kernel
theorem dX11_feasts_64 : decode cX11_feasts 64 = .ok (.iload_n 3, 1) := by decide +kernel
theorem dX11_feasts_65 : decode cX11_feasts 65 = .ok (.invokevirtual 323, 3) := by decide +kernel
theorem dX11_feasts_68 : decode cX11_feasts 68 = .ok (.iload_n 3, 1) := by decide +kernel
theorem dX11_feasts_69 : decode cX11_feasts 69 = .ok (.ireturn, 1) := by decide +kernel
theorem dX11_feast_0 : decode cX11_feast 0 = .ok (.aload_n 0, 1) := by decide +kernel
theorem dX11_feast_1 : decode cX11_feast 1 = .ok (.iload_n 1, 1) := by decide +kernel
theorem dX11_feast_2 : decode cX11_feast 2 = .ok (.invokevirtual 239, 3) := by decide +kernel
theorem dX11_feast_5 : decode cX11_feast 5 = .ok (.ifCond .eq 13, 3) := by decide +kernel
theorem dX11_feast_8 : decode cX11_feast 8 = .ok (.iload_n 2, 1) := by decide +kernel
theorem dX11_feast_9 : decode cX11_feast 9 = .ok (.iconst 1, 1) := by decide +kernel
theorem dX11_feast_10 : decode cX11_feast 10 = .ok (.bipush 20, 2) := by decide +kernel
theorem dX11_feast_12 : decode cX11_feast 12 = .ok (.invokestatic 53, 3) := by decide +kernel
theorem dX11_feast_15 : decode cX11_feast 15 = .ok (.ifCond .ne 5, 3) := by decide +kernel
theorem dX11_feast_18 : decode cX11_feast 18 = .ok (.iconst (-1), 1) := by decide +kernel
theorem dX11_feast_19 : decode cX11_feast 19 = .ok (.ireturn, 1) := by decide +kernel
theorem dX11_feast_20 : decode cX11_feast 20 = .ok (.aload_n 0, 1) := by decide +kernel
theorem dX11_feast_21 : decode cX11_feast 21 = .ok (.invokevirtual 327, 3) := by decide +kernel
theorem dX11_feast_24 : decode cX11_feast 24 = .ok (.aload_n 0, 1) := by decide +kernel
theorem dX11_feast_25 : decode cX11_feast 25 = .ok (.iload_n 1, 1) := by decide +kernel
theorem dX11_feast_26 : decode cX11_feast 26 = .ok (.iload_n 2, 1) := by decide +kernel
theorem dX11_feast_27 : decode cX11_feast 27 = .ok (.invokevirtual 329, 3) := by decide +kernel
theorem dX11_feast_30 : decode cX11_feast 30 = .ok (.ireturn, 1) := by decide +kernel
theorem dX11_forge_0 : decode cX11_forge 0 = .ok (.aload_n 0, 1) := by decide +kernel
theorem dX11_forge_1 : decode cX11_forge 1 = .ok (.iload_n 1, 1) := by decide +kernel
theorem dX11_forge_2 : decode cX11_forge 2 = .ok (.invokevirtual 239, 3) := by decide +kernel
theorem dX11_forge_5 : decode cX11_forge 5 = .ok (.ifCond .eq 41, 3) := by decide +kernel
theorem dX11_forge_8 : decode cX11_forge 8 = .ok (.iload_n 2, 1) := by decide +kernel
theorem dX11_forge_9 : decode cX11_forge 9 = .ok (.iconst 1, 1) := by decide +kernel
theorem dX11_forge_10 : decode cX11_forge 10 = .ok (.aload_n 0, 1) := by decide +kernel
theorem dX11_forge_11 : decode cX11_forge 11 = .ok (.iload_n 1, 1) := by decide +kernel
theorem dX11_forge_12 : decode cX11_forge 12 = .ok (.invokevirtual 294, 3) := by decide +kernel
theorem dX11_forge_15 : decode cX11_forge 15 = .ok (.iconst 1, 1) := by decide +kernel
theorem dX11_forge_16 : decode cX11_forge 16 = .ok (.isub, 1) := by decide +kernel
theorem dX11_forge_17 : decode cX11_forge 17 = .ok (.invokestatic 53, 3) := by decide +kernel
theorem dX11_forge_20 : decode cX11_forge 20 = .ok (.ifCond .eq 26, 3) := by decide +kernel
theorem dX11_forge_23 : decode cX11_forge 23 = .ok (.aload_n 0, 1) := by decide +kernel
theorem dX11_forge_24 : decode cX11_forge 24 = .ok (.getfield 7, 3) := by decide +kernel
theorem dX11_forge_27 : decode cX11_forge 27 = .ok (.iconst 1, 1) := by decide +kernel
theorem dX11_forge_28 : decode cX11_forge 28 = .ok (.iaload, 1) := by decide +kernel
theorem dX11_forge_29 : decode cX11_forge 29 = .ok (.bipush 20, 2) := by decide +kernel
theorem dX11_forge_31 : decode cX11_forge 31 = .ok (.if_icmp .lt 15, 3) := by decide +kernel
theorem dX11_forge_34 : decode cX11_forge 34 = .ok (.aload_n 0, 1) := by decide +kernel
theorem dX11_forge_35 : decode cX11_forge 35 = .ok (.getfield 7, 3) := by decide +kernel
theorem dX11_forge_38 : decode cX11_forge 38 = .ok (.bipush 7, 2) := by decide +kernel
theorem dX11_forge_40 : decode cX11_forge 40 = .ok (.iaload, 1) := by decide +kernel
theorem dX11_forge_41 : decode cX11_forge 41 = .ok (.bipush 14, 2) := by decide +kernel
theorem dX11_forge_43 : decode cX11_forge 43 = .ok (.if_icmp .ne 5, 3) := by decide +kernel
theorem dX11_forge_46 : decode cX11_forge 46 = .ok (.iconst (-1), 1) := by decide +kernel
theorem dX11_forge_47 : decode cX11_forge 47 = .ok (.ireturn, 1) := by decide +kernel
theorem dX11_forge_48 : decode cX11_forge 48 = .ok (.aload_n 0, 1) := by decide +kernel
theorem dX11_forge_49 : decode cX11_forge 49 = .ok (.invokevirtual 327, 3) := by decide +kernel
theorem dX11_forge_52 : decode cX11_forge 52 = .ok (.aload_n 0, 1) := by decide +kernel
theorem dX11_forge_53 : decode cX11_forge 53 = .ok (.getfield 7, 3) := by decide +kernel
theorem dX11_forge_56 : decode cX11_forge 56 = .ok (.iconst 1, 1) := by decide +kernel
theorem dX11_forge_57 : decode cX11_forge 57 = .ok (.dup2, 1) := by decide +kernel
theorem dX11_forge_58 : decode cX11_forge 58 = .ok (.iaload, 1) := by decide +kernel
theorem dX11_forge_59 : decode cX11_forge 59 = .ok (.bipush 20, 2) := by decide +kernel
theorem dX11_forge_61 : decode cX11_forge 61 = .ok (.isub, 1) := by decide +kernel
theorem dX11_forge_62 : decode cX11_forge 62 = .ok (.iastore, 1) := by decide +kernel
theorem dX11_forge_63 : decode cX11_forge 63 = .ok (.aload_n 0, 1) := by decide +kernel
theorem dX11_forge_64 : decode cX11_forge 64 = .ok (.iconst 1, 1) := by decide +kernel
theorem dX11_forge_65 : decode cX11_forge 65 = .ok (.iload_n 1, 1) := by decide +kernel
theorem dX11_forge_66 : decode cX11_forge 66 = .ok (.iload_n 2, 1) := by decide +kernel
theorem dX11_forge_67 : decode cX11_forge 67 = .ok (.invokevirtual 323, 3) := by decide +kernel
theorem dX11_forge_70 : decode cX11_forge 70 = .ok (.aload_n 0, 1) := by decide +kernel
theorem dX11_forge_71 : decode cX11_forge 71 = .ok (.iload_n 1, 1) := by decide +kernel
theorem dX11_forge_72 : decode cX11_forge 72 = .ok (.iload_n 2, 1) := by decide +kernel
theorem dX11_forge_73 : decode cX11_forge 73 = .ok (.aload_n 0, 1) := by decide +kernel
theorem dX11_forge_74 : decode cX11_forge 74 = .ok (.getfield 7, 3) := by decide +kernel
theorem dX11_forge_77 : decode cX11_forge 77 = .ok (.iconst 0, 1) := by decide +kernel
theorem dX11_forge_78 : decode cX11_forge 78 = .ok (.iaload, 1) := by decide +kernel
theorem dX11_forge_79 : decode cX11_forge 79 = .ok (.bipush 9, 2) := by decide +kernel
theorem dX11_forge_81 : decode cX11_forge 81 = .ok (.iconst 1, 1) := by decide +kernel
theorem dX11_forge_82 : decode cX11_forge 82 = .ok (.invokevirtual 319, 3) := by decide +kernel
theorem dX11_forge_85 : decode cX11_forge 85 = .ok (.ireturn, 1) := by decide +kernel
theorem dX11_cut_0 : decode cX11_cut 0 = .ok (.aload_n 0, 1) := by decide +kernel
theorem dX11_cut_1 : decode cX11_cut 1 = .ok (.iload_n 1, 1) := by decide +kernel
theorem dX11_cut_2 : decode cX11_cut 2 = .ok (.invokevirtual 332, 3) := by decide +kernel
theorem dX11_cut_5 : decode cX11_cut 5 = .ok (.ifCond .eq 31, 3) := by decide +kernel
theorem dX11_cut_8 : decode cX11_cut 8 = .ok (.aload_n 0, 1) := by decide +kernel
theorem dX11_cut_9 : decode cX11_cut 9 = .ok (.getfield 7, 3) := by decide +kernel
theorem dX11_cut_12 : decode cX11_cut 12 = .ok (.bipush 7, 2) := by decide +kernel
theorem dX11_cut_14 : decode cX11_cut 14 = .ok (.iaload, 1) := by decide +kernel
theorem dX11_cut_15 : decode cX11_cut 15 = .ok (.bipush 14, 2) := by decide +kernel
theorem dX11_cut_17 : decode cX11_cut 17 = .ok (.if_icmp .eq 19, 3) := by decide +kernel
theorem dX11_cut_20 : decode cX11_cut 20 = .ok (.iload_n 2, 1) := by decide +kernel
theorem dX11_cut_21 : decode cX11_cut 21 = .ok (.iconst 1, 1) := by decide +kernel
theorem dX11_cut_22 : decode cX11_cut 22 = .ok (.aload_n 0, 1) := by decide +kernel
theorem dX11_cut_23 : decode cX11_cut 23 = .ok (.iload_n 1, 1) := by decide +kernel
theorem dX11_cut_24 : decode cX11_cut 24 = .ok (.iconst 1, 1) := by decide +kernel
theorem dX11_cut_25 : decode cX11_cut 25 = .ok (.invokevirtual 57, 3) := by decide +kernel
theorem dX11_cut_28 : decode cX11_cut 28 = .ok (.iconst 1, 1) := by decide +kernel
theorem dX11_cut_29 : decode cX11_cut 29 = .ok (.isub, 1) := by decide +kernel
theorem dX11_cut_30 : decode cX11_cut 30 = .ok (.invokestatic 53, 3) := by decide +kernel
theorem dX11_cut_33 : decode cX11_cut 33 = .ok (.ifCond .ne 5, 3) := by decide +kernel
theorem dX11_cut_36 : decode cX11_cut 36 = .ok (.iconst (-1), 1) := by decide +kernel
theorem dX11_cut_37 : decode cX11_cut 37 = .ok (.ireturn, 1) := by decide +kernel
theorem dX11_cut_38 : decode cX11_cut 38 = .ok (.aload_n 0, 1) := by decide +kernel
theorem dX11_cut_39 : decode cX11_cut 39 = .ok (.invokevirtual 327, 3) := by decide +kernel
theorem dX11_cut_42 : decode cX11_cut 42 = .ok (.bipush 8, 2) := by decide +kernel
theorem dX11_cut_44 : decode cX11_cut 44 = .ok (.iconst 5, 1) := by decide +kernel
theorem dX11_cut_45 : decode cX11_cut 45 = .ok (.iload_n 1, 1) := by decide +kernel
theorem dX11_cut_46 : decode cX11_cut 46 = .ok (.imul, 1) := by decide +kernel
theorem dX11_cut_47 : decode cX11_cut 47 = .ok (.iadd, 1) := by decide +kernel
theorem dX11_cut_48 : decode cX11_cut 48 = .ok (.istore_n 3, 1) := by decide +kernel
theorem dX11_cut_49 : decode cX11_cut 49 = .ok (.aload_n 0, 1) := by decide +kernel
theorem dX11_cut_50 : decode cX11_cut 50 = .ok (.getfield 7, 3) := by decide +kernel
theorem dX11_cut_53 : decode cX11_cut 53 = .ok (.iload_n 3, 1) := by decide +kernel
theorem dX11_cut_54 : decode cX11_cut 54 = .ok (.iconst 1, 1) := by decide +kernel
theorem dX11_cut_55 : decode cX11_cut 55 = .ok (.iadd, 1) := by decide +kernel
theorem dX11_cut_56 : decode cX11_cut 56 = .ok (.iaload, 1) := by decide +kernel
theorem dX11_cut_57 : decode cX11_cut 57 = .ok (.iload_n 2, 1) := by decide +kernel
theorem dX11_cut_58 : decode cX11_cut 58 = .ok (.isub, 1) := by decide +kernel
theorem dX11_cut_59 : decode cX11_cut 59 = .ok (.istore 4, 2) := by decide +kernel
theorem dX11_cut_61 : decode cX11_cut 61 = .ok (.aload_n 0, 1) := by decide +kernel
theorem dX11_cut_62 : decode cX11_cut 62 = .ok (.getfield 7, 3) := by decide +kernel
theorem dX11_cut_65 : decode cX11_cut 65 = .ok (.iload_n 3, 1) := by decide +kernel
theorem dX11_cut_66 : decode cX11_cut 66 = .ok (.iconst 1, 1) := by decide +kernel
theorem dX11_cut_67 : decode cX11_cut 67 = .ok (.iadd, 1) := by decide +kernel
theorem dX11_cut_68 : decode cX11_cut 68 = .ok (.iload_n 2, 1) := by decide +kernel
theorem dX11_cut_69 : decode cX11_cut 69 = .ok (.iastore, 1) := by decide +kernel
theorem dX11_cut_70 : decode cX11_cut 70 = .ok (.aload_n 0, 1) := by decide +kernel
theorem dX11_cut_71 : decode cX11_cut 71 = .ok (.getfield 7, 3) := by decide +kernel
theorem dX11_cut_74 : decode cX11_cut 74 = .ok (.iload_n 3, 1) := by decide +kernel
theorem dX11_cut_75 : decode cX11_cut 75 = .ok (.iconst 3, 1) := by decide +kernel
theorem dX11_cut_76 : decode cX11_cut 76 = .ok (.iadd, 1) := by decide +kernel
theorem dX11_cut_77 : decode cX11_cut 77 = .ok (.bipush 9, 2) := by decide +kernel
theorem dX11_cut_79 : decode cX11_cut 79 = .ok (.aload_n 0, 1) := by decide +kernel
theorem dX11_cut_80 : decode cX11_cut 80 = .ok (.getfield 7, 3) := by decide +kernel
theorem dX11_cut_83 : decode cX11_cut 83 = .ok (.iload_n 3, 1) := by decide +kernel
theorem dX11_cut_84 : decode cX11_cut 84 = .ok (.iconst 3, 1) := by decide +kernel
theorem dX11_cut_85 : decode cX11_cut 85 = .ok (.iadd, 1) := by decide +kernel
theorem dX11_cut_86 : decode cX11_cut 86 = .ok (.iaload, 1) := by decide +kernel
theorem dX11_cut_87 : decode cX11_cut 87 = .ok (.iconst 1, 1) := by decide +kernel
theorem dX11_cut_88 : decode cX11_cut 88 = .ok (.iadd, 1) := by decide +kernel
theorem dX11_cut_89 : decode cX11_cut 89 = .ok (.invokestatic 288, 3) := by decide +kernel
theorem dX11_cut_92 : decode cX11_cut 92 = .ok (.iastore, 1) := by decide +kernel
theorem dX11_cut_93 : decode cX11_cut 93 = .ok (.aload_n 0, 1) := by decide +kernel
theorem dX11_cut_94 : decode cX11_cut 94 = .ok (.iconst 2, 1) := by decide +kernel
theorem dX11_cut_95 : decode cX11_cut 95 = .ok (.aload_n 0, 1) := by decide +kernel
theorem dX11_cut_96 : decode cX11_cut 96 = .ok (.getfield 7, 3) := by decide +kernel
theorem dX11_cut_99 : decode cX11_cut 99 = .ok (.iload_n 3, 1) := by decide +kernel
theorem dX11_cut_100 : decode cX11_cut 100 = .ok (.iconst 0, 1) := by decide +kernel
theorem dX11_cut_101 : decode cX11_cut 101 = .ok (.iadd, 1) := by decide +kernel
theorem dX11_cut_102 : decode cX11_cut 102 = .ok (.iaload, 1) := by decide +kernel
theorem dX11_cut_103 : decode cX11_cut 103 = .ok (.iload_n 2, 1) := by decide +kernel
theorem dX11_cut_104 : decode cX11_cut 104 = .ok (.invokevirtual 323, 3) := by decide +kernel
theorem dX11_cut_107 : decode cX11_cut 107 = .ok (.aload_n 0, 1) := by decide +kernel
theorem dX11_cut_108 : decode cX11_cut 108 = .ok (.aload_n 0, 1) := by decide +kernel
theorem dX11_cut_109 : decode cX11_cut 109 = .ok (.getfield 7, 3) := by decide +kernel
theorem dX11_cut_112 : decode cX11_cut 112 = .ok (.iload_n 3, 1) := by decide +kernel
theorem dX11_cut_113 : decode cX11_cut 113 = .ok (.iconst 0, 1) := by decide +kernel
theorem dX11_cut_114 : decode cX11_cut 114 = .ok (.iadd, 1) := by decide +kernel
theorem dX11_cut_115 : decode cX11_cut 115 = .ok (.iaload, 1) := by decide +kernel
theorem dX11_cut_116 : decode cX11_cut 116 = .ok (.iload 4, 2) := by decide +kernel
theorem dX11_cut_118 : decode cX11_cut 118 = .ok (.aload_n 0, 1) := by decide +kernel
theorem dX11_cut_119 : decode cX11_cut 119 = .ok (.getfield 7, 3) := by decide +kernel
theorem dX11_cut_122 : decode cX11_cut 122 = .ok (.iload_n 3, 1) := by decide +kernel
theorem dX11_cut_123 : decode cX11_cut 123 = .ok (.iconst 2, 1) := by decide +kernel
theorem dX11_cut_124 : decode cX11_cut 124 = .ok (.iadd, 1) := by decide +kernel
theorem dX11_cut_125 : decode cX11_cut 125 = .ok (.iaload, 1) := by decide +kernel
theorem dX11_cut_126 : decode cX11_cut 126 = .ok (.aload_n 0, 1) := by decide +kernel
theorem dX11_cut_127 : decode cX11_cut 127 = .ok (.getfield 7, 3) := by decide +kernel
theorem dX11_cut_130 : decode cX11_cut 130 = .ok (.iload_n 3, 1) := by decide +kernel
theorem dX11_cut_131 : decode cX11_cut 131 = .ok (.iconst 3, 1) := by decide +kernel
theorem dX11_cut_132 : decode cX11_cut 132 = .ok (.iadd, 1) := by decide +kernel
theorem dX11_cut_133 : decode cX11_cut 133 = .ok (.iaload, 1) := by decide +kernel
theorem dX11_cut_134 : decode cX11_cut 134 = .ok (.aload_n 0, 1) := by decide +kernel
theorem dX11_cut_135 : decode cX11_cut 135 = .ok (.getfield 7, 3) := by decide +kernel
theorem dX11_cut_138 : decode cX11_cut 138 = .ok (.iload_n 3, 1) := by decide +kernel
theorem dX11_cut_139 : decode cX11_cut 139 = .ok (.iconst 4, 1) := by decide +kernel
theorem dX11_cut_140 : decode cX11_cut 140 = .ok (.iadd, 1) := by decide +kernel
theorem dX11_cut_141 : decode cX11_cut 141 = .ok (.iaload, 1) := by decide +kernel
theorem dX11_cut_142 : decode cX11_cut 142 = .ok (.invokevirtual 319, 3) := by decide +kernel
theorem dX11_cut_145 : decode cX11_cut 145 = .ok (.ireturn, 1) := by decide +kernel
theorem dX11_joined_0 : decode cX11_joined 0 = .ok (.bipush 9, 2) := by decide +kernel
theorem dX11_joined_2 : decode cX11_joined 2 = .ok (.iload_n 0, 1) := by decide +kernel
theorem dX11_joined_3 : decode cX11_joined 3 = .ok (.imul, 1) := by decide +kernel
theorem dX11_joined_4 : decode cX11_joined 4 = .ok (.bipush 10, 2) := by decide +kernel
theorem dX11_joined_6 : decode cX11_joined 6 = .ok (.idiv, 1) := by decide +kernel
theorem dX11_joined_7 : decode cX11_joined 7 = .ok (.ireturn, 1) := by decide +kernel
theorem dX11_join_0 : decode cX11_join 0 = .ok (.aload_n 0, 1) := by decide +kernel
theorem dX11_join_1 : decode cX11_join 1 = .ok (.iload_n 1, 1) := by decide +kernel
theorem dX11_join_2 : decode cX11_join 2 = .ok (.invokevirtual 332, 3) := by decide +kernel
theorem dX11_join_5 : decode cX11_join 5 = .ok (.ifCond .eq 31, 3) := by decide +kernel
theorem dX11_join_8 : decode cX11_join 8 = .ok (.aload_n 0, 1) := by decide +kernel
theorem dX11_join_9 : decode cX11_join 9 = .ok (.iload_n 2, 1) := by decide +kernel
theorem dX11_join_10 : decode cX11_join 10 = .ok (.invokevirtual 332, 3) := by decide +kernel
theorem dX11_join_13 : decode cX11_join 13 = .ok (.ifCond .eq 23, 3) := by decide +kernel
theorem dX11_join_16 : decode cX11_join 16 = .ok (.iload_n 1, 1) := by decide +kernel
theorem dX11_join_17 : decode cX11_join 17 = .ok (.iload_n 2, 1) := by decide +kernel
theorem dX11_join_18 : decode cX11_join 18 = .ok (.if_icmp .eq 18, 3) := by decide +kernel
theorem dX11_join_21 : decode cX11_join 21 = .ok (.aload_n 0, 1) := by decide +kernel
theorem dX11_join_22 : decode cX11_join 22 = .ok (.iload_n 1, 1) := by decide +kernel
theorem dX11_join_23 : decode cX11_join 23 = .ok (.iconst 0, 1) := by decide +kernel
theorem dX11_join_24 : decode cX11_join 24 = .ok (.invokevirtual 57, 3) := by decide +kernel
theorem dX11_join_27 : decode cX11_join 27 = .ok (.aload_n 0, 1) := by decide +kernel
theorem dX11_join_28 : decode cX11_join 28 = .ok (.iload_n 2, 1) := by decide +kernel
theorem dX11_join_29 : decode cX11_join 29 = .ok (.iconst 0, 1) := by decide +kernel
theorem dX11_join_30 : decode cX11_join 30 = .ok (.invokevirtual 57, 3) := by decide +kernel
theorem dX11_join_33 : decode cX11_join 33 = .ok (.if_icmp .eq 5, 3) := by decide +kernel
theorem dX11_join_36 : decode cX11_join 36 = .ok (.iconst (-1), 1) := by decide +kernel
theorem dX11_join_37 : decode cX11_join 37 = .ok (.ireturn, 1) := by decide +kernel
theorem dX11_join_38 : decode cX11_join 38 = .ok (.iconst 1, 1) := by decide +kernel
theorem dX11_join_39 : decode cX11_join 39 = .ok (.bipush 99, 2) := by decide +kernel
theorem dX11_join_41 : decode cX11_join 41 = .ok (.aload_n 0, 1) := by decide +kernel
theorem dX11_join_42 : decode cX11_join 42 = .ok (.iload_n 1, 1) := by decide +kernel
theorem dX11_join_43 : decode cX11_join 43 = .ok (.iconst 1, 1) := by decide +kernel
theorem dX11_join_44 : decode cX11_join 44 = .ok (.invokevirtual 57, 3) := by decide +kernel
theorem dX11_join_47 : decode cX11_join 47 = .ok (.aload_n 0, 1) := by decide +kernel
theorem dX11_join_48 : decode cX11_join 48 = .ok (.iload_n 2, 1) := by decide +kernel
theorem dX11_join_49 : decode cX11_join 49 = .ok (.iconst 1, 1) := by decide +kernel
theorem dX11_join_50 : decode cX11_join 50 = .ok (.invokevirtual 57, 3) := by decide +kernel
theorem dX11_join_53 : decode cX11_join 53 = .ok (.iadd, 1) := by decide +kernel
theorem dX11_join_54 : decode cX11_join 54 = .ok (.invokestatic 335, 3) := by decide +kernel
theorem dX11_join_57 : decode cX11_join 57 = .ok (.invokestatic 288, 3) := by decide +kernel
theorem dX11_join_60 : decode cX11_join 60 = .ok (.invokestatic 291, 3) := by decide +kernel
theorem dX11_join_63 : decode cX11_join 63 = .ok (.istore_n 3, 1) := by decide +kernel
theorem dX11_join_64 : decode cX11_join 64 = .ok (.aload_n 0, 1) := by decide +kernel
theorem dX11_join_65 : decode cX11_join 65 = .ok (.invokevirtual 327, 3) := by decide +kernel
theorem dX11_join_68 : decode cX11_join 68 = .ok (.bipush 8, 2) := by decide +kernel
theorem dX11_join_70 : decode cX11_join 70 = .ok (.iconst 5, 1) := by decide +kernel
theorem dX11_join_71 : decode cX11_join 71 = .ok (.iload_n 1, 1) := by decide +kernel
theorem dX11_join_72 : decode cX11_join 72 = .ok (.imul, 1) := by decide +kernel
theorem dX11_join_73 : decode cX11_join 73 = .ok (.iadd, 1) := by decide +kernel
theorem dX11_join_74 : decode cX11_join 74 = .ok (.istore 4, 2) := by decide +kernel
theorem dX11_join_76 : decode cX11_join 76 = .ok (.aload_n 0, 1) := by decide +kernel
theorem dX11_join_77 : decode cX11_join 77 = .ok (.getfield 7, 3) := by decide +kernel
theorem dX11_join_80 : decode cX11_join 80 = .ok (.iload 4, 2) := by decide +kernel
theorem dX11_join_82 : decode cX11_join 82 = .ok (.iconst 1, 1) := by decide +kernel
theorem dX11_join_83 : decode cX11_join 83 = .ok (.iadd, 1) := by decide +kernel
theorem dX11_join_84 : decode cX11_join 84 = .ok (.iload_n 3, 1) := by decide +kernel
theorem dX11_join_85 : decode cX11_join 85 = .ok (.iastore, 1) := by decide +kernel
theorem dX11_join_86 : decode cX11_join 86 = .ok (.aload_n 0, 1) := by decide +kernel
theorem dX11_join_87 : decode cX11_join 87 = .ok (.getfield 7, 3) := by decide +kernel
theorem dX11_join_90 : decode cX11_join 90 = .ok (.iload 4, 2) := by decide +kernel
theorem dX11_join_92 : decode cX11_join 92 = .ok (.iconst 3, 1) := by decide +kernel
theorem dX11_join_93 : decode cX11_join 93 = .ok (.iadd, 1) := by decide +kernel
theorem dX11_join_94 : decode cX11_join 94 = .ok (.aload_n 0, 1) := by decide +kernel
theorem dX11_join_95 : decode cX11_join 95 = .ok (.getfield 7, 3) := by decide +kernel
theorem dX11_join_98 : decode cX11_join 98 = .ok (.iload 4, 2) := by decide +kernel
theorem dX11_join_100 : decode cX11_join 100 = .ok (.iconst 3, 1) := by decide +kernel
theorem dX11_join_101 : decode cX11_join 101 = .ok (.iadd, 1) := by decide +kernel
theorem dX11_join_102 : decode cX11_join 102 = .ok (.iaload, 1) := by decide +kernel
theorem dX11_join_103 : decode cX11_join 103 = .ok (.aload_n 0, 1) := by decide +kernel
theorem dX11_join_104 : decode cX11_join 104 = .ok (.iload_n 2, 1) := by decide +kernel
theorem dX11_join_105 : decode cX11_join 105 = .ok (.iconst 3, 1) := by decide +kernel
theorem dX11_join_106 : decode cX11_join 106 = .ok (.invokevirtual 57, 3) := by decide +kernel
theorem dX11_join_109 : decode cX11_join 109 = .ok (.invokestatic 291, 3) := by decide +kernel
theorem dX11_join_112 : decode cX11_join 112 = .ok (.iastore, 1) := by decide +kernel
theorem dX11_join_113 : decode cX11_join 113 = .ok (.aload_n 0, 1) := by decide +kernel
theorem dX11_join_114 : decode cX11_join 114 = .ok (.getfield 7, 3) := by decide +kernel
theorem dX11_join_117 : decode cX11_join 117 = .ok (.iload 4, 2) := by decide +kernel
theorem dX11_join_119 : decode cX11_join 119 = .ok (.iconst 2, 1) := by decide +kernel
theorem dX11_join_120 : decode cX11_join 120 = .ok (.iadd, 1) := by decide +kernel
theorem dX11_join_121 : decode cX11_join 121 = .ok (.aload_n 0, 1) := by decide +kernel
theorem dX11_join_122 : decode cX11_join 122 = .ok (.getfield 7, 3) := by decide +kernel
theorem dX11_join_125 : decode cX11_join 125 = .ok (.iload 4, 2) := by decide +kernel
theorem dX11_join_127 : decode cX11_join 127 = .ok (.iconst 2, 1) := by decide +kernel
theorem dX11_join_128 : decode cX11_join 128 = .ok (.iadd, 1) := by decide +kernel
theorem dX11_join_129 : decode cX11_join 129 = .ok (.iaload, 1) := by decide +kernel
theorem dX11_join_130 : decode cX11_join 130 = .ok (.aload_n 0, 1) := by decide +kernel
theorem dX11_join_131 : decode cX11_join 131 = .ok (.iload_n 2, 1) := by decide +kernel
theorem dX11_join_132 : decode cX11_join 132 = .ok (.iconst 2, 1) := by decide +kernel
theorem dX11_join_133 : decode cX11_join 133 = .ok (.invokevirtual 57, 3) := by decide +kernel
theorem dX11_join_136 : decode cX11_join 136 = .ok (.invokestatic 288, 3) := by decide +kernel
theorem dX11_join_139 : decode cX11_join 139 = .ok (.iastore, 1) := by decide +kernel
theorem dX11_join_140 : decode cX11_join 140 = .ok (.aload_n 0, 1) := by decide +kernel
theorem dX11_join_141 : decode cX11_join 141 = .ok (.getfield 7, 3) := by decide +kernel
theorem dX11_join_144 : decode cX11_join 144 = .ok (.iload 4, 2) := by decide +kernel
theorem dX11_join_146 : decode cX11_join 146 = .ok (.iconst 4, 1) := by decide +kernel
theorem dX11_join_147 : decode cX11_join 147 = .ok (.iadd, 1) := by decide +kernel
theorem dX11_join_148 : decode cX11_join 148 = .ok (.aload_n 0, 1) := by decide +kernel
theorem dX11_join_149 : decode cX11_join 149 = .ok (.getfield 7, 3) := by decide +kernel
theorem dX11_join_152 : decode cX11_join 152 = .ok (.iload 4, 2) := by decide +kernel
theorem dX11_join_154 : decode cX11_join 154 = .ok (.iconst 4, 1) := by decide +kernel
theorem dX11_join_155 : decode cX11_join 155 = .ok (.iadd, 1) := by decide +kernel
theorem dX11_join_156 : decode cX11_join 156 = .ok (.iaload, 1) := by decide +kernel
theorem dX11_join_157 : decode cX11_join 157 = .ok (.aload_n 0, 1) := by decide +kernel
theorem dX11_join_158 : decode cX11_join 158 = .ok (.iload_n 2, 1) := by decide +kernel
theorem dX11_join_159 : decode cX11_join 159 = .ok (.iconst 4, 1) := by decide +kernel
theorem dX11_join_160 : decode cX11_join 160 = .ok (.invokevirtual 57, 3) := by decide +kernel
theorem dX11_join_163 : decode cX11_join 163 = .ok (.invokestatic 291, 3) := by decide +kernel
theorem dX11_join_166 : decode cX11_join 166 = .ok (.iastore, 1) := by decide +kernel
theorem dX11_join_167 : decode cX11_join 167 = .ok (.aload_n 0, 1) := by decide +kernel
theorem dX11_join_168 : decode cX11_join 168 = .ok (.iconst 3, 1) := by decide +kernel
theorem dX11_join_169 : decode cX11_join 169 = .ok (.aload_n 0, 1) := by decide +kernel
theorem dX11_join_170 : decode cX11_join 170 = .ok (.getfield 7, 3) := by decide +kernel
theorem dX11_join_173 : decode cX11_join 173 = .ok (.iload 4, 2) := by decide +kernel
theorem dX11_join_175 : decode cX11_join 175 = .ok (.iconst 0, 1) := by decide +kernel
theorem dX11_join_176 : decode cX11_join 176 = .ok (.iadd, 1) := by decide +kernel
theorem dX11_join_177 : decode cX11_join 177 = .ok (.iaload, 1) := by decide +kernel
theorem dX11_join_178 : decode cX11_join 178 = .ok (.iload_n 3, 1) := by decide +kernel
theorem dX11_join_179 : decode cX11_join 179 = .ok (.invokevirtual 323, 3) := by decide +kernel
theorem dX11_join_182 : decode cX11_join 182 = .ok (.aload_n 0, 1) := by decide +kernel
theorem dX11_join_183 : decode cX11_join 183 = .ok (.iload_n 2, 1) := by decide +kernel
theorem dX11_join_184 : decode cX11_join 184 = .ok (.invokevirtual 338, 3) := by decide +kernel
theorem dX11_join_187 : decode cX11_join 187 = .ok (.iload_n 3, 1) := by decide +kernel
theorem dX11_join_188 : decode cX11_join 188 = .ok (.ireturn, 1) := by decide +kernel
theorem dX11_sell_0 : decode cX11_sell 0 = .ok (.aload_n 0, 1) := by decide +kernel
theorem dX11_sell_1 : decode cX11_sell 1 = .ok (.iload_n 1, 1) := by decide +kernel
theorem dX11_sell_2 : decode cX11_sell 2 = .ok (.invokevirtual 332, 3) := by decide +kernel
theorem dX11_sell_5 : decode cX11_sell 5 = .ok (.ifCond .ne 5, 3) := by decide +kernel
theorem dX11_sell_8 : decode cX11_sell 8 = .ok (.iconst (-1), 1) := by decide +kernel
theorem dX11_sell_9 : decode cX11_sell 9 = .ok (.ireturn, 1) := by decide +kernel
theorem dX11_sell_10 : decode cX11_sell 10 = .ok (.aload_n 0, 1) := by decide +kernel
theorem dX11_sell_11 : decode cX11_sell 11 = .ok (.invokevirtual 327, 3) := by decide +kernel
theorem dX11_sell_14 : decode cX11_sell 14 = .ok (.aload_n 0, 1) := by decide +kernel
theorem dX11_sell_15 : decode cX11_sell 15 = .ok (.iload_n 1, 1) := by decide +kernel
theorem dX11_sell_16 : decode cX11_sell 16 = .ok (.iconst 0, 1) := by decide +kernel
theorem dX11_sell_17 : decode cX11_sell 17 = .ok (.invokevirtual 342, 3) := by decide +kernel
theorem dX11_sell_20 : decode cX11_sell 20 = .ok (.istore_n 2, 1) := by decide +kernel
theorem dX11_sell_21 : decode cX11_sell 21 = .ok (.aload_n 0, 1) := by decide +kernel
theorem dX11_sell_22 : decode cX11_sell 22 = .ok (.getfield 7, 3) := by decide +kernel
theorem dX11_sell_25 : decode cX11_sell 25 = .ok (.iconst 1, 1) := by decide +kernel
theorem dX11_sell_26 : decode cX11_sell 26 = .ok (.dup2, 1) := by decide +kernel
theorem dX11_sell_27 : decode cX11_sell 27 = .ok (.iaload, 1) := by decide +kernel
theorem dX11_sell_28 : decode cX11_sell 28 = .ok (.iload_n 2, 1) := by decide +kernel
theorem dX11_sell_29 : decode cX11_sell 29 = .ok (.iadd, 1) := by decide +kernel
theorem dX11_sell_30 : decode cX11_sell 30 = .ok (.iastore, 1) := by decide +kernel
theorem dX11_sell_31 : decode cX11_sell 31 = .ok (.aload_n 0, 1) := by decide +kernel
theorem dX11_sell_32 : decode cX11_sell 32 = .ok (.iconst 4, 1) := by decide +kernel
theorem dX11_sell_33 : decode cX11_sell 33 = .ok (.aload_n 0, 1) := by decide +kernel
theorem dX11_sell_34 : decode cX11_sell 34 = .ok (.iload_n 1, 1) := by decide +kernel
theorem dX11_sell_35 : decode cX11_sell 35 = .ok (.iconst 0, 1) := by decide +kernel
theorem dX11_sell_36 : decode cX11_sell 36 = .ok (.invokevirtual 57, 3) := by decide +kernel
theorem dX11_sell_39 : decode cX11_sell 39 = .ok (.iload_n 2, 1) := by decide +kernel
theorem dX11_sell_40 : decode cX11_sell 40 = .ok (.invokevirtual 323, 3) := by decide +kernel
theorem dX11_sell_43 : decode cX11_sell 43 = .ok (.aload_n 0, 1) := by decide +kernel
theorem dX11_sell_44 : decode cX11_sell 44 = .ok (.iload_n 1, 1) := by decide +kernel
theorem dX11_sell_45 : decode cX11_sell 45 = .ok (.invokevirtual 338, 3) := by decide +kernel
theorem dX11_sell_48 : decode cX11_sell 48 = .ok (.iload_n 2, 1) := by decide +kernel
theorem dX11_sell_49 : decode cX11_sell 49 = .ok (.ireturn, 1) := by decide +kernel
theorem dX11_sumOf_0 : decode cX11_sumOf 0 = .ok (.iconst 0, 1) := by decide +kernel
theorem dX11_sumOf_1 : decode cX11_sumOf 1 = .ok (.istore_n 2, 1) := by decide +kernel
theorem dX11_sumOf_2 : decode cX11_sumOf 2 = .ok (.iconst 0, 1) := by decide +kernel
theorem dX11_sumOf_3 : decode cX11_sumOf 3 = .ok (.istore_n 3, 1) := by decide +kernel
theorem dX11_sumOf_4 : decode cX11_sumOf 4 = .ok (.iload_n 3, 1) := by decide +kernel
theorem dX11_sumOf_5 : decode cX11_sumOf 5 = .ok (.aload_n 0, 1) := by decide +kernel
theorem dX11_sumOf_6 : decode cX11_sumOf 6 = .ok (.getfield 7, 3) := by decide +kernel
theorem dX11_sumOf_9 : decode cX11_sumOf 9 = .ok (.bipush 7, 2) := by decide +kernel
theorem dX11_sumOf_11 : decode cX11_sumOf 11 = .ok (.iaload, 1) := by decide +kernel
theorem dX11_sumOf_12 : decode cX11_sumOf 12 = .ok (.if_icmp .ge 31, 3) := by decide +kernel
theorem dX11_sumOf_15 : decode cX11_sumOf 15 = .ok (.iload_n 2, 1) := by decide +kernel
theorem dX11_sumOf_16 : decode cX11_sumOf 16 = .ok (.iload_n 1, 1) := by decide +kernel
theorem dX11_sumOf_17 : decode cX11_sumOf 17 = .ok (.iload_n 3, 1) := by decide +kernel
theorem dX11_sumOf_18 : decode cX11_sumOf 18 = .ok (.ishr, 1) := by decide +kernel
theorem dX11_sumOf_19 : decode cX11_sumOf 19 = .ok (.iconst 1, 1) := by decide +kernel
theorem dX11_sumOf_20 : decode cX11_sumOf 20 = .ok (.iand, 1) := by decide +kernel
theorem dX11_sumOf_21 : decode cX11_sumOf 21 = .ok (.iconst 1, 1) := by decide +kernel
theorem dX11_sumOf_22 : decode cX11_sumOf 22 = .ok (.if_icmp .ne 12, 3) := by decide +kernel
theorem dX11_sumOf_25 : decode cX11_sumOf 25 = .ok (.aload_n 0, 1) := by decide +kernel
theorem dX11_sumOf_26 : decode cX11_sumOf 26 = .ok (.iload_n 3, 1) := by decide +kernel
theorem dX11_sumOf_27 : decode cX11_sumOf 27 = .ok (.iconst 1, 1) := by decide +kernel
theorem dX11_sumOf_28 : decode cX11_sumOf 28 = .ok (.invokevirtual 57, 3) := by decide +kernel
theorem dX11_sumOf_31 : decode cX11_sumOf 31 = .ok (.goto 4, 3) := by decide +kernel
theorem dX11_sumOf_34 : decode cX11_sumOf 34 = .ok (.iconst 0, 1) := by decide +kernel
theorem dX11_sumOf_35 : decode cX11_sumOf 35 = .ok (.iadd, 1) := by decide +kernel
theorem dX11_sumOf_36 : decode cX11_sumOf 36 = .ok (.istore_n 2, 1) := by decide +kernel
theorem dX11_sumOf_37 : decode cX11_sumOf 37 = .ok (.iinc 3 1, 3) := by decide +kernel
theorem dX11_sumOf_40 : decode cX11_sumOf 40 = .ok (.goto (-36), 3) := by decide +kernel
theorem dX11_sumOf_43 : decode cX11_sumOf 43 = .ok (.iload_n 2, 1) := by decide +kernel
theorem dX11_sumOf_44 : decode cX11_sumOf 44 = .ok (.ireturn, 1) := by decide +kernel
theorem dX11_placesOf_0 : decode cX11_placesOf 0 = .ok (.iconst 0, 1) := by decide +kernel
theorem dX11_placesOf_1 : decode cX11_placesOf 1 = .ok (.istore_n 2, 1) := by decide +kernel
theorem dX11_placesOf_2 : decode cX11_placesOf 2 = .ok (.iconst 0, 1) := by decide +kernel
theorem dX11_placesOf_3 : decode cX11_placesOf 3 = .ok (.istore_n 3, 1) := by decide +kernel
theorem dX11_placesOf_4 : decode cX11_placesOf 4 = .ok (.iload_n 3, 1) := by decide +kernel
theorem dX11_placesOf_5 : decode cX11_placesOf 5 = .ok (.aload_n 0, 1) := by decide +kernel
theorem dX11_placesOf_6 : decode cX11_placesOf 6 = .ok (.getfield 7, 3) := by decide +kernel
theorem dX11_placesOf_9 : decode cX11_placesOf 9 = .ok (.bipush 7, 2) := by decide +kernel
theorem dX11_placesOf_11 : decode cX11_placesOf 11 = .ok (.iaload, 1) := by decide +kernel
theorem dX11_placesOf_12 : decode cX11_placesOf 12 = .ok (.if_icmp .ge 29, 3) := by decide +kernel
theorem dX11_placesOf_15 : decode cX11_placesOf 15 = .ok (.iload_n 2, 1) := by decide +kernel
theorem dX11_placesOf_16 : decode cX11_placesOf 16 = .ok (.aload_n 0, 1) := by decide +kernel
theorem dX11_placesOf_17 : decode cX11_placesOf 17 = .ok (.iload_n 3, 1) := by decide +kernel
theorem dX11_placesOf_18 : decode cX11_placesOf 18 = .ok (.iconst 0, 1) := by decide +kernel
theorem dX11_placesOf_19 : decode cX11_placesOf 19 = .ok (.invokevirtual 57, 3) := by decide +kernel
theorem dX11_placesOf_22 : decode cX11_placesOf 22 = .ok (.iload_n 1, 1) := by decide +kernel
theorem dX11_placesOf_23 : decode cX11_placesOf 23 = .ok (.if_icmp .ne 9, 3) := by decide +kernel
theorem dX11_placesOf_26 : decode cX11_placesOf 26 = .ok (.iconst 1, 1) := by decide +kernel
theorem dX11_placesOf_27 : decode cX11_placesOf 27 = .ok (.iload_n 3, 1) := by decide +kernel
theorem dX11_placesOf_28 : decode cX11_placesOf 28 = .ok (.ishl, 1) := by decide +kernel
theorem dX11_placesOf_29 : decode cX11_placesOf 29 = .ok (.goto 4, 3) := by decide +kernel
theorem dX11_placesOf_32 : decode cX11_placesOf 32 = .ok (.iconst 0, 1) := by decide +kernel
theorem dX11_placesOf_33 : decode cX11_placesOf 33 = .ok (.ior, 1) := by decide +kernel
theorem dX11_placesOf_34 : decode cX11_placesOf 34 = .ok (.istore_n 2, 1) := by decide +kernel
theorem dX11_placesOf_35 : decode cX11_placesOf 35 = .ok (.iinc 3 1, 3) := by decide +kernel
theorem dX11_placesOf_38 : decode cX11_placesOf 38 = .ok (.goto (-34), 3) := by decide +kernel
theorem dX11_placesOf_41 : decode cX11_placesOf 41 = .ok (.iload_n 2, 1) := by decide +kernel
theorem dX11_placesOf_42 : decode cX11_placesOf 42 = .ok (.ireturn, 1) := by decide +kernel
theorem dX11_doesFor_0 : decode cX11_doesFor 0 = .ok (.iload_n 1, 1) := by decide +kernel
theorem dX11_doesFor_1 : decode cX11_doesFor 1 = .ok (.invokestatic 345, 3) := by decide +kernel
theorem dX11_doesFor_4 : decode cX11_doesFor 4 = .ok (.iconst 1, 1) := by decide +kernel
theorem dX11_doesFor_5 : decode cX11_doesFor 5 = .ok (.if_icmp .ne 20, 3) := by decide +kernel
theorem dX11_doesFor_8 : decode cX11_doesFor 8 = .ok (.aload_n 0, 1) := by decide +kernel
theorem dX11_doesFor_9 : decode cX11_doesFor 9 = .ok (.iload_n 1, 1) := by decide +kernel
theorem dX11_doesFor_10 : decode cX11_doesFor 10 = .ok (.invokevirtual 348, 3) := by decide +kernel
theorem dX11_doesFor_13 : decode cX11_doesFor 13 = .ok (.iload_n 2, 1) := by decide +kernel
theorem dX11_doesFor_14 : decode cX11_doesFor 14 = .ok (.if_icmp .lt 7, 3) := by decide +kernel
theorem dX11_doesFor_17 : decode cX11_doesFor 17 = .ok (.iconst 1, 1) := by decide +kernel
theorem dX11_doesFor_18 : decode cX11_doesFor 18 = .ok (.goto 24, 3) := by decide +kernel
theorem dX11_doesFor_21 : decode cX11_doesFor 21 = .ok (.iconst 0, 1) := by decide +kernel
theorem dX11_doesFor_22 : decode cX11_doesFor 22 = .ok (.goto 20, 3) := by decide +kernel
theorem dX11_doesFor_25 : decode cX11_doesFor 25 = .ok (.aload_n 0, 1) := by decide +kernel
theorem dX11_doesFor_26 : decode cX11_doesFor 26 = .ok (.iload_n 1, 1) := by decide +kernel
theorem dX11_doesFor_27 : decode cX11_doesFor 27 = .ok (.invokevirtual 348, 3) := by decide +kernel
theorem dX11_doesFor_30 : decode cX11_doesFor 30 = .ok (.invokestatic 335, 3) := by decide +kernel
theorem dX11_doesFor_33 : decode cX11_doesFor 33 = .ok (.iload_n 2, 1) := by decide +kernel
theorem dX11_doesFor_34 : decode cX11_doesFor 34 = .ok (.if_icmp .lt 7, 3) := by decide +kernel
theorem dX11_doesFor_37 : decode cX11_doesFor 37 = .ok (.iconst 1, 1) := by decide +kernel
theorem dX11_doesFor_38 : decode cX11_doesFor 38 = .ok (.goto 4, 3) := by decide +kernel
theorem dX11_doesFor_41 : decode cX11_doesFor 41 = .ok (.iconst 0, 1) := by decide +kernel
theorem dX11_doesFor_42 : decode cX11_doesFor 42 = .ok (.ireturn, 1) := by decide +kernel
theorem dX11_joinsOf_0 : decode cX11_joinsOf 0 = .ok (.aload_n 0, 1) := by decide +kernel
theorem dX11_joinsOf_1 : decode cX11_joinsOf 1 = .ok (.iload_n 1, 1) := by decide +kernel
theorem dX11_joinsOf_2 : decode cX11_joinsOf 2 = .ok (.invokevirtual 351, 3) := by decide +kernel
theorem dX11_joinsOf_5 : decode cX11_joinsOf 5 = .ok (.istore_n 3, 1) := by decide +kernel
theorem dX11_joinsOf_6 : decode cX11_joinsOf 6 = .ok (.iconst (-1), 1) := by decide +kernel
theorem dX11_joinsOf_7 : decode cX11_joinsOf 7 = .ok (.istore 4, 2) := by decide +kernel
theorem dX11_joinsOf_9 : decode cX11_joinsOf 9 = .ok (.aload_n 0, 1) := by decide +kernel
theorem dX11_joinsOf_10 : decode cX11_joinsOf 10 = .ok (.iload_n 3, 1) := by decide +kernel
theorem dX11_joinsOf_11 : decode cX11_joinsOf 11 = .ok (.invokevirtual 348, 3) := by decide +kernel
theorem dX11_joinsOf_14 : decode cX11_joinsOf 14 = .ok (.invokestatic 335, 3) := by decide +kernel
theorem dX11_joinsOf_17 : decode cX11_joinsOf 17 = .ok (.iload_n 2, 1) := by decide +kernel
theorem dX11_joinsOf_18 : decode cX11_joinsOf 18 = .ok (.if_icmp .lt 7, 3) := by decide +kernel
theorem dX11_joinsOf_21 : decode cX11_joinsOf 21 = .ok (.iconst 1, 1) := by decide +kernel
theorem dX11_joinsOf_22 : decode cX11_joinsOf 22 = .ok (.goto 4, 3) := by decide +kernel
theorem dX11_joinsOf_25 : decode cX11_joinsOf 25 = .ok (.iconst 0, 1) := by decide +kernel
theorem dX11_joinsOf_26 : decode cX11_joinsOf 26 = .ok (.istore 5, 2) := by decide +kernel
theorem dX11_joinsOf_28 : decode cX11_joinsOf 28 = .ok (.iconst 0, 1) := by decide +kernel
theorem dX11_joinsOf_29 : decode cX11_joinsOf 29 = .ok (.istore 6, 2) := by decide +kernel
theorem dX11_joinsOf_31 : decode cX11_joinsOf 31 = .ok (.iload 6, 2) := by decide +kernel
theorem dX11_joinsOf_33 : decode cX11_joinsOf 33 = .ok (.aload_n 0, 1) := by decide +kernel
theorem dX11_joinsOf_34 : decode cX11_joinsOf 34 = .ok (.getfield 7, 3) := by decide +kernel
theorem dX11_joinsOf_37 : decode cX11_joinsOf 37 = .ok (.bipush 7, 2) := by decide +kernel
theorem dX11_joinsOf_39 : decode cX11_joinsOf 39 = .ok (.iaload, 1) := by decide +kernel
theorem dX11_joinsOf_40 : decode cX11_joinsOf 40 = .ok (.if_icmp .ge 42, 3) := by decide +kernel
theorem dX11_joinsOf_43 : decode cX11_joinsOf 43 = .ok (.iload 5, 2) := by decide +kernel
theorem dX11_joinsOf_45 : decode cX11_joinsOf 45 = .ok (.ifCond .ne 24, 3) := by decide +kernel
theorem dX11_joinsOf_48 : decode cX11_joinsOf 48 = .ok (.iload_n 3, 1) := by decide +kernel
theorem dX11_joinsOf_49 : decode cX11_joinsOf 49 = .ok (.iload 6, 2) := by decide +kernel
theorem dX11_joinsOf_51 : decode cX11_joinsOf 51 = .ok (.ishr, 1) := by decide +kernel
theorem dX11_joinsOf_52 : decode cX11_joinsOf 52 = .ok (.iconst 1, 1) := by decide +kernel
theorem dX11_joinsOf_53 : decode cX11_joinsOf 53 = .ok (.iand, 1) := by decide +kernel
theorem dX11_joinsOf_54 : decode cX11_joinsOf 54 = .ok (.iconst 1, 1) := by decide +kernel
theorem dX11_joinsOf_55 : decode cX11_joinsOf 55 = .ok (.if_icmp .ne 18, 3) := by decide +kernel
theorem dX11_joinsOf_58 : decode cX11_joinsOf 58 = .ok (.aload_n 0, 1) := by decide +kernel
theorem dX11_joinsOf_59 : decode cX11_joinsOf 59 = .ok (.iload 6, 2) := by decide +kernel
theorem dX11_joinsOf_61 : decode cX11_joinsOf 61 = .ok (.iconst 1, 1) := by decide +kernel
theorem dX11_joinsOf_62 : decode cX11_joinsOf 62 = .ok (.invokevirtual 57, 3) := by decide +kernel
theorem dX11_joinsOf_65 : decode cX11_joinsOf 65 = .ok (.iload_n 2, 1) := by decide +kernel
theorem dX11_joinsOf_66 : decode cX11_joinsOf 66 = .ok (.if_icmp .lt 7, 3) := by decide +kernel
theorem dX11_joinsOf_69 : decode cX11_joinsOf 69 = .ok (.iconst 1, 1) := by decide +kernel
theorem dX11_joinsOf_70 : decode cX11_joinsOf 70 = .ok (.goto 4, 3) := by decide +kernel
theorem dX11_joinsOf_73 : decode cX11_joinsOf 73 = .ok (.iconst 0, 1) := by decide +kernel
theorem dX11_joinsOf_74 : decode cX11_joinsOf 74 = .ok (.istore 5, 2) := by decide +kernel
theorem dX11_joinsOf_76 : decode cX11_joinsOf 76 = .ok (.iinc 6 1, 3) := by decide +kernel
theorem dX11_joinsOf_79 : decode cX11_joinsOf 79 = .ok (.goto (-48), 3) := by decide +kernel
theorem dX11_joinsOf_82 : decode cX11_joinsOf 82 = .ok (.iconst 1, 1) := by decide +kernel
theorem dX11_joinsOf_83 : decode cX11_joinsOf 83 = .ok (.istore 6, 2) := by decide +kernel
theorem dX11_joinsOf_85 : decode cX11_joinsOf 85 = .ok (.iload 6, 2) := by decide +kernel
theorem dX11_joinsOf_87 : decode cX11_joinsOf 87 = .ok (.iload_n 3, 1) := by decide +kernel
theorem dX11_joinsOf_88 : decode cX11_joinsOf 88 = .ok (.if_icmp .gt 88, 3) := by decide +kernel
theorem dX11_joinsOf_91 : decode cX11_joinsOf 91 = .ok (.iload 5, 2) := by decide +kernel
theorem dX11_joinsOf_93 : decode cX11_joinsOf 93 = .ok (.ifCond .eq 83, 3) := by decide +kernel
theorem dX11_joinsOf_96 : decode cX11_joinsOf 96 = .ok (.iload 6, 2) := by decide +kernel
theorem dX11_joinsOf_98 : decode cX11_joinsOf 98 = .ok (.iload_n 3, 1) := by decide +kernel
theorem dX11_joinsOf_99 : decode cX11_joinsOf 99 = .ok (.iconst (-1), 1) := by decide +kernel
theorem dX11_joinsOf_100 : decode cX11_joinsOf 100 = .ok (.ixor, 1) := by decide +kernel
theorem dX11_joinsOf_101 : decode cX11_joinsOf 101 = .ok (.iand, 1) := by decide +kernel
theorem dX11_joinsOf_102 : decode cX11_joinsOf 102 = .ok (.ifCond .ne 68, 3) := by decide +kernel
theorem dX11_joinsOf_105 : decode cX11_joinsOf 105 = .ok (.aload_n 0, 1) := by decide +kernel
theorem dX11_joinsOf_106 : decode cX11_joinsOf 106 = .ok (.iload 6, 2) := by decide +kernel
theorem dX11_joinsOf_108 : decode cX11_joinsOf 108 = .ok (.iload_n 2, 1) := by decide +kernel
theorem dX11_joinsOf_109 : decode cX11_joinsOf 109 = .ok (.invokevirtual 354, 3) := by decide +kernel
theorem dX11_joinsOf_112 : decode cX11_joinsOf 112 = .ok (.ifCond .ne 6, 3) := by decide +kernel
theorem dX11_joinsOf_115 : decode cX11_joinsOf 115 = .ok (.goto 55, 3) := by decide +kernel
theorem dX11_joinsOf_118 : decode cX11_joinsOf 118 = .ok (.iload 4, 2) := by decide +kernel
theorem dX11_joinsOf_120 : decode cX11_joinsOf 120 = .ok (.iconst (-1), 1) := by decide +kernel
theorem dX11_joinsOf_121 : decode cX11_joinsOf 121 = .ok (.if_icmp .ne 7, 3) := by decide +kernel
theorem dX11_joinsOf_124 : decode cX11_joinsOf 124 = .ok (.iconst (-1), 1) := by decide +kernel
theorem dX11_joinsOf_125 : decode cX11_joinsOf 125 = .ok (.goto 14, 3) := by decide +kernel
theorem dX11_joinsOf_128 : decode cX11_joinsOf 128 = .ok (.iload 6, 2) := by decide +kernel
theorem dX11_joinsOf_130 : decode cX11_joinsOf 130 = .ok (.invokestatic 345, 3) := by decide +kernel
theorem dX11_joinsOf_133 : decode cX11_joinsOf 133 = .ok (.iload 4, 2) := by decide +kernel
theorem dX11_joinsOf_135 : decode cX11_joinsOf 135 = .ok (.invokestatic 345, 3) := by decide +kernel
theorem dX11_joinsOf_138 : decode cX11_joinsOf 138 = .ok (.isub, 1) := by decide +kernel
theorem dX11_joinsOf_139 : decode cX11_joinsOf 139 = .ok (.istore 7, 2) := by decide +kernel
theorem dX11_joinsOf_141 : decode cX11_joinsOf 141 = .ok (.iload 7, 2) := by decide +kernel
theorem dX11_joinsOf_143 : decode cX11_joinsOf 143 = .ok (.ifCond .lt 23, 3) := by decide +kernel
theorem dX11_joinsOf_146 : decode cX11_joinsOf 146 = .ok (.iload 7, 2) := by decide +kernel
theorem dX11_joinsOf_148 : decode cX11_joinsOf 148 = .ok (.ifCond .ne 22, 3) := by decide +kernel
theorem dX11_joinsOf_151 : decode cX11_joinsOf 151 = .ok (.aload_n 0, 1) := by decide +kernel
theorem dX11_joinsOf_152 : decode cX11_joinsOf 152 = .ok (.iload 6, 2) := by decide +kernel
theorem dX11_joinsOf_154 : decode cX11_joinsOf 154 = .ok (.invokevirtual 348, 3) := by decide +kernel
theorem dX11_joinsOf_157 : decode cX11_joinsOf 157 = .ok (.aload_n 0, 1) := by decide +kernel
theorem dX11_joinsOf_158 : decode cX11_joinsOf 158 = .ok (.iload 4, 2) := by decide +kernel
theorem dX11_joinsOf_160 : decode cX11_joinsOf 160 = .ok (.invokevirtual 348, 3) := by decide +kernel
theorem dX11_joinsOf_163 : decode cX11_joinsOf 163 = .ok (.if_icmp .ge 7, 3) := by decide +kernel
theorem dX11_joinsOf_166 : decode cX11_joinsOf 166 = .ok (.iload 6, 2) := by decide +kernel
theorem dX11_joinsOf_168 : decode cX11_joinsOf 168 = .ok (.istore 4, 2) := by decide +kernel
theorem dX11_joinsOf_170 : decode cX11_joinsOf 170 = .ok (.iinc 6 1, 3) := by decide +kernel
theorem dX11_joinsOf_173 : decode cX11_joinsOf 173 = .ok (.goto (-88), 3) := by decide +kernel
theorem dX11_joinsOf_176 : decode cX11_joinsOf 176 = .ok (.iload 4, 2) := by decide +kernel
theorem dX11_joinsOf_178 : decode cX11_joinsOf 178 = .ok (.ireturn, 1) := by decide +kernel
theorem dX11_joins_0 : decode cX11_joins 0 = .ok (.aload_n 0, 1) := by decide +kernel
theorem dX11_joins_1 : decode cX11_joins 1 = .ok (.iload_n 1, 1) := by decide +kernel
theorem dX11_joins_2 : decode cX11_joins 2 = .ok (.invokevirtual 239, 3) := by decide +kernel
theorem dX11_joins_5 : decode cX11_joins 5 = .ok (.ifCond .eq 22, 3) := by decide +kernel
theorem dX11_joins_8 : decode cX11_joins 8 = .ok (.iload_n 2, 1) := by decide +kernel
theorem dX11_joins_9 : decode cX11_joins 9 = .ok (.iconst 1, 1) := by decide +kernel
theorem dX11_joins_10 : decode cX11_joins 10 = .ok (.bipush 99, 2) := by decide +kernel
theorem dX11_joins_12 : decode cX11_joins 12 = .ok (.invokestatic 53, 3) := by decide +kernel
theorem dX11_joins_15 : decode cX11_joins 15 = .ok (.ifCond .eq 12, 3) := by decide +kernel
theorem dX11_joins_18 : decode cX11_joins 18 = .ok (.iload_n 3, 1) := by decide +kernel
theorem dX11_joins_19 : decode cX11_joins 19 = .ok (.iconst 0, 1) := by decide +kernel
theorem dX11_joins_20 : decode cX11_joins 20 = .ok (.iconst 1, 1) := by decide +kernel
theorem dX11_joins_21 : decode cX11_joins 21 = .ok (.invokestatic 53, 3) := by decide +kernel
theorem dX11_joins_24 : decode cX11_joins 24 = .ok (.ifCond .ne 5, 3) := by decide +kernel
theorem dX11_joins_27 : decode cX11_joins 27 = .ok (.iconst (-1), 1) := by decide +kernel
theorem dX11_joins_28 : decode cX11_joins 28 = .ok (.ireturn, 1) := by decide +kernel
theorem dX11_joins_29 : decode cX11_joins 29 = .ok (.aload_n 0, 1) := by decide +kernel
theorem dX11_joins_30 : decode cX11_joins 30 = .ok (.iload_n 1, 1) := by decide +kernel
theorem dX11_joins_31 : decode cX11_joins 31 = .ok (.iload_n 2, 1) := by decide +kernel
theorem dX11_joins_32 : decode cX11_joins 32 = .ok (.invokevirtual 358, 3) := by decide +kernel
theorem dX11_joins_35 : decode cX11_joins 35 = .ok (.istore 4, 2) := by decide +kernel
theorem dX11_joins_37 : decode cX11_joins 37 = .ok (.iload 4, 2) := by decide +kernel
theorem dX11_joins_39 : decode cX11_joins 39 = .ok (.iconst (-1), 1) := by decide +kernel
theorem dX11_joins_40 : decode cX11_joins 40 = .ok (.if_icmp .eq 8, 3) := by decide +kernel
theorem dX11_joins_43 : decode cX11_joins 43 = .ok (.iload_n 3, 1) := by decide +kernel
theorem dX11_joins_44 : decode cX11_joins 44 = .ok (.iconst 1, 1) := by decide +kernel
theorem dX11_joins_45 : decode cX11_joins 45 = .ok (.if_icmp .ne 8, 3) := by decide +kernel
theorem dX11_joins_48 : decode cX11_joins 48 = .ok (.iload 4, 2) := by decide +kernel
theorem dX11_joins_50 : decode cX11_joins 50 = .ok (.goto 8, 3) := by decide +kernel
theorem dX11_joins_53 : decode cX11_joins 53 = .ok (.iload 4, 2) := by decide +kernel
theorem dX11_joins_55 : decode cX11_joins 55 = .ok (.invokestatic 345, 3) := by decide +kernel
theorem dX11_joins_58 : decode cX11_joins 58 = .ok (.ireturn, 1) := by decide +kernel
theorem dX11_ofWant_0 : decode cX11_ofWant 0 = .ok (.aload_n 0, 1) := by decide +kernel
theorem dX11_ofWant_1 : decode cX11_ofWant 1 = .ok (.getfield 7, 3) := by decide +kernel
theorem dX11_ofWant_4 : decode cX11_ofWant 4 = .ok (.sipush 139, 3) := by decide +kernel
theorem dX11_ofWant_7 : decode cX11_ofWant 7 = .ok (.iconst 4, 1) := by decide +kernel
theorem dX11_ofWant_8 : decode cX11_ofWant 8 = .ok (.iload_n 1, 1) := by decide +kernel
theorem dX11_ofWant_9 : decode cX11_ofWant 9 = .ok (.imul, 1) := by decide +kernel
theorem dX11_ofWant_10 : decode cX11_ofWant 10 = .ok (.iadd, 1) := by decide +kernel
theorem dX11_ofWant_11 : decode cX11_ofWant 11 = .ok (.iload_n 2, 1) := by decide +kernel
theorem dX11_ofWant_12 : decode cX11_ofWant 12 = .ok (.iadd, 1) := by decide +kernel
theorem dX11_ofWant_13 : decode cX11_ofWant 13 = .ok (.iaload, 1) := by decide +kernel
theorem dX11_ofWant_14 : decode cX11_ofWant 14 = .ok (.ireturn, 1) := by decide +kernel
theorem dX11_isMet_0 : decode cX11_isMet 0 = .ok (.aload_n 0, 1) := by decide +kernel
theorem dX11_isMet_1 : decode cX11_isMet 1 = .ok (.getfield 7, 3) := by decide +kernel
theorem dX11_isMet_4 : decode cX11_isMet 4 = .ok (.bipush 6, 2) := by decide +kernel
theorem dX11_isMet_6 : decode cX11_isMet 6 = .ok (.iaload, 1) := by decide +kernel
theorem dX11_isMet_7 : decode cX11_isMet 7 = .ok (.iload_n 1, 1) := by decide +kernel
theorem dX11_isMet_8 : decode cX11_isMet 8 = .ok (.ishr, 1) := by decide +kernel
theorem dX11_isMet_9 : decode cX11_isMet 9 = .ok (.iconst 1, 1) := by decide +kernel
theorem dX11_isMet_10 : decode cX11_isMet 10 = .ok (.iand, 1) := by decide +kernel
theorem dX11_isMet_11 : decode cX11_isMet 11 = .ok (.iconst 1, 1) := by decide +kernel
theorem dX11_isMet_12 : decode cX11_isMet 12 = .ok (.if_icmp .ne 7, 3) := by decide +kernel
theorem dX11_isMet_15 : decode cX11_isMet 15 = .ok (.iconst 1, 1) := by decide +kernel
theorem dX11_isMet_16 : decode cX11_isMet 16 = .ok (.goto 4, 3) := by decide +kernel
theorem dX11_isMet_19 : decode cX11_isMet 19 = .ok (.iconst 0, 1) := by decide +kernel
theorem dX11_isMet_20 : decode cX11_isMet 20 = .ok (.ireturn, 1) := by decide +kernel
theorem dX11_meetsWants_0 : decode cX11_meetsWants 0 = .ok (.iconst 0, 1) := by decide +kernel
theorem dX11_meetsWants_1 : decode cX11_meetsWants 1 = .ok (.istore_n 1, 1) := by decide +kernel
theorem dX11_meetsWants_2 : decode cX11_meetsWants 2 = .ok (.iconst 0, 1) := by decide +kernel
theorem dX11_meetsWants_3 : decode cX11_meetsWants 3 = .ok (.istore_n 2, 1) := by decide +kernel
theorem dX11_meetsWants_4 : decode cX11_meetsWants 4 = .ok (.iload_n 2, 1) := by decide +kernel
theorem dX11_meetsWants_5 : decode cX11_meetsWants 5 = .ok (.aload_n 0, 1) := by decide +kernel
theorem dX11_meetsWants_6 : decode cX11_meetsWants 6 = .ok (.getfield 7, 3) := by decide +kernel
theorem dX11_meetsWants_9 : decode cX11_meetsWants 9 = .ok (.bipush 85, 2) := by decide +kernel
theorem dX11_meetsWants_11 : decode cX11_meetsWants 11 = .ok (.iaload, 1) := by decide +kernel
theorem dX11_meetsWants_12 : decode cX11_meetsWants 12 = .ok (.if_icmp .ge 132, 3) := by decide +kernel
theorem dX11_meetsWants_15 : decode cX11_meetsWants 15 = .ok (.aload_n 0, 1) := by decide +kernel
theorem dX11_meetsWants_16 : decode cX11_meetsWants 16 = .ok (.iload_n 2, 1) := by decide +kernel
theorem dX11_meetsWants_17 : decode cX11_meetsWants 17 = .ok (.invokevirtual 361, 3) := by decide +kernel
theorem dX11_meetsWants_20 : decode cX11_meetsWants 20 = .ok (.ifCond .ne 118, 3) := by decide +kernel
theorem dX11_meetsWants_23 : decode cX11_meetsWants 23 = .ok (.aload_n 0, 1) := by decide +kernel
theorem dX11_meetsWants_24 : decode cX11_meetsWants 24 = .ok (.getfield 7, 3) := by decide +kernel
theorem dX11_meetsWants_27 : decode cX11_meetsWants 27 = .ok (.iconst 0, 1) := by decide +kernel
theorem dX11_meetsWants_28 : decode cX11_meetsWants 28 = .ok (.iaload, 1) := by decide +kernel
theorem dX11_meetsWants_29 : decode cX11_meetsWants 29 = .ok (.aload_n 0, 1) := by decide +kernel
theorem dX11_meetsWants_30 : decode cX11_meetsWants 30 = .ok (.iload_n 2, 1) := by decide +kernel
theorem dX11_meetsWants_31 : decode cX11_meetsWants 31 = .ok (.iconst 2, 1) := by decide +kernel
theorem dX11_meetsWants_32 : decode cX11_meetsWants 32 = .ok (.invokevirtual 364, 3) := by decide +kernel
theorem dX11_meetsWants_35 : decode cX11_meetsWants 35 = .ok (.if_icmp .le 6, 3) := by decide +kernel
theorem dX11_meetsWants_38 : decode cX11_meetsWants 38 = .ok (.goto 100, 3) := by decide +kernel
theorem dX11_meetsWants_41 : decode cX11_meetsWants 41 = .ok (.aload_n 0, 1) := by decide +kernel
theorem dX11_meetsWants_42 : decode cX11_meetsWants 42 = .ok (.aload_n 0, 1) := by decide +kernel
theorem dX11_meetsWants_43 : decode cX11_meetsWants 43 = .ok (.iload_n 2, 1) := by decide +kernel
theorem dX11_meetsWants_44 : decode cX11_meetsWants 44 = .ok (.iconst 0, 1) := by decide +kernel
theorem dX11_meetsWants_45 : decode cX11_meetsWants 45 = .ok (.invokevirtual 364, 3) := by decide +kernel
theorem dX11_meetsWants_48 : decode cX11_meetsWants 48 = .ok (.aload_n 0, 1) := by decide +kernel
theorem dX11_meetsWants_49 : decode cX11_meetsWants 49 = .ok (.iload_n 2, 1) := by decide +kernel
theorem dX11_meetsWants_50 : decode cX11_meetsWants 50 = .ok (.iconst 1, 1) := by decide +kernel
theorem dX11_meetsWants_51 : decode cX11_meetsWants 51 = .ok (.invokevirtual 364, 3) := by decide +kernel
theorem dX11_meetsWants_54 : decode cX11_meetsWants 54 = .ok (.invokevirtual 358, 3) := by decide +kernel
theorem dX11_meetsWants_57 : decode cX11_meetsWants 57 = .ok (.istore_n 3, 1) := by decide +kernel
theorem dX11_meetsWants_58 : decode cX11_meetsWants 58 = .ok (.iload_n 3, 1) := by decide +kernel
theorem dX11_meetsWants_59 : decode cX11_meetsWants 59 = .ok (.iconst (-1), 1) := by decide +kernel
theorem dX11_meetsWants_60 : decode cX11_meetsWants 60 = .ok (.if_icmp .ne 6, 3) := by decide +kernel
theorem dX11_meetsWants_63 : decode cX11_meetsWants 63 = .ok (.goto 75, 3) := by decide +kernel
theorem dX11_meetsWants_66 : decode cX11_meetsWants 66 = .ok (.bipush 13, 2) := by decide +kernel
theorem dX11_meetsWants_68 : decode cX11_meetsWants 68 = .ok (.istore 4, 2) := by decide +kernel
theorem dX11_meetsWants_70 : decode cX11_meetsWants 70 = .ok (.iload 4, 2) := by decide +kernel
theorem dX11_meetsWants_72 : decode cX11_meetsWants 72 = .ok (.ifCond .lt 25, 3) := by decide +kernel
theorem dX11_meetsWants_75 : decode cX11_meetsWants 75 = .ok (.iload_n 3, 1) := by decide +kernel
theorem dX11_meetsWants_76 : decode cX11_meetsWants 76 = .ok (.iload 4, 2) := by decide +kernel
theorem dX11_meetsWants_78 : decode cX11_meetsWants 78 = .ok (.ishr, 1) := by decide +kernel
theorem dX11_meetsWants_79 : decode cX11_meetsWants 79 = .ok (.iconst 1, 1) := by decide +kernel
theorem dX11_meetsWants_80 : decode cX11_meetsWants 80 = .ok (.iand, 1) := by decide +kernel
theorem dX11_meetsWants_81 : decode cX11_meetsWants 81 = .ok (.iconst 1, 1) := by decide +kernel
theorem dX11_meetsWants_82 : decode cX11_meetsWants 82 = .ok (.if_icmp .ne 9, 3) := by decide +kernel
theorem dX11_meetsWants_85 : decode cX11_meetsWants 85 = .ok (.aload_n 0, 1) := by decide +kernel
theorem dX11_meetsWants_86 : decode cX11_meetsWants 86 = .ok (.iload 4, 2) := by decide +kernel
theorem dX11_meetsWants_88 : decode cX11_meetsWants 88 = .ok (.invokevirtual 338, 3) := by decide +kernel
theorem dX11_meetsWants_91 : decode cX11_meetsWants 91 = .ok (.iinc 4 (-1), 3) := by decide +kernel
theorem dX11_meetsWants_94 : decode cX11_meetsWants 94 = .ok (.goto (-24), 3) := by decide +kernel
theorem dX11_meetsWants_97 : decode cX11_meetsWants 97 = .ok (.aload_n 0, 1) := by decide +kernel
theorem dX11_meetsWants_98 : decode cX11_meetsWants 98 = .ok (.getfield 7, 3) := by decide +kernel
theorem dX11_meetsWants_101 : decode cX11_meetsWants 101 = .ok (.bipush 6, 2) := by decide +kernel
theorem dX11_meetsWants_103 : decode cX11_meetsWants 103 = .ok (.dup2, 1) := by decide +kernel
theorem dX11_meetsWants_104 : decode cX11_meetsWants 104 = .ok (.iaload, 1) := by decide +kernel
theorem dX11_meetsWants_105 : decode cX11_meetsWants 105 = .ok (.iconst 1, 1) := by decide +kernel
theorem dX11_meetsWants_106 : decode cX11_meetsWants 106 = .ok (.iload_n 2, 1) := by decide +kernel
theorem dX11_meetsWants_107 : decode cX11_meetsWants 107 = .ok (.ishl, 1) := by decide +kernel
theorem dX11_meetsWants_108 : decode cX11_meetsWants 108 = .ok (.ior, 1) := by decide +kernel
theorem dX11_meetsWants_109 : decode cX11_meetsWants 109 = .ok (.iastore, 1) := by decide +kernel
theorem dX11_meetsWants_110 : decode cX11_meetsWants 110 = .ok (.aload_n 0, 1) := by decide +kernel
theorem dX11_meetsWants_111 : decode cX11_meetsWants 111 = .ok (.getfield 7, 3) := by decide +kernel
theorem dX11_meetsWants_114 : decode cX11_meetsWants 114 = .ok (.iconst 1, 1) := by decide +kernel
theorem dX11_meetsWants_115 : decode cX11_meetsWants 115 = .ok (.dup2, 1) := by decide +kernel
theorem dX11_meetsWants_116 : decode cX11_meetsWants 116 = .ok (.iaload, 1) := by decide +kernel
theorem dX11_meetsWants_117 : decode cX11_meetsWants 117 = .ok (.aload_n 0, 1) := by decide +kernel
theorem dX11_meetsWants_118 : decode cX11_meetsWants 118 = .ok (.iload_n 2, 1) := by decide +kernel
theorem dX11_meetsWants_119 : decode cX11_meetsWants 119 = .ok (.iconst 3, 1) := by decide +kernel
theorem dX11_meetsWants_120 : decode cX11_meetsWants 120 = .ok (.invokevirtual 364, 3) := by decide +kernel
theorem dX11_meetsWants_123 : decode cX11_meetsWants 123 = .ok (.iadd, 1) := by decide +kernel
theorem dX11_meetsWants_124 : decode cX11_meetsWants 124 = .ok (.iastore, 1) := by decide +kernel
theorem dX11_meetsWants_125 : decode cX11_meetsWants 125 = .ok (.aload_n 0, 1) := by decide +kernel
theorem dX11_meetsWants_126 : decode cX11_meetsWants 126 = .ok (.iconst 5, 1) := by decide +kernel
theorem dX11_meetsWants_127 : decode cX11_meetsWants 127 = .ok (.iload_n 2, 1) := by decide +kernel
theorem dX11_meetsWants_128 : decode cX11_meetsWants 128 = .ok (.iload_n 3, 1) := by decide +kernel
theorem dX11_meetsWants_129 : decode cX11_meetsWants 129 = .ok (.invokestatic 345, 3) := by decide +kernel
theorem dX11_meetsWants_132 : decode cX11_meetsWants 132 = .ok (.invokevirtual 323, 3) := by decide +kernel
theorem dX11_meetsWants_135 : decode cX11_meetsWants 135 = .ok (.iinc 1 1, 3) := by decide +kernel
theorem dX11_meetsWants_138 : decode cX11_meetsWants 138 = .ok (.iinc 2 1, 3) := by decide +kernel
theorem dX11_meetsWants_141 : decode cX11_meetsWants 141 = .ok (.goto (-137), 3) := by decide +kernel
theorem dX11_meetsWants_144 : decode cX11_meetsWants 144 = .ok (.iload_n 1, 1) := by decide +kernel
theorem dX11_meetsWants_145 : decode cX11_meetsWants 145 = .ok (.ireturn, 1) := by decide +kernel
theorem dX11_isSpoilt_0 : decode cX11_isSpoilt 0 = .ok (.aload_n 0, 1) := by decide +kernel
theorem dX11_isSpoilt_1 : decode cX11_isSpoilt 1 = .ok (.iload_n 1, 1) := by decide +kernel
theorem dX11_isSpoilt_2 : decode cX11_isSpoilt 2 = .ok (.invokevirtual 303, 3) := by decide +kernel
theorem dX11_isSpoilt_5 : decode cX11_isSpoilt 5 = .ok (.aload_n 0, 1) := by decide +kernel
theorem dX11_isSpoilt_6 : decode cX11_isSpoilt 6 = .ok (.aload_n 0, 1) := by decide +kernel
theorem dX11_isSpoilt_7 : decode cX11_isSpoilt 7 = .ok (.iload_n 1, 1) := by decide +kernel
theorem dX11_isSpoilt_8 : decode cX11_isSpoilt 8 = .ok (.iconst 0, 1) := by decide +kernel
theorem dX11_isSpoilt_9 : decode cX11_isSpoilt 9 = .ok (.invokevirtual 57, 3) := by decide +kernel
theorem dX11_isSpoilt_12 : decode cX11_isSpoilt 12 = .ok (.invokevirtual 367, 3) := by decide +kernel
theorem dX11_isSpoilt_15 : decode cX11_isSpoilt 15 = .ok (.if_icmp .lt 5, 3) := by decide +kernel
theorem dX11_isSpoilt_18 : decode cX11_isSpoilt 18 = .ok (.iconst 1, 1) := by decide +kernel
theorem dX11_isSpoilt_19 : decode cX11_isSpoilt 19 = .ok (.ireturn, 1) := by decide +kernel
theorem dX11_isSpoilt_20 : decode cX11_isSpoilt 20 = .ok (.aload_n 0, 1) := by decide +kernel
theorem dX11_isSpoilt_21 : decode cX11_isSpoilt 21 = .ok (.getfield 309, 3) := by decide +kernel
theorem dX11_isSpoilt_24 : decode cX11_isSpoilt 24 = .ok (.ifCond .eq 11, 3) := by decide +kernel
theorem dX11_isSpoilt_27 : decode cX11_isSpoilt 27 = .ok (.aload_n 0, 1) := by decide +kernel
theorem dX11_isSpoilt_28 : decode cX11_isSpoilt 28 = .ok (.iload_n 1, 1) := by decide +kernel
theorem dX11_isSpoilt_29 : decode cX11_isSpoilt 29 = .ok (.invokevirtual 370, 3) := by decide +kernel
theorem dX11_isSpoilt_32 : decode cX11_isSpoilt 32 = .ok (.goto 4, 3) := by decide +kernel
theorem dX11_isSpoilt_35 : decode cX11_isSpoilt 35 = .ok (.iconst 0, 1) := by decide +kernel
theorem dX11_isSpoilt_36 : decode cX11_isSpoilt 36 = .ok (.istore_n 2, 1) := by decide +kernel
theorem dX11_isSpoilt_37 : decode cX11_isSpoilt 37 = .ok (.iload_n 2, 1) := by decide +kernel
theorem dX11_isSpoilt_38 : decode cX11_isSpoilt 38 = .ok (.ifCond .le 18, 3) := by decide +kernel
theorem dX11_isSpoilt_41 : decode cX11_isSpoilt 41 = .ok (.aload_n 0, 1) := by decide +kernel
theorem dX11_isSpoilt_42 : decode cX11_isSpoilt 42 = .ok (.sipush 1000, 3) := by decide +kernel
theorem dX11_isSpoilt_45 : decode cX11_isSpoilt 45 = .ok (.invokevirtual 373, 3) := by decide +kernel
theorem dX11_isSpoilt_48 : decode cX11_isSpoilt 48 = .ok (.iload_n 2, 1) := by decide +kernel
theorem dX11_isSpoilt_49 : decode cX11_isSpoilt 49 = .ok (.if_icmp .ge 7, 3) := by decide +kernel
theorem dX11_isSpoilt_52 : decode cX11_isSpoilt 52 = .ok (.iconst 1, 1) := by decide +kernel
theorem dX11_isSpoilt_53 : decode cX11_isSpoilt 53 = .ok (.goto 4, 3) := by decide +kernel
theorem dX11_isSpoilt_56 : decode cX11_isSpoilt 56 = .ok (.iconst 0, 1) := by decide +kernel
theorem dX11_isSpoilt_57 : decode cX11_isSpoilt 57 = .ok (.ireturn, 1) := by decide +kernel
theorem dX11_spoils_0 : decode cX11_spoils 0 = .ok (.iconst 0, 1) := by decide +kernel
theorem dX11_spoils_1 : decode cX11_spoils 1 = .ok (.istore_n 1, 1) := by decide +kernel
theorem dX11_spoils_2 : decode cX11_spoils 2 = .ok (.iload_n 1, 1) := by decide +kernel
theorem dX11_spoils_3 : decode cX11_spoils 3 = .ok (.aload_n 0, 1) := by decide +kernel
theorem dX11_spoils_4 : decode cX11_spoils 4 = .ok (.getfield 7, 3) := by decide +kernel
theorem dX11_spoils_7 : decode cX11_spoils 7 = .ok (.bipush 7, 2) := by decide +kernel
theorem dX11_spoils_9 : decode cX11_spoils 9 = .ok (.iaload, 1) := by decide +kernel
theorem dX11_spoils_10 : decode cX11_spoils 10 = .ok (.if_icmp .ge 43, 3) := by decide +kernel
theorem dX11_spoils_13 : decode cX11_spoils 13 = .ok (.aload_n 0, 1) := by decide +kernel
theorem dX11_spoils_14 : decode cX11_spoils 14 = .ok (.iload_n 1, 1) := by decide +kernel
theorem dX11_spoils_15 : decode cX11_spoils 15 = .ok (.invokevirtual 376, 3) := by decide +kernel
theorem dX11_spoils_18 : decode cX11_spoils 18 = .ok (.ifCond .eq 29, 3) := by decide +kernel
theorem dX11_spoils_21 : decode cX11_spoils 21 = .ok (.aload_n 0, 1) := by decide +kernel
theorem dX11_spoils_22 : decode cX11_spoils 22 = .ok (.bipush 6, 2) := by decide +kernel
theorem dX11_spoils_24 : decode cX11_spoils 24 = .ok (.aload_n 0, 1) := by decide +kernel
theorem dX11_spoils_25 : decode cX11_spoils 25 = .ok (.iload_n 1, 1) := by decide +kernel
theorem dX11_spoils_26 : decode cX11_spoils 26 = .ok (.iconst 0, 1) := by decide +kernel
theorem dX11_spoils_27 : decode cX11_spoils 27 = .ok (.invokevirtual 57, 3) := by decide +kernel
theorem dX11_spoils_30 : decode cX11_spoils 30 = .ok (.aload_n 0, 1) := by decide +kernel
theorem dX11_spoils_31 : decode cX11_spoils 31 = .ok (.iload_n 1, 1) := by decide +kernel
theorem dX11_spoils_32 : decode cX11_spoils 32 = .ok (.iconst 1, 1) := by decide +kernel
theorem dX11_spoils_33 : decode cX11_spoils 33 = .ok (.invokevirtual 57, 3) := by decide +kernel
theorem dX11_spoils_36 : decode cX11_spoils 36 = .ok (.invokevirtual 323, 3) := by decide +kernel
theorem dX11_spoils_39 : decode cX11_spoils 39 = .ok (.aload_n 0, 1) := by decide +kernel
theorem dX11_spoils_40 : decode cX11_spoils 40 = .ok (.iload_n 1, 1) := by decide +kernel
theorem dX11_spoils_41 : decode cX11_spoils 41 = .ok (.invokevirtual 338, 3) := by decide +kernel
theorem dX11_spoils_44 : decode cX11_spoils 44 = .ok (.goto (-42), 3) := by decide +kernel
theorem dX11_spoils_47 : decode cX11_spoils 47 = .ok (.iinc 1 1, 3) := by decide +kernel
theorem dX11_spoils_50 : decode cX11_spoils 50 = .ok (.goto (-48), 3) := by decide +kernel
theorem dX11_spoils_53 : decode cX11_spoils 53 = .ok (.return_, 1) := by decide +kernel
theorem dX11_inspects_0 : decode cX11_inspects 0 = .ok (.aload_n 0, 1) := by decide +kernel
theorem dX11_inspects_1 : decode cX11_inspects 1 = .ok (.getfield 7, 3) := by decide +kernel
theorem dX11_inspects_4 : decode cX11_inspects 4 = .ok (.bipush 81, 2) := by decide +kernel
theorem dX11_inspects_6 : decode cX11_inspects 6 = .ok (.iaload, 1) := by decide +kernel
theorem dX11_inspects_7 : decode cX11_inspects 7 = .ok (.ifCond .eq 20, 3) := by decide +kernel
theorem dX11_inspects_10 : decode cX11_inspects 10 = .ok (.aload_n 0, 1) := by decide +kernel
theorem dX11_inspects_11 : decode cX11_inspects 11 = .ok (.sipush 1000, 3) := by decide +kernel
theorem dX11_inspects_14 : decode cX11_inspects 14 = .ok (.invokevirtual 373, 3) := by decide +kernel
theorem dX11_inspects_17 : decode cX11_inspects 17 = .ok (.aload_n 0, 1) := by decide +kernel
theorem dX11_inspects_18 : decode cX11_inspects 18 = .ok (.getfield 7, 3) := by decide +kernel
theorem dX11_inspects_21 : decode cX11_inspects 21 = .ok (.bipush 81, 2) := by decide +kernel
theorem dX11_inspects_23 : decode cX11_inspects 23 = .ok (.iaload, 1) := by decide +kernel
theorem dX11_inspects_24 : decode cX11_inspects 24 = .ok (.if_icmp .lt 4, 3) := by decide +kernel
theorem dX11_inspects_27 : decode cX11_inspects 27 = .ok (.return_, 1) := by decide +kernel
theorem dX11_inspects_28 : decode cX11_inspects 28 = .ok (.iconst 0, 1) := by decide +kernel
theorem dX11_inspects_29 : decode cX11_inspects 29 = .ok (.istore_n 1, 1) := by decide +kernel
theorem dX11_inspects_30 : decode cX11_inspects 30 = .ok (.iload_n 1, 1) := by decide +kernel
theorem dX11_inspects_31 : decode cX11_inspects 31 = .ok (.aload_n 0, 1) := by decide +kernel
theorem dX11_inspects_32 : decode cX11_inspects 32 = .ok (.getfield 7, 3) := by decide +kernel
theorem dX11_inspects_35 : decode cX11_inspects 35 = .ok (.bipush 7, 2) := by decide +kernel
theorem dX11_inspects_37 : decode cX11_inspects 37 = .ok (.iaload, 1) := by decide +kernel
theorem dX11_inspects_38 : decode cX11_inspects 38 = .ok (.if_icmp .ge 66, 3) := by decide +kernel
theorem dX11_inspects_41 : decode cX11_inspects 41 = .ok (.aload_n 0, 1) := by decide +kernel
theorem dX11_inspects_42 : decode cX11_inspects 42 = .ok (.iload_n 1, 1) := by decide +kernel
theorem dX11_inspects_43 : decode cX11_inspects 43 = .ok (.iconst 4, 1) := by decide +kernel
theorem dX11_inspects_44 : decode cX11_inspects 44 = .ok (.invokevirtual 57, 3) := by decide +kernel
theorem dX11_inspects_47 : decode cX11_inspects 47 = .ok (.ifCond .ne 6, 3) := by decide +kernel
theorem dX11_inspects_50 : decode cX11_inspects 50 = .ok (.goto 48, 3) := by decide +kernel
theorem dX11_inspects_53 : decode cX11_inspects 53 = .ok (.aload_n 0, 1) := by decide +kernel
theorem dX11_inspects_54 : decode cX11_inspects 54 = .ok (.getfield 7, 3) := by decide +kernel
theorem dX11_inspects_57 : decode cX11_inspects 57 = .ok (.iconst 2, 1) := by decide +kernel
theorem dX11_inspects_58 : decode cX11_inspects 58 = .ok (.dup2, 1) := by decide +kernel
theorem dX11_inspects_59 : decode cX11_inspects 59 = .ok (.iaload, 1) := by decide +kernel
theorem dX11_inspects_60 : decode cX11_inspects 60 = .ok (.iconst 1, 1) := by decide +kernel
theorem dX11_inspects_61 : decode cX11_inspects 61 = .ok (.iadd, 1) := by decide +kernel
theorem dX11_inspects_62 : decode cX11_inspects 62 = .ok (.iastore, 1) := by decide +kernel
theorem dX11_inspects_63 : decode cX11_inspects 63 = .ok (.aload_n 0, 1) := by decide +kernel
theorem dX11_inspects_64 : decode cX11_inspects 64 = .ok (.getfield 7, 3) := by decide +kernel
theorem dX11_inspects_67 : decode cX11_inspects 67 = .ok (.iconst 1, 1) := by decide +kernel
theorem dX11_inspects_68 : decode cX11_inspects 68 = .ok (.dup2, 1) := by decide +kernel
theorem dX11_inspects_69 : decode cX11_inspects 69 = .ok (.iaload, 1) := by decide +kernel
theorem dX11_inspects_70 : decode cX11_inspects 70 = .ok (.bipush 50, 2) := by decide +kernel
theorem dX11_inspects_72 : decode cX11_inspects 72 = .ok (.isub, 1) := by decide +kernel
theorem dX11_inspects_73 : decode cX11_inspects 73 = .ok (.iastore, 1) := by decide +kernel
theorem dX11_inspects_74 : decode cX11_inspects 74 = .ok (.aload_n 0, 1) := by decide +kernel
theorem dX11_inspects_75 : decode cX11_inspects 75 = .ok (.bipush 7, 2) := by decide +kernel
theorem dX11_inspects_77 : decode cX11_inspects 77 = .ok (.aload_n 0, 1) := by decide +kernel
theorem dX11_inspects_78 : decode cX11_inspects 78 = .ok (.iload_n 1, 1) := by decide +kernel
theorem dX11_inspects_79 : decode cX11_inspects 79 = .ok (.iconst 0, 1) := by decide +kernel
theorem dX11_inspects_80 : decode cX11_inspects 80 = .ok (.invokevirtual 57, 3) := by decide +kernel
theorem dX11_inspects_83 : decode cX11_inspects 83 = .ok (.aload_n 0, 1) := by decide +kernel
theorem dX11_inspects_84 : decode cX11_inspects 84 = .ok (.iload_n 1, 1) := by decide +kernel
theorem dX11_inspects_85 : decode cX11_inspects 85 = .ok (.iconst 1, 1) := by decide +kernel
theorem dX11_inspects_86 : decode cX11_inspects 86 = .ok (.invokevirtual 57, 3) := by decide +kernel
theorem dX11_inspects_89 : decode cX11_inspects 89 = .ok (.invokevirtual 323, 3) := by decide +kernel
theorem dX11_inspects_92 : decode cX11_inspects 92 = .ok (.aload_n 0, 1) := by decide +kernel
theorem dX11_inspects_93 : decode cX11_inspects 93 = .ok (.iload_n 1, 1) := by decide +kernel
theorem dX11_inspects_94 : decode cX11_inspects 94 = .ok (.invokevirtual 338, 3) := by decide +kernel
theorem dX11_inspects_97 : decode cX11_inspects 97 = .ok (.return_, 1) := by decide +kernel
theorem dX11_inspects_98 : decode cX11_inspects 98 = .ok (.iinc 1 1, 3) := by decide +kernel
theorem dX11_inspects_101 : decode cX11_inspects 101 = .ok (.goto (-71), 3) := by decide +kernel
theorem dX11_inspects_104 : decode cX11_inspects 104 = .ok (.return_, 1) := by decide +kernel
theorem dX11_dogs_0 : decode cX11_dogs 0 = .ok (.aload_n 0, 1) := by decide +kernel
theorem dX11_dogs_1 : decode cX11_dogs 1 = .ok (.getfield 7, 3) := by decide +kernel
theorem dX11_dogs_4 : decode cX11_dogs 4 = .ok (.bipush 82, 2) := by decide +kernel
theorem dX11_dogs_6 : decode cX11_dogs 6 = .ok (.iaload, 1) := by decide +kernel
theorem dX11_dogs_7 : decode cX11_dogs 7 = .ok (.ifCond .eq 30, 3) := by decide +kernel
theorem dX11_dogs_10 : decode cX11_dogs 10 = .ok (.aload_n 0, 1) := by decide +kernel
theorem dX11_dogs_11 : decode cX11_dogs 11 = .ok (.getfield 7, 3) := by decide +kernel
theorem dX11_dogs_14 : decode cX11_dogs 14 = .ok (.bipush 7, 2) := by decide +kernel
theorem dX11_dogs_16 : decode cX11_dogs 16 = .ok (.iaload, 1) := by decide +kernel
theorem dX11_dogs_17 : decode cX11_dogs 17 = .ok (.ifCond .eq 20, 3) := by decide +kernel
theorem dX11_dogs_20 : decode cX11_dogs 20 = .ok (.aload_n 0, 1) := by decide +kernel
theorem dX11_dogs_21 : decode cX11_dogs 21 = .ok (.sipush 1000, 3) := by decide +kernel
theorem dX11_dogs_24 : decode cX11_dogs 24 = .ok (.invokevirtual 373, 3) := by decide +kernel
theorem dX11_dogs_27 : decode cX11_dogs 27 = .ok (.aload_n 0, 1) := by decide +kernel
theorem dX11_dogs_28 : decode cX11_dogs 28 = .ok (.getfield 7, 3) := by decide +kernel
theorem dX11_dogs_31 : decode cX11_dogs 31 = .ok (.bipush 82, 2) := by decide +kernel
theorem dX11_dogs_33 : decode cX11_dogs 33 = .ok (.iaload, 1) := by decide +kernel
theorem dX11_dogs_34 : decode cX11_dogs 34 = .ok (.if_icmp .lt 4, 3) := by decide +kernel
theorem dX11_dogs_37 : decode cX11_dogs 37 = .ok (.return_, 1) := by decide +kernel
theorem dX11_dogs_38 : decode cX11_dogs 38 = .ok (.aload_n 0, 1) := by decide +kernel
theorem dX11_dogs_39 : decode cX11_dogs 39 = .ok (.aload_n 0, 1) := by decide +kernel
theorem dX11_dogs_40 : decode cX11_dogs 40 = .ok (.getfield 7, 3) := by decide +kernel
theorem dX11_dogs_43 : decode cX11_dogs 43 = .ok (.bipush 7, 2) := by decide +kernel
theorem dX11_dogs_45 : decode cX11_dogs 45 = .ok (.iaload, 1) := by decide +kernel
theorem dX11_dogs_46 : decode cX11_dogs 46 = .ok (.invokevirtual 373, 3) := by decide +kernel
theorem dX11_dogs_49 : decode cX11_dogs 49 = .ok (.istore_n 1, 1) := by decide +kernel
theorem dX11_dogs_50 : decode cX11_dogs 50 = .ok (.aload_n 0, 1) := by decide +kernel
theorem dX11_dogs_51 : decode cX11_dogs 51 = .ok (.bipush 8, 2) := by decide +kernel
theorem dX11_dogs_53 : decode cX11_dogs 53 = .ok (.aload_n 0, 1) := by decide +kernel
theorem dX11_dogs_54 : decode cX11_dogs 54 = .ok (.iload_n 1, 1) := by decide +kernel
theorem dX11_dogs_55 : decode cX11_dogs 55 = .ok (.iconst 0, 1) := by decide +kernel
theorem dX11_dogs_56 : decode cX11_dogs 56 = .ok (.invokevirtual 57, 3) := by decide +kernel
theorem dX11_dogs_59 : decode cX11_dogs 59 = .ok (.aload_n 0, 1) := by decide +kernel
theorem dX11_dogs_60 : decode cX11_dogs 60 = .ok (.iload_n 1, 1) := by decide +kernel
theorem dX11_dogs_61 : decode cX11_dogs 61 = .ok (.iconst 1, 1) := by decide +kernel
theorem dX11_dogs_62 : decode cX11_dogs 62 = .ok (.invokevirtual 57, 3) := by decide +kernel
theorem dX11_dogs_65 : decode cX11_dogs 65 = .ok (.invokevirtual 323, 3) := by decide +kernel
theorem dX11_dogs_68 : decode cX11_dogs 68 = .ok (.aload_n 0, 1) := by decide +kernel
theorem dX11_dogs_69 : decode cX11_dogs 69 = .ok (.iload_n 1, 1) := by decide +kernel
theorem dX11_dogs_70 : decode cX11_dogs 70 = .ok (.invokevirtual 338, 3) := by decide +kernel
theorem dX11_dogs_73 : decode cX11_dogs 73 = .ok (.return_, 1) := by decide +kernel
theorem dX11_morning_0 : decode cX11_morning 0 = .ok (.iconst 0, 1) := by decide +kernel
theorem dX11_morning_1 : decode cX11_morning 1 = .ok (.istore_n 1, 1) := by decide +kernel
theorem dX11_morning_2 : decode cX11_morning 2 = .ok (.iload_n 1, 1) := by decide +kernel
theorem dX11_morning_3 : decode cX11_morning 3 = .ok (.aload_n 0, 1) := by decide +kernel
theorem dX11_morning_4 : decode cX11_morning 4 = .ok (.getfield 7, 3) := by decide +kernel
theorem dX11_morning_7 : decode cX11_morning 7 = .ok (.bipush 84, 2) := by decide +kernel
theorem dX11_morning_9 : decode cX11_morning 9 = .ok (.iaload, 1) := by decide +kernel
theorem dX11_morning_10 : decode cX11_morning 10 = .ok (.if_icmp .ge 60, 3) := by decide +kernel
theorem dX11_morning_13 : decode cX11_morning 13 = .ok (.aload_n 0, 1) := by decide +kernel
theorem dX11_morning_14 : decode cX11_morning 14 = .ok (.getfield 7, 3) := by decide +kernel
theorem dX11_morning_17 : decode cX11_morning 17 = .ok (.bipush 103, 2) := by decide +kernel
theorem dX11_morning_19 : decode cX11_morning 19 = .ok (.iconst 3, 1) := by decide +kernel
theorem dX11_morning_20 : decode cX11_morning 20 = .ok (.iload_n 1, 1) := by decide +kernel
theorem dX11_morning_21 : decode cX11_morning 21 = .ok (.imul, 1) := by decide +kernel
theorem dX11_morning_22 : decode cX11_morning 22 = .ok (.iadd, 1) := by decide +kernel
theorem dX11_morning_23 : decode cX11_morning 23 = .ok (.iaload, 1) := by decide +kernel
theorem dX11_morning_24 : decode cX11_morning 24 = .ok (.aload_n 0, 1) := by decide +kernel
theorem dX11_morning_25 : decode cX11_morning 25 = .ok (.getfield 7, 3) := by decide +kernel
theorem dX11_morning_28 : decode cX11_morning 28 = .ok (.iconst 0, 1) := by decide +kernel
theorem dX11_morning_29 : decode cX11_morning 29 = .ok (.iaload, 1) := by decide +kernel
theorem dX11_morning_30 : decode cX11_morning 30 = .ok (.if_icmp .ne 34, 3) := by decide +kernel
theorem dX11_morning_33 : decode cX11_morning 33 = .ok (.aload_n 0, 1) := by decide +kernel
theorem dX11_morning_34 : decode cX11_morning 34 = .ok (.aload_n 0, 1) := by decide +kernel
theorem dX11_morning_35 : decode cX11_morning 35 = .ok (.getfield 7, 3) := by decide +kernel
theorem dX11_morning_38 : decode cX11_morning 38 = .ok (.bipush 103, 2) := by decide +kernel
theorem dX11_morning_40 : decode cX11_morning 40 = .ok (.iconst 3, 1) := by decide +kernel
theorem dX11_morning_41 : decode cX11_morning 41 = .ok (.iload_n 1, 1) := by decide +kernel
theorem dX11_morning_42 : decode cX11_morning 42 = .ok (.imul, 1) := by decide +kernel
theorem dX11_morning_43 : decode cX11_morning 43 = .ok (.iadd, 1) := by decide +kernel
theorem dX11_morning_44 : decode cX11_morning 44 = .ok (.iconst 1, 1) := by decide +kernel
theorem dX11_morning_45 : decode cX11_morning 45 = .ok (.iadd, 1) := by decide +kernel
theorem dX11_morning_46 : decode cX11_morning 46 = .ok (.iaload, 1) := by decide +kernel
theorem dX11_morning_47 : decode cX11_morning 47 = .ok (.aload_n 0, 1) := by decide +kernel
theorem dX11_morning_48 : decode cX11_morning 48 = .ok (.getfield 7, 3) := by decide +kernel
theorem dX11_morning_51 : decode cX11_morning 51 = .ok (.bipush 103, 2) := by decide +kernel
theorem dX11_morning_53 : decode cX11_morning 53 = .ok (.iconst 3, 1) := by decide +kernel
theorem dX11_morning_54 : decode cX11_morning 54 = .ok (.iload_n 1, 1) := by decide +kernel
theorem dX11_morning_55 : decode cX11_morning 55 = .ok (.imul, 1) := by decide +kernel
theorem dX11_morning_56 : decode cX11_morning 56 = .ok (.iadd, 1) := by decide +kernel
theorem dX11_morning_57 : decode cX11_morning 57 = .ok (.iconst 2, 1) := by decide +kernel
theorem dX11_morning_58 : decode cX11_morning 58 = .ok (.iadd, 1) := by decide +kernel
theorem dX11_morning_59 : decode cX11_morning 59 = .ok (.iaload, 1) := by decide +kernel
theorem dX11_morning_60 : decode cX11_morning 60 = .ok (.invokevirtual 329, 3) := by decide +kernel
theorem dX11_morning_63 : decode cX11_morning 63 = .ok (.pop, 1) := by decide +kernel
theorem dX11_morning_64 : decode cX11_morning 64 = .ok (.iinc 1 1, 3) := by decide +kernel
theorem dX11_morning_67 : decode cX11_morning 67 = .ok (.goto (-65), 3) := by decide +kernel
theorem dX11_morning_70 : decode cX11_morning 70 = .ok (.aload_n 0, 1) := by decide +kernel
theorem dX11_morning_71 : decode cX11_morning 71 = .ok (.invokevirtual 379, 3) := by decide +kernel
theorem dX11_morning_74 : decode cX11_morning 74 = .ok (.ireturn, 1) := by decide +kernel
theorem dX11_evening_0 : decode cX11_evening 0 = .ok (.aload_n 0, 1) := by decide +kernel
theorem dX11_evening_1 : decode cX11_evening 1 = .ok (.invokevirtual 382, 3) := by decide +kernel
theorem dX11_evening_4 : decode cX11_evening 4 = .ok (.aload_n 0, 1) := by decide +kernel
theorem dX11_evening_5 : decode cX11_evening 5 = .ok (.getfield 309, 3) := by decide +kernel
theorem dX11_evening_8 : decode cX11_evening 8 = .ok (.ifCond .eq 7, 3) := by decide +kernel
theorem dX11_evening_11 : decode cX11_evening 11 = .ok (.aload_n 0, 1) := by decide +kernel
theorem dX11_evening_12 : decode cX11_evening 12 = .ok (.invokevirtual 385, 3) := by decide +kernel
theorem dX11_evening_15 : decode cX11_evening 15 = .ok (.aload_n 0, 1) := by decide +kernel
theorem dX11_evening_16 : decode cX11_evening 16 = .ok (.getfield 309, 3) := by decide +kernel
theorem dX11_evening_19 : decode cX11_evening 19 = .ok (.ifCond .eq 7, 3) := by decide +kernel
theorem dX11_evening_22 : decode cX11_evening 22 = .ok (.aload_n 0, 1) := by decide +kernel
theorem dX11_evening_23 : decode cX11_evening 23 = .ok (.invokevirtual 388, 3) := by decide +kernel
theorem dX11_evening_26 : decode cX11_evening 26 = .ok (.aload_n 0, 1) := by decide +kernel
theorem dX11_evening_27 : decode cX11_evening 27 = .ok (.getfield 7, 3) := by decide +kernel
theorem dX11_evening_30 : decode cX11_evening 30 = .ok (.iconst 0, 1) := by decide +kernel
theorem dX11_evening_31 : decode cX11_evening 31 = .ok (.dup2, 1) := by decide +kernel
theorem dX11_evening_32 : decode cX11_evening 32 = .ok (.iaload, 1) := by decide +kernel
theorem dX11_evening_33 : decode cX11_evening 33 = .ok (.iconst 1, 1) := by decide +kernel
theorem dX11_evening_34 : decode cX11_evening 34 = .ok (.iadd, 1) := by decide +kernel
theorem dX11_evening_35 : decode cX11_evening 35 = .ok (.iastore, 1) := by decide +kernel
theorem dX11_evening_36 : decode cX11_evening 36 = .ok (.return_, 1) := by decide +kernel
theorem dX11_days_0 : decode cX11_days 0 = .ok (.iload_n 1, 1) := by decide +kernel
theorem dX11_days_1 : decode cX11_days 1 = .ok (.iconst 1, 1) := by decide +kernel
theorem dX11_days_2 : decode cX11_days 2 = .ok (.bipush 60, 2) := by decide +kernel
theorem dX11_days_4 : decode cX11_days 4 = .ok (.invokestatic 53, 3) := by decide +kernel
theorem dX11_days_7 : decode cX11_days 7 = .ok (.ifCond .eq 17, 3) := by decide +kernel
theorem dX11_days_10 : decode cX11_days 10 = .ok (.aload_n 0, 1) := by decide +kernel
theorem dX11_days_11 : decode cX11_days 11 = .ok (.getfield 7, 3) := by decide +kernel
theorem dX11_days_14 : decode cX11_days 14 = .ok (.iconst 0, 1) := by decide +kernel
theorem dX11_days_15 : decode cX11_days 15 = .ok (.iaload, 1) := by decide +kernel
theorem dX11_days_16 : decode cX11_days 16 = .ok (.iload_n 1, 1) := by decide +kernel
theorem dX11_days_17 : decode cX11_days 17 = .ok (.iadd, 1) := by decide +kernel
theorem dX11_days_18 : decode cX11_days 18 = .ok (.sipush 9999, 3) := by decide +kernel
theorem dX11_days_21 : decode cX11_days 21 = .ok (.if_icmp .le 5, 3) := by decide +kernel
theorem dX11_days_24 : decode cX11_days 24 = .ok (.iconst (-1), 1) := by decide +kernel
theorem dX11_days_25 : decode cX11_days 25 = .ok (.ireturn, 1) := by decide +kernel
theorem dX11_days_26 : decode cX11_days 26 = .ok (.iconst 0, 1) := by decide +kernel
theorem dX11_days_27 : decode cX11_days 27 = .ok (.istore_n 2, 1) := by decide +kernel
theorem dX11_days_28 : decode cX11_days 28 = .ok (.iconst 0, 1) := by decide +kernel
theorem dX11_days_29 : decode cX11_days 29 = .ok (.istore_n 3, 1) := by decide +kernel
theorem dX11_days_30 : decode cX11_days 30 = .ok (.iload_n 3, 1) := by decide +kernel
theorem dX11_days_31 : decode cX11_days 31 = .ok (.iload_n 1, 1) := by decide +kernel
theorem dX11_days_32 : decode cX11_days 32 = .ok (.if_icmp .ge 24, 3) := by decide +kernel
theorem dX11_days_35 : decode cX11_days 35 = .ok (.aload_n 0, 1) := by decide +kernel
theorem dX11_days_36 : decode cX11_days 36 = .ok (.invokevirtual 327, 3) := by decide +kernel
theorem dX11_days_39 : decode cX11_days 39 = .ok (.iload_n 2, 1) := by decide +kernel
theorem dX11_days_40 : decode cX11_days 40 = .ok (.aload_n 0, 1) := by decide +kernel
theorem dX11_days_41 : decode cX11_days 41 = .ok (.invokevirtual 391, 3) := by decide +kernel
theorem dX11_days_44 : decode cX11_days 44 = .ok (.iadd, 1) := by decide +kernel
theorem dX11_days_45 : decode cX11_days 45 = .ok (.istore_n 2, 1) := by decide +kernel
theorem dX11_days_46 : decode cX11_days 46 = .ok (.aload_n 0, 1) := by decide +kernel
theorem dX11_days_47 : decode cX11_days 47 = .ok (.invokevirtual 394, 3) := by decide +kernel
theorem dX11_days_50 : decode cX11_days 50 = .ok (.iinc 3 1, 3) := by decide +kernel
theorem dX11_days_53 : decode cX11_days 53 = .ok (.goto (-23), 3) := by decide +kernel
theorem dX11_days_56 : decode cX11_days 56 = .ok (.iload_n 2, 1) := by decide +kernel
theorem dX11_days_57 : decode cX11_days 57 = .ok (.ireturn, 1) := by decide +kernel
theorem dX11_remain_0 : decode cX11_remain 0 = .ok (.aload_n 0, 1) := by decide +kernel
theorem dX11_remain_1 : decode cX11_remain 1 = .ok (.iload_n 1, 1) := by decide +kernel
theorem dX11_remain_2 : decode cX11_remain 2 = .ok (.invokevirtual 332, 3) := by decide +kernel
theorem dX11_remain_5 : decode cX11_remain 5 = .ok (.ifCond .ne 5, 3) := by decide +kernel
theorem dX11_remain_8 : decode cX11_remain 8 = .ok (.iconst (-1), 1) := by decide +kernel
theorem dX11_remain_9 : decode cX11_remain 9 = .ok (.ireturn, 1) := by decide +kernel
theorem dX11_remain_10 : decode cX11_remain 10 = .ok (.iload_n 2, 1) := by decide +kernel
theorem dX11_remain_11 : decode cX11_remain 11 = .ok (.lookupswitch 38 #[(5, 25), (6, 32)], 25) := by decide +kernel
theorem dX11_remain_36 : decode cX11_remain 36 = .ok (.aload_n 0, 1) := by decide +kernel
theorem dX11_remain_37 : decode cX11_remain 37 = .ok (.iload_n 1, 1) := by decide +kernel
theorem dX11_remain_38 : decode cX11_remain 38 = .ok (.iconst 0, 1) := by decide +kernel
theorem dX11_remain_39 : decode cX11_remain 39 = .ok (.invokevirtual 342, 3) := by decide +kernel
theorem dX11_remain_42 : decode cX11_remain 42 = .ok (.ireturn, 1) := by decide +kernel
theorem dX11_remain_43 : decode cX11_remain 43 = .ok (.aload_n 0, 1) := by decide +kernel
theorem dX11_remain_44 : decode cX11_remain 44 = .ok (.iload_n 1, 1) := by decide +kernel
theorem dX11_remain_45 : decode cX11_remain 45 = .ok (.invokevirtual 370, 3) := by decide +kernel
theorem dX11_remain_48 : decode cX11_remain 48 = .ok (.ireturn, 1) := by decide +kernel
theorem dX11_remain_49 : decode cX11_remain 49 = .ok (.iload_n 2, 1) := by decide +kernel
theorem dX11_remain_50 : decode cX11_remain 50 = .ok (.iconst 0, 1) := by decide +kernel
theorem dX11_remain_51 : decode cX11_remain 51 = .ok (.iconst 4, 1) := by decide +kernel
theorem dX11_remain_52 : decode cX11_remain 52 = .ok (.invokestatic 53, 3) := by decide +kernel
theorem dX11_remain_55 : decode cX11_remain 55 = .ok (.ifCond .eq 12, 3) := by decide +kernel
theorem dX11_remain_58 : decode cX11_remain 58 = .ok (.aload_n 0, 1) := by decide +kernel
theorem dX11_remain_59 : decode cX11_remain 59 = .ok (.iload_n 1, 1) := by decide +kernel
theorem dX11_remain_60 : decode cX11_remain 60 = .ok (.iload_n 2, 1) := by decide +kernel
theorem dX11_remain_61 : decode cX11_remain 61 = .ok (.invokevirtual 57, 3) := by decide +kernel
theorem dX11_remain_64 : decode cX11_remain 64 = .ok (.goto 4, 3) := by decide +kernel
theorem dX11_remain_67 : decode cX11_remain 67 = .ok (.iconst (-1), 1) := by decide +kernel
theorem dX11_remain_68 : decode cX11_remain 68 = .ok (.ireturn, 1) := by decide +kernel
theorem dX11_kind_0 : decode cX11_kind 0 = .ok (.aload_n 0, 1) := by decide +kernel
theorem dX11_kind_1 : decode cX11_kind 1 = .ok (.iload_n 1, 1) := by decide +kernel
theorem dX11_kind_2 : decode cX11_kind 2 = .ok (.invokevirtual 239, 3) := by decide +kernel
theorem dX11_kind_5 : decode cX11_kind 5 = .ok (.ifCond .ne 5, 3) := by decide +kernel
theorem dX11_kind_8 : decode cX11_kind 8 = .ok (.iconst (-1), 1) := by decide +kernel
theorem dX11_kind_9 : decode cX11_kind 9 = .ok (.ireturn, 1) := by decide +kernel
theorem dX11_kind_10 : decode cX11_kind 10 = .ok (.iload_n 2, 1) := by decide +kernel
theorem dX11_kind_11 : decode cX11_kind 11 = .ok (.tableswitch 60 0 3 #[29, 35, 41, 50], 29) := by decide +kernel
theorem dX11_kind_40 : decode cX11_kind 40 = .ok (.aload_n 0, 1) := by decide +kernel
theorem dX11_kind_41 : decode cX11_kind 41 = .ok (.iload_n 1, 1) := by decide +kernel
theorem dX11_kind_42 : decode cX11_kind 42 = .ok (.invokevirtual 294, 3) := by decide +kernel
theorem dX11_kind_45 : decode cX11_kind 45 = .ok (.ireturn, 1) := by decide +kernel
theorem dX11_kind_46 : decode cX11_kind 46 = .ok (.aload_n 0, 1) := by decide +kernel
theorem dX11_kind_47 : decode cX11_kind 47 = .ok (.iload_n 1, 1) := by decide +kernel
theorem dX11_kind_48 : decode cX11_kind 48 = .ok (.invokevirtual 367, 3) := by decide +kernel
theorem dX11_kind_51 : decode cX11_kind 51 = .ok (.ireturn, 1) := by decide +kernel
theorem dX11_kind_52 : decode cX11_kind 52 = .ok (.aload_n 0, 1) := by decide +kernel
theorem dX11_kind_53 : decode cX11_kind 53 = .ok (.iload_n 1, 1) := by decide +kernel
theorem dX11_kind_54 : decode cX11_kind 54 = .ok (.invokevirtual 351, 3) := by decide +kernel
theorem dX11_kind_57 : decode cX11_kind 57 = .ok (.invokestatic 345, 3) := by decide +kernel
theorem dX11_kind_60 : decode cX11_kind 60 = .ok (.ireturn, 1) := by decide +kernel
theorem dX11_kind_61 : decode cX11_kind 61 = .ok (.aload_n 0, 1) := by decide +kernel
theorem dX11_kind_62 : decode cX11_kind 62 = .ok (.aload_n 0, 1) := by decide +kernel
theorem dX11_kind_63 : decode cX11_kind 63 = .ok (.iload_n 1, 1) := by decide +kernel
theorem dX11_kind_64 : decode cX11_kind 64 = .ok (.invokevirtual 351, 3) := by decide +kernel
theorem dX11_kind_67 : decode cX11_kind 67 = .ok (.invokevirtual 348, 3) := by decide +kernel
theorem dX11_kind_70 : decode cX11_kind 70 = .ok (.ireturn, 1) := by decide +kernel
theorem dX11_kind_71 : decode cX11_kind 71 = .ok (.iconst (-1), 1) := by decide +kernel
theorem dX11_kind_72 : decode cX11_kind 72 = .ok (.ireturn, 1) := by decide +kernel
theorem dX11_left_0 : decode cX11_left 0 = .ok (.aload_n 0, 1) := by decide +kernel
theorem dX11_left_1 : decode cX11_left 1 = .ok (.iload_n 1, 1) := by decide +kernel
theorem dX11_left_2 : decode cX11_left 2 = .ok (.invokevirtual 239, 3) := by decide +kernel
theorem dX11_left_5 : decode cX11_left 5 = .ok (.ifCond .eq 13, 3) := by decide +kernel
theorem dX11_left_8 : decode cX11_left 8 = .ok (.iload_n 2, 1) := by decide +kernel
theorem dX11_left_9 : decode cX11_left 9 = .ok (.iconst 1, 1) := by decide +kernel
theorem dX11_left_10 : decode cX11_left 10 = .ok (.bipush 20, 2) := by decide +kernel
theorem dX11_left_12 : decode cX11_left 12 = .ok (.invokestatic 53, 3) := by decide +kernel
theorem dX11_left_15 : decode cX11_left 15 = .ok (.ifCond .ne 5, 3) := by decide +kernel
theorem dX11_left_18 : decode cX11_left 18 = .ok (.iconst (-1), 1) := by decide +kernel
theorem dX11_left_19 : decode cX11_left 19 = .ok (.ireturn, 1) := by decide +kernel
theorem dX11_left_20 : decode cX11_left 20 = .ok (.iload_n 3, 1) := by decide +kernel
theorem dX11_left_21 : decode cX11_left 21 = .ok (.ifCond .eq 12, 3) := by decide +kernel
theorem dX11_left_24 : decode cX11_left 24 = .ok (.aload_n 0, 1) := by decide +kernel
theorem dX11_left_25 : decode cX11_left 25 = .ok (.iload_n 1, 1) := by decide +kernel
theorem dX11_left_26 : decode cX11_left 26 = .ok (.iload_n 2, 1) := by decide +kernel
theorem dX11_left_27 : decode cX11_left 27 = .ok (.invokevirtual 316, 3) := by decide +kernel
theorem dX11_left_30 : decode cX11_left 30 = .ok (.goto 9, 3) := by decide +kernel
theorem dX11_left_33 : decode cX11_left 33 = .ok (.aload_n 0, 1) := by decide +kernel
theorem dX11_left_34 : decode cX11_left 34 = .ok (.iload_n 1, 1) := by decide +kernel
theorem dX11_left_35 : decode cX11_left 35 = .ok (.iload_n 2, 1) := by decide +kernel
theorem dX11_left_36 : decode cX11_left 36 = .ok (.invokevirtual 313, 3) := by decide +kernel
theorem dX11_left_39 : decode cX11_left 39 = .ok (.ireturn, 1) := by decide +kernel
theorem dX11_want_0 : decode cX11_want 0 = .ok (.iload_n 1, 1) := by decide +kernel
theorem dX11_want_1 : decode cX11_want 1 = .ok (.iconst 0, 1) := by decide +kernel
theorem dX11_want_2 : decode cX11_want 2 = .ok (.aload_n 0, 1) := by decide +kernel
theorem dX11_want_3 : decode cX11_want 3 = .ok (.getfield 7, 3) := by decide +kernel
theorem dX11_want_6 : decode cX11_want 6 = .ok (.bipush 85, 2) := by decide +kernel
theorem dX11_want_8 : decode cX11_want 8 = .ok (.iaload, 1) := by decide +kernel
theorem dX11_want_9 : decode cX11_want 9 = .ok (.iconst 1, 1) := by decide +kernel
theorem dX11_want_10 : decode cX11_want 10 = .ok (.isub, 1) := by decide +kernel
theorem dX11_want_11 : decode cX11_want 11 = .ok (.invokestatic 53, 3) := by decide +kernel
theorem dX11_want_14 : decode cX11_want 14 = .ok (.ifCond .eq 12, 3) := by decide +kernel
theorem dX11_want_17 : decode cX11_want 17 = .ok (.iload_n 2, 1) := by decide +kernel
theorem dX11_want_18 : decode cX11_want 18 = .ok (.iconst 0, 1) := by decide +kernel
theorem dX11_want_19 : decode cX11_want 19 = .ok (.iconst 4, 1) := by decide +kernel
theorem dX11_want_20 : decode cX11_want 20 = .ok (.invokestatic 53, 3) := by decide +kernel
theorem dX11_want_23 : decode cX11_want 23 = .ok (.ifCond .ne 5, 3) := by decide +kernel
theorem dX11_want_26 : decode cX11_want 26 = .ok (.iconst (-1), 1) := by decide +kernel
theorem dX11_want_27 : decode cX11_want 27 = .ok (.ireturn, 1) := by decide +kernel
theorem dX11_want_28 : decode cX11_want 28 = .ok (.iload_n 2, 1) := by decide +kernel
theorem dX11_want_29 : decode cX11_want 29 = .ok (.iconst 4, 1) := by decide +kernel
theorem dX11_want_30 : decode cX11_want 30 = .ok (.if_icmp .ge 12, 3) := by decide +kernel
theorem dX11_want_33 : decode cX11_want 33 = .ok (.aload_n 0, 1) := by decide +kernel
theorem dX11_want_34 : decode cX11_want 34 = .ok (.iload_n 1, 1) := by decide +kernel
theorem dX11_want_35 : decode cX11_want 35 = .ok (.iload_n 2, 1) := by decide +kernel
theorem dX11_want_36 : decode cX11_want 36 = .ok (.invokevirtual 364, 3) := by decide +kernel
theorem dX11_want_39 : decode cX11_want 39 = .ok (.goto 16, 3) := by decide +kernel
theorem dX11_want_42 : decode cX11_want 42 = .ok (.aload_n 0, 1) := by decide +kernel
theorem dX11_want_43 : decode cX11_want 43 = .ok (.iload_n 1, 1) := by decide +kernel
theorem dX11_want_44 : decode cX11_want 44 = .ok (.invokevirtual 361, 3) := by decide +kernel
theorem dX11_want_47 : decode cX11_want 47 = .ok (.ifCond .eq 7, 3) := by decide +kernel
theorem dX11_want_50 : decode cX11_want 50 = .ok (.iconst 1, 1) := by decide +kernel
theorem dX11_want_51 : decode cX11_want 51 = .ok (.goto 4, 3) := by decide +kernel
theorem dX11_want_54 : decode cX11_want 54 = .ok (.iconst 0, 1) := by decide +kernel
theorem dX11_want_55 : decode cX11_want 55 = .ok (.ireturn, 1) := by decide +kernel
theorem dX11_book_0 : decode cX11_book 0 = .ok (.iload_n 1, 1) := by decide +kernel
theorem dX11_book_1 : decode cX11_book 1 = .ok (.iconst 0, 1) := by decide +kernel
theorem dX11_book_2 : decode cX11_book 2 = .ok (.aload_n 0, 1) := by decide +kernel
theorem dX11_book_3 : decode cX11_book 3 = .ok (.getfield 7, 3) := by decide +kernel
theorem dX11_book_6 : decode cX11_book 6 = .ok (.iconst 5, 1) := by decide +kernel
theorem dX11_book_7 : decode cX11_book 7 = .ok (.iaload, 1) := by decide +kernel
theorem dX11_book_8 : decode cX11_book 8 = .ok (.iconst 1, 1) := by decide +kernel
theorem dX11_book_9 : decode cX11_book 9 = .ok (.isub, 1) := by decide +kernel
theorem dX11_book_10 : decode cX11_book 10 = .ok (.invokestatic 53, 3) := by decide +kernel
theorem dX11_book_13 : decode cX11_book 13 = .ok (.ifCond .eq 29, 3) := by decide +kernel
theorem dX11_book_16 : decode cX11_book 16 = .ok (.iload_n 2, 1) := by decide +kernel
theorem dX11_book_17 : decode cX11_book 17 = .ok (.iconst 0, 1) := by decide +kernel
theorem dX11_book_18 : decode cX11_book 18 = .ok (.iconst 3, 1) := by decide +kernel
theorem dX11_book_19 : decode cX11_book 19 = .ok (.invokestatic 53, 3) := by decide +kernel
theorem dX11_book_22 : decode cX11_book 22 = .ok (.ifCond .eq 20, 3) := by decide +kernel
theorem dX11_book_25 : decode cX11_book 25 = .ok (.aload_n 0, 1) := by decide +kernel
theorem dX11_book_26 : decode cX11_book 26 = .ok (.getfield 7, 3) := by decide +kernel
theorem dX11_book_29 : decode cX11_book 29 = .ok (.sipush 370, 3) := by decide +kernel
theorem dX11_book_32 : decode cX11_book 32 = .ok (.iconst 4, 1) := by decide +kernel
theorem dX11_book_33 : decode cX11_book 33 = .ok (.iload_n 1, 1) := by decide +kernel
theorem dX11_book_34 : decode cX11_book 34 = .ok (.imul, 1) := by decide +kernel
theorem dX11_book_35 : decode cX11_book 35 = .ok (.iadd, 1) := by decide +kernel
theorem dX11_book_36 : decode cX11_book 36 = .ok (.iload_n 2, 1) := by decide +kernel
theorem dX11_book_37 : decode cX11_book 37 = .ok (.iadd, 1) := by decide +kernel
theorem dX11_book_38 : decode cX11_book 38 = .ok (.iaload, 1) := by decide +kernel
theorem dX11_book_39 : decode cX11_book 39 = .ok (.goto 4, 3) := by decide +kernel
theorem dX11_book_42 : decode cX11_book 42 = .ok (.iconst (-1), 1) := by decide +kernel
theorem dX11_book_43 : decode cX11_book 43 = .ok (.ireturn, 1) := by decide +kernel
theorem dX11_firstMissed_0 : decode cX11_firstMissed 0 = .ok (.iconst 0, 1) := by decide +kernel
theorem dX11_firstMissed_1 : decode cX11_firstMissed 1 = .ok (.istore_n 1, 1) := by decide +kernel
theorem dX11_firstMissed_2 : decode cX11_firstMissed 2 = .ok (.iload_n 1, 1) := by decide +kernel
theorem dX11_firstMissed_3 : decode cX11_firstMissed 3 = .ok (.aload_n 0, 1) := by decide +kernel
theorem dX11_firstMissed_4 : decode cX11_firstMissed 4 = .ok (.getfield 7, 3) := by decide +kernel
theorem dX11_firstMissed_7 : decode cX11_firstMissed 7 = .ok (.bipush 85, 2) := by decide +kernel
theorem dX11_firstMissed_9 : decode cX11_firstMissed 9 = .ok (.iaload, 1) := by decide +kernel
theorem dX11_firstMissed_10 : decode cX11_firstMissed 10 = .ok (.if_icmp .ge 34, 3) := by decide +kernel
theorem dX11_firstMissed_13 : decode cX11_firstMissed 13 = .ok (.aload_n 0, 1) := by decide +kernel
theorem dX11_firstMissed_14 : decode cX11_firstMissed 14 = .ok (.iload_n 1, 1) := by decide +kernel
theorem dX11_firstMissed_15 : decode cX11_firstMissed 15 = .ok (.iconst 2, 1) := by decide +kernel
theorem dX11_firstMissed_16 : decode cX11_firstMissed 16 = .ok (.invokevirtual 364, 3) := by decide +kernel
theorem dX11_firstMissed_19 : decode cX11_firstMissed 19 = .ok (.aload_n 0, 1) := by decide +kernel
theorem dX11_firstMissed_20 : decode cX11_firstMissed 20 = .ok (.getfield 7, 3) := by decide +kernel
theorem dX11_firstMissed_23 : decode cX11_firstMissed 23 = .ok (.iconst 0, 1) := by decide +kernel
theorem dX11_firstMissed_24 : decode cX11_firstMissed 24 = .ok (.iaload, 1) := by decide +kernel
theorem dX11_firstMissed_25 : decode cX11_firstMissed 25 = .ok (.if_icmp .ne 13, 3) := by decide +kernel
theorem dX11_firstMissed_28 : decode cX11_firstMissed 28 = .ok (.aload_n 0, 1) := by decide +kernel
theorem dX11_firstMissed_29 : decode cX11_firstMissed 29 = .ok (.iload_n 1, 1) := by decide +kernel
theorem dX11_firstMissed_30 : decode cX11_firstMissed 30 = .ok (.invokevirtual 361, 3) := by decide +kernel
theorem dX11_firstMissed_33 : decode cX11_firstMissed 33 = .ok (.ifCond .ne 5, 3) := by decide +kernel
theorem dX11_firstMissed_36 : decode cX11_firstMissed 36 = .ok (.iload_n 1, 1) := by decide +kernel
theorem dX11_firstMissed_37 : decode cX11_firstMissed 37 = .ok (.ireturn, 1) := by decide +kernel
theorem dX11_firstMissed_38 : decode cX11_firstMissed 38 = .ok (.iinc 1 1, 3) := by decide +kernel
theorem dX11_firstMissed_41 : decode cX11_firstMissed 41 = .ok (.goto (-39), 3) := by decide +kernel
theorem dX11_firstMissed_44 : decode cX11_firstMissed 44 = .ok (.iconst (-1), 1) := by decide +kernel
theorem dX11_firstMissed_45 : decode cX11_firstMissed 45 = .ok (.ireturn, 1) := by decide +kernel
theorem dX11_goes_0 : decode cX11_goes 0 = .ok (.iload_n 1, 1) := by decide +kernel
theorem dX11_goes_1 : decode cX11_goes 1 = .ok (.iconst 1, 1) := by decide +kernel
theorem dX11_goes_2 : decode cX11_goes 2 = .ok (.bipush 60, 2) := by decide +kernel
theorem dX11_goes_4 : decode cX11_goes 4 = .ok (.invokestatic 53, 3) := by decide +kernel
theorem dX11_goes_7 : decode cX11_goes 7 = .ok (.ifCond .eq 12, 3) := by decide +kernel
theorem dX11_goes_10 : decode cX11_goes 10 = .ok (.iload_n 2, 1) := by decide +kernel
theorem dX11_goes_11 : decode cX11_goes 11 = .ok (.iconst 0, 1) := by decide +kernel
theorem dX11_goes_12 : decode cX11_goes 12 = .ok (.iconst 3, 1) := by decide +kernel
theorem dX11_goes_13 : decode cX11_goes 13 = .ok (.invokestatic 53, 3) := by decide +kernel
theorem dX11_goes_16 : decode cX11_goes 16 = .ok (.ifCond .ne 7, 3) := by decide +kernel
theorem dX11_goes_19 : decode cX11_goes 19 = .ok (.ldc_w 397, 3) := by decide +kernel
theorem dX11_goes_22 : decode cX11_goes 22 = .ok (.ireturn, 1) := by decide +kernel
theorem dX11_goes_23 : decode cX11_goes 23 = .ok (.iconst 0, 1) := by decide +kernel
theorem dX11_goes_24 : decode cX11_goes 24 = .ok (.istore_n 3, 1) := by decide +kernel
theorem dX11_goes_25 : decode cX11_goes 25 = .ok (.iload_n 3, 1) := by decide +kernel
theorem dX11_goes_26 : decode cX11_goes 26 = .ok (.bipush 80, 2) := by decide +kernel
theorem dX11_goes_28 : decode cX11_goes 28 = .ok (.if_icmp .ge 21, 3) := by decide +kernel
theorem dX11_goes_31 : decode cX11_goes 31 = .ok (.aload_n 0, 1) := by decide +kernel
theorem dX11_goes_32 : decode cX11_goes 32 = .ok (.getfield 19, 3) := by decide +kernel
theorem dX11_goes_35 : decode cX11_goes 35 = .ok (.iload_n 3, 1) := by decide +kernel
theorem dX11_goes_36 : decode cX11_goes 36 = .ok (.aload_n 0, 1) := by decide +kernel
theorem dX11_goes_37 : decode cX11_goes 37 = .ok (.getfield 7, 3) := by decide +kernel
theorem dX11_goes_40 : decode cX11_goes 40 = .ok (.iload_n 3, 1) := by decide +kernel
theorem dX11_goes_41 : decode cX11_goes 41 = .ok (.iaload, 1) := by decide +kernel
theorem dX11_goes_42 : decode cX11_goes 42 = .ok (.iastore, 1) := by decide +kernel
theorem dX11_goes_43 : decode cX11_goes 43 = .ok (.iinc 3 1, 3) := by decide +kernel
theorem dX11_goes_46 : decode cX11_goes 46 = .ok (.goto (-21), 3) := by decide +kernel
theorem dX11_goes_49 : decode cX11_goes 49 = .ok (.aload_n 0, 1) := by decide +kernel
theorem dX11_goes_50 : decode cX11_goes 50 = .ok (.iconst 0, 1) := by decide +kernel
theorem dX11_goes_51 : decode cX11_goes 51 = .ok (.putfield 309, 3) := by decide +kernel
theorem dX11_goes_54 : decode cX11_goes 54 = .ok (.iconst (-1), 1) := by decide +kernel
theorem dX11_goes_55 : decode cX11_goes 55 = .ok (.istore_n 3, 1) := by decide +kernel
theorem dX11_goes_56 : decode cX11_goes 56 = .ok (.iconst 0, 1) := by decide +kernel
theorem dX11_goes_57 : decode cX11_goes 57 = .ok (.istore 4, 2) := by decide +kernel
theorem dX11_goes_59 : decode cX11_goes 59 = .ok (.iload 4, 2) := by decide +kernel
theorem dX11_goes_61 : decode cX11_goes 61 = .ok (.iload_n 1, 1) := by decide +kernel
theorem dX11_goes_62 : decode cX11_goes 62 = .ok (.if_icmp .ge 32, 3) := by decide +kernel
theorem dX11_goes_65 : decode cX11_goes 65 = .ok (.aload_n 0, 1) := by decide +kernel
theorem dX11_goes_66 : decode cX11_goes 66 = .ok (.invokevirtual 391, 3) := by decide +kernel
theorem dX11_goes_69 : decode cX11_goes 69 = .ok (.pop, 1) := by decide +kernel
theorem dX11_goes_70 : decode cX11_goes 70 = .ok (.iload_n 3, 1) := by decide +kernel
theorem dX11_goes_71 : decode cX11_goes 71 = .ok (.iconst (-1), 1) := by decide +kernel
theorem dX11_goes_72 : decode cX11_goes 72 = .ok (.if_icmp .ne 10, 3) := by decide +kernel
theorem dX11_goes_75 : decode cX11_goes 75 = .ok (.aload_n 0, 1) := by decide +kernel
theorem dX11_goes_76 : decode cX11_goes 76 = .ok (.invokevirtual 398, 3) := by decide +kernel
theorem dX11_goes_79 : decode cX11_goes 79 = .ok (.goto 4, 3) := by decide +kernel
theorem dX11_goes_82 : decode cX11_goes 82 = .ok (.iload_n 3, 1) := by decide +kernel
theorem dX11_goes_83 : decode cX11_goes 83 = .ok (.istore_n 3, 1) := by decide +kernel
theorem dX11_goes_84 : decode cX11_goes 84 = .ok (.aload_n 0, 1) := by decide +kernel
theorem dX11_goes_85 : decode cX11_goes 85 = .ok (.invokevirtual 394, 3) := by decide +kernel
theorem dX11_goes_88 : decode cX11_goes 88 = .ok (.iinc 4 1, 3) := by decide +kernel
theorem dX11_goes_91 : decode cX11_goes 91 = .ok (.goto (-32), 3) := by decide +kernel
theorem dX11_goes_94 : decode cX11_goes 94 = .ok (.iload_n 2, 1) := by decide +kernel
theorem dX11_goes_95 : decode cX11_goes 95 = .ok (.ifCond .ne 12, 3) := by decide +kernel
theorem dX11_goes_98 : decode cX11_goes 98 = .ok (.aload_n 0, 1) := by decide +kernel
theorem dX11_goes_99 : decode cX11_goes 99 = .ok (.getfield 7, 3) := by decide +kernel
theorem dX11_goes_102 : decode cX11_goes 102 = .ok (.iconst 1, 1) := by decide +kernel
theorem dX11_goes_103 : decode cX11_goes 103 = .ok (.iaload, 1) := by decide +kernel
theorem dX11_goes_104 : decode cX11_goes 104 = .ok (.goto 37, 3) := by decide +kernel
theorem dX11_goes_107 : decode cX11_goes 107 = .ok (.iload_n 2, 1) := by decide +kernel
theorem dX11_goes_108 : decode cX11_goes 108 = .ok (.iconst 1, 1) := by decide +kernel
theorem dX11_goes_109 : decode cX11_goes 109 = .ok (.if_icmp .ne 16, 3) := by decide +kernel
theorem dX11_goes_112 : decode cX11_goes 112 = .ok (.aload_n 0, 1) := by decide +kernel
theorem dX11_goes_113 : decode cX11_goes 113 = .ok (.getfield 7, 3) := by decide +kernel
theorem dX11_goes_116 : decode cX11_goes 116 = .ok (.bipush 6, 2) := by decide +kernel
theorem dX11_goes_118 : decode cX11_goes 118 = .ok (.iaload, 1) := by decide +kernel
theorem dX11_goes_119 : decode cX11_goes 119 = .ok (.invokestatic 345, 3) := by decide +kernel
theorem dX11_goes_122 : decode cX11_goes 122 = .ok (.goto 19, 3) := by decide +kernel
theorem dX11_goes_125 : decode cX11_goes 125 = .ok (.iload_n 2, 1) := by decide +kernel
theorem dX11_goes_126 : decode cX11_goes 126 = .ok (.iconst 2, 1) := by decide +kernel
theorem dX11_goes_127 : decode cX11_goes 127 = .ok (.if_icmp .ne 13, 3) := by decide +kernel
theorem dX11_goes_130 : decode cX11_goes 130 = .ok (.aload_n 0, 1) := by decide +kernel
theorem dX11_goes_131 : decode cX11_goes 131 = .ok (.getfield 7, 3) := by decide +kernel
theorem dX11_goes_134 : decode cX11_goes 134 = .ok (.bipush 7, 2) := by decide +kernel
theorem dX11_goes_136 : decode cX11_goes 136 = .ok (.iaload, 1) := by decide +kernel
theorem dX11_goes_137 : decode cX11_goes 137 = .ok (.goto 4, 3) := by decide +kernel
theorem dX11_goes_140 : decode cX11_goes 140 = .ok (.iload_n 3, 1) := by decide +kernel
theorem dX11_goes_141 : decode cX11_goes 141 = .ok (.istore 4, 2) := by decide +kernel
theorem dX11_goes_143 : decode cX11_goes 143 = .ok (.iconst 0, 1) := by decide +kernel
theorem dX11_goes_144 : decode cX11_goes 144 = .ok (.istore 5, 2) := by decide +kernel
theorem dX11_goes_146 : decode cX11_goes 146 = .ok (.iload 5, 2) := by decide +kernel
theorem dX11_goes_148 : decode cX11_goes 148 = .ok (.bipush 80, 2) := by decide +kernel
theorem dX11_goes_150 : decode cX11_goes 150 = .ok (.if_icmp .ge 23, 3) := by decide +kernel
theorem dX11_goes_153 : decode cX11_goes 153 = .ok (.aload_n 0, 1) := by decide +kernel
theorem dX11_goes_154 : decode cX11_goes 154 = .ok (.getfield 7, 3) := by decide +kernel
theorem dX11_goes_157 : decode cX11_goes 157 = .ok (.iload 5, 2) := by decide +kernel
theorem dX11_goes_159 : decode cX11_goes 159 = .ok (.aload_n 0, 1) := by decide +kernel
theorem dX11_goes_160 : decode cX11_goes 160 = .ok (.getfield 19, 3) := by decide +kernel
theorem dX11_goes_163 : decode cX11_goes 163 = .ok (.iload 5, 2) := by decide +kernel
theorem dX11_goes_165 : decode cX11_goes 165 = .ok (.iaload, 1) := by decide +kernel
theorem dX11_goes_166 : decode cX11_goes 166 = .ok (.iastore, 1) := by decide +kernel
theorem dX11_goes_167 : decode cX11_goes 167 = .ok (.iinc 5 1, 3) := by decide +kernel
theorem dX11_goes_170 : decode cX11_goes 170 = .ok (.goto (-24), 3) := by decide +kernel
theorem dX11_goes_173 : decode cX11_goes 173 = .ok (.iload 4, 2) := by decide +kernel
theorem dX11_goes_175 : decode cX11_goes 175 = .ok (.ireturn, 1) := by decide +kernel
theorem dX11_mostGuests_0 : decode cX11_mostGuests 0 = .ok (.iconst 1, 1) := by decide +kernel
theorem dX11_mostGuests_1 : decode cX11_mostGuests 1 = .ok (.istore_n 2, 1) := by decide +kernel
theorem dX11_mostGuests_2 : decode cX11_mostGuests 2 = .ok (.iconst 2, 1) := by decide +kernel
theorem dX11_mostGuests_3 : decode cX11_mostGuests 3 = .ok (.istore_n 3, 1) := by decide +kernel
theorem dX11_mostGuests_4 : decode cX11_mostGuests 4 = .ok (.iload_n 3, 1) := by decide +kernel
theorem dX11_mostGuests_5 : decode cX11_mostGuests 5 = .ok (.bipush 20, 2) := by decide +kernel
theorem dX11_mostGuests_7 : decode cX11_mostGuests 7 = .ok (.if_icmp .gt 26, 3) := by decide +kernel
theorem dX11_mostGuests_10 : decode cX11_mostGuests 10 = .ok (.aload_n 0, 1) := by decide +kernel
theorem dX11_mostGuests_11 : decode cX11_mostGuests 11 = .ok (.iload_n 1, 1) := by decide +kernel
theorem dX11_mostGuests_12 : decode cX11_mostGuests 12 = .ok (.iload_n 3, 1) := by decide +kernel
theorem dX11_mostGuests_13 : decode cX11_mostGuests 13 = .ok (.invokevirtual 313, 3) := by decide +kernel
theorem dX11_mostGuests_16 : decode cX11_mostGuests 16 = .ok (.aload_n 0, 1) := by decide +kernel
theorem dX11_mostGuests_17 : decode cX11_mostGuests 17 = .ok (.iload_n 1, 1) := by decide +kernel
theorem dX11_mostGuests_18 : decode cX11_mostGuests 18 = .ok (.iload_n 2, 1) := by decide +kernel
theorem dX11_mostGuests_19 : decode cX11_mostGuests 19 = .ok (.invokevirtual 313, 3) := by decide +kernel
theorem dX11_mostGuests_22 : decode cX11_mostGuests 22 = .ok (.if_icmp .le 5, 3) := by decide +kernel
theorem dX11_mostGuests_25 : decode cX11_mostGuests 25 = .ok (.iload_n 3, 1) := by decide +kernel
theorem dX11_mostGuests_26 : decode cX11_mostGuests 26 = .ok (.istore_n 2, 1) := by decide +kernel
theorem dX11_mostGuests_27 : decode cX11_mostGuests 27 = .ok (.iinc 3 1, 3) := by decide +kernel
theorem dX11_mostGuests_30 : decode cX11_mostGuests 30 = .ok (.goto (-26), 3) := by decide +kernel
theorem dX11_mostGuests_33 : decode cX11_mostGuests 33 = .ok (.iload_n 2, 1) := by decide +kernel
theorem dX11_mostGuests_34 : decode cX11_mostGuests 34 = .ok (.ireturn, 1) := by decide +kernel
theorem dX11_holds_0 : decode cX11_holds 0 = .ok (.iconst 1, 1) := by decide +kernel
theorem dX11_holds_1 : decode cX11_holds 1 = .ok (.istore_n 3, 1) := by decide +kernel
theorem dX11_holds_2 : decode cX11_holds 2 = .ok (.iload_n 3, 1) := by decide +kernel
theorem dX11_holds_3 : decode cX11_holds 3 = .ok (.bipush 20, 2) := by decide +kernel
theorem dX11_holds_5 : decode cX11_holds 5 = .ok (.if_icmp .gt 30, 3) := by decide +kernel
theorem dX11_holds_8 : decode cX11_holds 8 = .ok (.iload_n 3, 1) := by decide +kernel
theorem dX11_holds_9 : decode cX11_holds 9 = .ok (.iconst 1, 1) := by decide +kernel
theorem dX11_holds_10 : decode cX11_holds 10 = .ok (.if_icmp .ne 7, 3) := by decide +kernel
theorem dX11_holds_13 : decode cX11_holds 13 = .ok (.iload_n 1, 1) := by decide +kernel
theorem dX11_holds_14 : decode cX11_holds 14 = .ok (.goto 9, 3) := by decide +kernel
theorem dX11_holds_17 : decode cX11_holds 17 = .ok (.iload_n 3, 1) := by decide +kernel
theorem dX11_holds_18 : decode cX11_holds 18 = .ok (.iload_n 1, 1) := by decide +kernel
theorem dX11_holds_19 : decode cX11_holds 19 = .ok (.imul, 1) := by decide +kernel
theorem dX11_holds_20 : decode cX11_holds 20 = .ok (.invokestatic 335, 3) := by decide +kernel
theorem dX11_holds_23 : decode cX11_holds 23 = .ok (.iload_n 2, 1) := by decide +kernel
theorem dX11_holds_24 : decode cX11_holds 24 = .ok (.if_icmp .lt 5, 3) := by decide +kernel
theorem dX11_holds_27 : decode cX11_holds 27 = .ok (.iload_n 3, 1) := by decide +kernel
theorem dX11_holds_28 : decode cX11_holds 28 = .ok (.ireturn, 1) := by decide +kernel
theorem dX11_holds_29 : decode cX11_holds 29 = .ok (.iinc 3 1, 3) := by decide +kernel
theorem dX11_holds_32 : decode cX11_holds 32 = .ok (.goto (-30), 3) := by decide +kernel
theorem dX11_holds_35 : decode cX11_holds 35 = .ok (.iconst (-1), 1) := by decide +kernel
theorem dX11_holds_36 : decode cX11_holds 36 = .ok (.ireturn, 1) := by decide +kernel
theorem dX11_most_0 : decode cX11_most 0 = .ok (.aload_n 0, 1) := by decide +kernel
theorem dX11_most_1 : decode cX11_most 1 = .ok (.iload_n 1, 1) := by decide +kernel
theorem dX11_most_2 : decode cX11_most 2 = .ok (.invokevirtual 239, 3) := by decide +kernel
theorem dX11_most_5 : decode cX11_most 5 = .ok (.ifCond .eq 28, 3) := by decide +kernel
theorem dX11_most_8 : decode cX11_most 8 = .ok (.iload_n 3, 1) := by decide +kernel
theorem dX11_most_9 : decode cX11_most 9 = .ok (.iconst 0, 1) := by decide +kernel
theorem dX11_most_10 : decode cX11_most 10 = .ok (.iconst 2, 1) := by decide +kernel
theorem dX11_most_11 : decode cX11_most 11 = .ok (.invokestatic 53, 3) := by decide +kernel
theorem dX11_most_14 : decode cX11_most 14 = .ok (.ifCond .eq 19, 3) := by decide +kernel
theorem dX11_most_17 : decode cX11_most 17 = .ok (.iload_n 3, 1) := by decide +kernel
theorem dX11_most_18 : decode cX11_most 18 = .ok (.iconst 2, 1) := by decide +kernel
theorem dX11_most_19 : decode cX11_most 19 = .ok (.if_icmp .ne 16, 3) := by decide +kernel
theorem dX11_most_22 : decode cX11_most 22 = .ok (.iload_n 2, 1) := by decide +kernel
theorem dX11_most_23 : decode cX11_most 23 = .ok (.iconst 1, 1) := by decide +kernel
theorem dX11_most_24 : decode cX11_most 24 = .ok (.sipush 999, 3) := by decide +kernel
theorem dX11_most_27 : decode cX11_most 27 = .ok (.invokestatic 53, 3) := by decide +kernel
theorem dX11_most_30 : decode cX11_most 30 = .ok (.ifCond .ne 5, 3) := by decide +kernel
theorem dX11_most_33 : decode cX11_most 33 = .ok (.iconst (-1), 1) := by decide +kernel
theorem dX11_most_34 : decode cX11_most 34 = .ok (.ireturn, 1) := by decide +kernel
theorem dX11_most_35 : decode cX11_most 35 = .ok (.aload_n 0, 1) := by decide +kernel
theorem dX11_most_36 : decode cX11_most 36 = .ok (.iload_n 1, 1) := by decide +kernel
theorem dX11_most_37 : decode cX11_most 37 = .ok (.invokevirtual 401, 3) := by decide +kernel
theorem dX11_most_40 : decode cX11_most 40 = .ok (.istore 4, 2) := by decide +kernel
theorem dX11_most_42 : decode cX11_most 42 = .ok (.aload_n 0, 1) := by decide +kernel
theorem dX11_most_43 : decode cX11_most 43 = .ok (.iload_n 1, 1) := by decide +kernel
theorem dX11_most_44 : decode cX11_most 44 = .ok (.iload 4, 2) := by decide +kernel
theorem dX11_most_46 : decode cX11_most 46 = .ok (.invokevirtual 313, 3) := by decide +kernel
theorem dX11_most_49 : decode cX11_most 49 = .ok (.istore 5, 2) := by decide +kernel
theorem dX11_most_51 : decode cX11_most 51 = .ok (.iload_n 3, 1) := by decide +kernel
theorem dX11_most_52 : decode cX11_most 52 = .ok (.ifCond .ne 8, 3) := by decide +kernel
theorem dX11_most_55 : decode cX11_most 55 = .ok (.iload 4, 2) := by decide +kernel
theorem dX11_most_57 : decode cX11_most 57 = .ok (.goto 20, 3) := by decide +kernel
theorem dX11_most_60 : decode cX11_most 60 = .ok (.iload_n 3, 1) := by decide +kernel
theorem dX11_most_61 : decode cX11_most 61 = .ok (.iconst 1, 1) := by decide +kernel
theorem dX11_most_62 : decode cX11_most 62 = .ok (.if_icmp .ne 8, 3) := by decide +kernel
theorem dX11_most_65 : decode cX11_most 65 = .ok (.iload 5, 2) := by decide +kernel
theorem dX11_most_67 : decode cX11_most 67 = .ok (.goto 10, 3) := by decide +kernel
theorem dX11_most_70 : decode cX11_most 70 = .ok (.aload_n 0, 1) := by decide +kernel
theorem dX11_most_71 : decode cX11_most 71 = .ok (.iload 5, 2) := by decide +kernel
theorem dX11_most_73 : decode cX11_most 73 = .ok (.iload_n 2, 1) := by decide +kernel
theorem dX11_most_74 : decode cX11_most 74 = .ok (.invokevirtual 404, 3) := by decide +kernel
theorem dX11_most_77 : decode cX11_most 77 = .ok (.ireturn, 1) := by decide +kernel
theorem dX11_piece_0 : decode cX11_piece 0 = .ok (.iload_n 1, 1) := by decide +kernel
theorem dX11_piece_1 : decode cX11_piece 1 = .ok (.iconst (-1), 1) := by decide +kernel
theorem dX11_piece_2 : decode cX11_piece 2 = .ok (.if_icmp .ne 13, 3) := by decide +kernel
theorem dX11_piece_5 : decode cX11_piece 5 = .ok (.aload_n 0, 1) := by decide +kernel
theorem dX11_piece_6 : decode cX11_piece 6 = .ok (.getfield 7, 3) := by decide +kernel
theorem dX11_piece_9 : decode cX11_piece 9 = .ok (.bipush 87, 2) := by decide +kernel
theorem dX11_piece_11 : decode cX11_piece 11 = .ok (.iconst 0, 1) := by decide +kernel
theorem dX11_piece_12 : decode cX11_piece 12 = .ok (.iastore, 1) := by decide +kernel
theorem dX11_piece_13 : decode cX11_piece 13 = .ok (.iconst 0, 1) := by decide +kernel
theorem dX11_piece_14 : decode cX11_piece 14 = .ok (.ireturn, 1) := by decide +kernel
theorem dX11_piece_15 : decode cX11_piece 15 = .ok (.iload_n 1, 1) := by decide +kernel
theorem dX11_piece_16 : decode cX11_piece 16 = .ok (.iconst 1, 1) := by decide +kernel
theorem dX11_piece_17 : decode cX11_piece 17 = .ok (.bipush 30, 2) := by decide +kernel
theorem dX11_piece_19 : decode cX11_piece 19 = .ok (.invokestatic 53, 3) := by decide +kernel
theorem dX11_piece_22 : decode cX11_piece 22 = .ok (.ifCond .eq 25, 3) := by decide +kernel
theorem dX11_piece_25 : decode cX11_piece 25 = .ok (.iload_n 2, 1) := by decide +kernel
theorem dX11_piece_26 : decode cX11_piece 26 = .ok (.iconst 1, 1) := by decide +kernel
theorem dX11_piece_27 : decode cX11_piece 27 = .ok (.bipush 99, 2) := by decide +kernel
theorem dX11_piece_29 : decode cX11_piece 29 = .ok (.invokestatic 53, 3) := by decide +kernel
theorem dX11_piece_32 : decode cX11_piece 32 = .ok (.ifCond .eq 15, 3) := by decide +kernel
theorem dX11_piece_35 : decode cX11_piece 35 = .ok (.aload_n 0, 1) := by decide +kernel
theorem dX11_piece_36 : decode cX11_piece 36 = .ok (.getfield 7, 3) := by decide +kernel
theorem dX11_piece_39 : decode cX11_piece 39 = .ok (.bipush 87, 2) := by decide +kernel
theorem dX11_piece_41 : decode cX11_piece 41 = .ok (.iaload, 1) := by decide +kernel
theorem dX11_piece_42 : decode cX11_piece 42 = .ok (.bipush 6, 2) := by decide +kernel
theorem dX11_piece_44 : decode cX11_piece 44 = .ok (.if_icmp .ne 5, 3) := by decide +kernel
theorem dX11_piece_47 : decode cX11_piece 47 = .ok (.iconst (-1), 1) := by decide +kernel
theorem dX11_piece_48 : decode cX11_piece 48 = .ok (.ireturn, 1) := by decide +kernel
theorem dX11_piece_49 : decode cX11_piece 49 = .ok (.aload_n 0, 1) := by decide +kernel
theorem dX11_piece_50 : decode cX11_piece 50 = .ok (.getfield 7, 3) := by decide +kernel
theorem dX11_piece_53 : decode cX11_piece 53 = .ok (.sipush 307, 3) := by decide +kernel
theorem dX11_piece_56 : decode cX11_piece 56 = .ok (.iconst 2, 1) := by decide +kernel
theorem dX11_piece_57 : decode cX11_piece 57 = .ok (.aload_n 0, 1) := by decide +kernel
theorem dX11_piece_58 : decode cX11_piece 58 = .ok (.getfield 7, 3) := by decide +kernel
theorem dX11_piece_61 : decode cX11_piece 61 = .ok (.bipush 87, 2) := by decide +kernel
theorem dX11_piece_63 : decode cX11_piece 63 = .ok (.iaload, 1) := by decide +kernel
theorem dX11_piece_64 : decode cX11_piece 64 = .ok (.imul, 1) := by decide +kernel
theorem dX11_piece_65 : decode cX11_piece 65 = .ok (.iadd, 1) := by decide +kernel
theorem dX11_piece_66 : decode cX11_piece 66 = .ok (.iload_n 1, 1) := by decide +kernel
theorem dX11_piece_67 : decode cX11_piece 67 = .ok (.iastore, 1) := by decide +kernel
theorem dX11_piece_68 : decode cX11_piece 68 = .ok (.aload_n 0, 1) := by decide +kernel
theorem dX11_piece_69 : decode cX11_piece 69 = .ok (.getfield 7, 3) := by decide +kernel
theorem dX11_piece_72 : decode cX11_piece 72 = .ok (.sipush 307, 3) := by decide +kernel
theorem dX11_piece_75 : decode cX11_piece 75 = .ok (.iconst 2, 1) := by decide +kernel
theorem dX11_piece_76 : decode cX11_piece 76 = .ok (.aload_n 0, 1) := by decide +kernel
theorem dX11_piece_77 : decode cX11_piece 77 = .ok (.getfield 7, 3) := by decide +kernel
theorem dX11_piece_80 : decode cX11_piece 80 = .ok (.bipush 87, 2) := by decide +kernel
theorem dX11_piece_82 : decode cX11_piece 82 = .ok (.iaload, 1) := by decide +kernel
theorem dX11_piece_83 : decode cX11_piece 83 = .ok (.imul, 1) := by decide +kernel
theorem dX11_piece_84 : decode cX11_piece 84 = .ok (.iadd, 1) := by decide +kernel
theorem dX11_piece_85 : decode cX11_piece 85 = .ok (.iconst 1, 1) := by decide +kernel
theorem dX11_piece_86 : decode cX11_piece 86 = .ok (.iadd, 1) := by decide +kernel
theorem dX11_piece_87 : decode cX11_piece 87 = .ok (.iload_n 2, 1) := by decide +kernel
theorem dX11_piece_88 : decode cX11_piece 88 = .ok (.iastore, 1) := by decide +kernel
theorem dX11_piece_89 : decode cX11_piece 89 = .ok (.aload_n 0, 1) := by decide +kernel
theorem dX11_piece_90 : decode cX11_piece 90 = .ok (.getfield 7, 3) := by decide +kernel
theorem dX11_piece_93 : decode cX11_piece 93 = .ok (.bipush 87, 2) := by decide +kernel
theorem dX11_piece_95 : decode cX11_piece 95 = .ok (.dup2, 1) := by decide +kernel
theorem dX11_piece_96 : decode cX11_piece 96 = .ok (.iaload, 1) := by decide +kernel
theorem dX11_piece_97 : decode cX11_piece 97 = .ok (.iconst 1, 1) := by decide +kernel
theorem dX11_piece_98 : decode cX11_piece 98 = .ok (.iadd, 1) := by decide +kernel
theorem dX11_piece_99 : decode cX11_piece 99 = .ok (.iastore, 1) := by decide +kernel
theorem dX11_piece_100 : decode cX11_piece 100 = .ok (.aload_n 0, 1) := by decide +kernel
theorem dX11_piece_101 : decode cX11_piece 101 = .ok (.getfield 7, 3) := by decide +kernel
theorem dX11_piece_104 : decode cX11_piece 104 = .ok (.bipush 87, 2) := by decide +kernel
theorem dX11_piece_106 : decode cX11_piece 106 = .ok (.iaload, 1) := by decide +kernel
theorem dX11_piece_107 : decode cX11_piece 107 = .ok (.ireturn, 1) := by decide +kernel
theorem dX11_laysCuts_0 : decode cX11_laysCuts 0 = .ok (.aload_n 0, 1) := by decide +kernel
theorem dX11_laysCuts_1 : decode cX11_laysCuts 1 = .ok (.getfield 7, 3) := by decide +kernel
theorem dX11_laysCuts_4 : decode cX11_laysCuts 4 = .ok (.bipush 87, 2) := by decide +kernel
theorem dX11_laysCuts_6 : decode cX11_laysCuts 6 = .ok (.iaload, 1) := by decide +kernel
theorem dX11_laysCuts_7 : decode cX11_laysCuts 7 = .ok (.istore_n 2, 1) := by decide +kernel
theorem dX11_laysCuts_8 : decode cX11_laysCuts 8 = .ok (.iload_n 2, 1) := by decide +kernel
theorem dX11_laysCuts_9 : decode cX11_laysCuts 9 = .ok (.ifCond .lt 138, 3) := by decide +kernel
theorem dX11_laysCuts_12 : decode cX11_laysCuts 12 = .ok (.iconst 0, 1) := by decide +kernel
theorem dX11_laysCuts_13 : decode cX11_laysCuts 13 = .ok (.istore_n 3, 1) := by decide +kernel
theorem dX11_laysCuts_14 : decode cX11_laysCuts 14 = .ok (.iload_n 3, 1) := by decide +kernel
theorem dX11_laysCuts_15 : decode cX11_laysCuts 15 = .ok (.iload_n 1, 1) := by decide +kernel
theorem dX11_laysCuts_16 : decode cX11_laysCuts 16 = .ok (.if_icmp .gt 125, 3) := by decide +kernel
theorem dX11_laysCuts_19 : decode cX11_laysCuts 19 = .ok (.iload_n 2, 1) := by decide +kernel
theorem dX11_laysCuts_20 : decode cX11_laysCuts 20 = .ok (.aload_n 0, 1) := by decide +kernel
theorem dX11_laysCuts_21 : decode cX11_laysCuts 21 = .ok (.getfield 7, 3) := by decide +kernel
theorem dX11_laysCuts_24 : decode cX11_laysCuts 24 = .ok (.bipush 87, 2) := by decide +kernel
theorem dX11_laysCuts_26 : decode cX11_laysCuts 26 = .ok (.iaload, 1) := by decide +kernel
theorem dX11_laysCuts_27 : decode cX11_laysCuts 27 = .ok (.if_icmp .ne 7, 3) := by decide +kernel
theorem dX11_laysCuts_30 : decode cX11_laysCuts 30 = .ok (.iconst 0, 1) := by decide +kernel
theorem dX11_laysCuts_31 : decode cX11_laysCuts 31 = .ok (.goto 16, 3) := by decide +kernel
theorem dX11_laysCuts_34 : decode cX11_laysCuts 34 = .ok (.aload_n 0, 1) := by decide +kernel
theorem dX11_laysCuts_35 : decode cX11_laysCuts 35 = .ok (.getfield 44, 3) := by decide +kernel
theorem dX11_laysCuts_38 : decode cX11_laysCuts 38 = .ok (.bipush 100, 2) := by decide +kernel
theorem dX11_laysCuts_40 : decode cX11_laysCuts 40 = .ok (.iload_n 2, 1) := by decide +kernel
theorem dX11_laysCuts_41 : decode cX11_laysCuts 41 = .ok (.iconst 1, 1) := by decide +kernel
theorem dX11_laysCuts_42 : decode cX11_laysCuts 42 = .ok (.iadd, 1) := by decide +kernel
theorem dX11_laysCuts_43 : decode cX11_laysCuts 43 = .ok (.imul, 1) := by decide +kernel
theorem dX11_laysCuts_44 : decode cX11_laysCuts 44 = .ok (.iload_n 3, 1) := by decide +kernel
theorem dX11_laysCuts_45 : decode cX11_laysCuts 45 = .ok (.iadd, 1) := by decide +kernel
theorem dX11_laysCuts_46 : decode cX11_laysCuts 46 = .ok (.iaload, 1) := by decide +kernel
theorem dX11_laysCuts_47 : decode cX11_laysCuts 47 = .ok (.istore 4, 2) := by decide +kernel
theorem dX11_laysCuts_49 : decode cX11_laysCuts 49 = .ok (.iload_n 2, 1) := by decide +kernel
theorem dX11_laysCuts_50 : decode cX11_laysCuts 50 = .ok (.aload_n 0, 1) := by decide +kernel
theorem dX11_laysCuts_51 : decode cX11_laysCuts 51 = .ok (.getfield 7, 3) := by decide +kernel
theorem dX11_laysCuts_54 : decode cX11_laysCuts 54 = .ok (.bipush 87, 2) := by decide +kernel
theorem dX11_laysCuts_56 : decode cX11_laysCuts 56 = .ok (.iaload, 1) := by decide +kernel
theorem dX11_laysCuts_57 : decode cX11_laysCuts 57 = .ok (.if_icmp .ne 9, 3) := by decide +kernel
theorem dX11_laysCuts_60 : decode cX11_laysCuts 60 = .ok (.ldc_w 407, 3) := by decide +kernel
theorem dX11_laysCuts_63 : decode cX11_laysCuts 63 = .ok (.goto 15, 3) := by decide +kernel
theorem dX11_laysCuts_66 : decode cX11_laysCuts 66 = .ok (.aload_n 0, 1) := by decide +kernel
theorem dX11_laysCuts_67 : decode cX11_laysCuts 67 = .ok (.getfield 7, 3) := by decide +kernel
theorem dX11_laysCuts_70 : decode cX11_laysCuts 70 = .ok (.sipush 307, 3) := by decide +kernel
theorem dX11_laysCuts_73 : decode cX11_laysCuts 73 = .ok (.iconst 2, 1) := by decide +kernel
theorem dX11_laysCuts_74 : decode cX11_laysCuts 74 = .ok (.iload_n 2, 1) := by decide +kernel
theorem dX11_laysCuts_75 : decode cX11_laysCuts 75 = .ok (.imul, 1) := by decide +kernel
theorem dX11_laysCuts_76 : decode cX11_laysCuts 76 = .ok (.iadd, 1) := by decide +kernel
theorem dX11_laysCuts_77 : decode cX11_laysCuts 77 = .ok (.iaload, 1) := by decide +kernel
theorem dX11_laysCuts_78 : decode cX11_laysCuts 78 = .ok (.istore 5, 2) := by decide +kernel
theorem dX11_laysCuts_80 : decode cX11_laysCuts 80 = .ok (.iload 5, 2) := by decide +kernel
theorem dX11_laysCuts_82 : decode cX11_laysCuts 82 = .ok (.iload_n 3, 1) := by decide +kernel
theorem dX11_laysCuts_83 : decode cX11_laysCuts 83 = .ok (.if_icmp .gt 39, 3) := by decide +kernel
theorem dX11_laysCuts_86 : decode cX11_laysCuts 86 = .ok (.iload 4, 2) := by decide +kernel
theorem dX11_laysCuts_88 : decode cX11_laysCuts 88 = .ok (.aload_n 0, 1) := by decide +kernel
theorem dX11_laysCuts_89 : decode cX11_laysCuts 89 = .ok (.getfield 7, 3) := by decide +kernel
theorem dX11_laysCuts_92 : decode cX11_laysCuts 92 = .ok (.sipush 307, 3) := by decide +kernel
theorem dX11_laysCuts_95 : decode cX11_laysCuts 95 = .ok (.iconst 2, 1) := by decide +kernel
theorem dX11_laysCuts_96 : decode cX11_laysCuts 96 = .ok (.iload_n 2, 1) := by decide +kernel
theorem dX11_laysCuts_97 : decode cX11_laysCuts 97 = .ok (.imul, 1) := by decide +kernel
theorem dX11_laysCuts_98 : decode cX11_laysCuts 98 = .ok (.iadd, 1) := by decide +kernel
theorem dX11_laysCuts_99 : decode cX11_laysCuts 99 = .ok (.iconst 1, 1) := by decide +kernel
theorem dX11_laysCuts_100 : decode cX11_laysCuts 100 = .ok (.iadd, 1) := by decide +kernel
theorem dX11_laysCuts_101 : decode cX11_laysCuts 101 = .ok (.iaload, 1) := by decide +kernel
theorem dX11_laysCuts_102 : decode cX11_laysCuts 102 = .ok (.aload_n 0, 1) := by decide +kernel
theorem dX11_laysCuts_103 : decode cX11_laysCuts 103 = .ok (.getfield 44, 3) := by decide +kernel
theorem dX11_laysCuts_106 : decode cX11_laysCuts 106 = .ok (.bipush 100, 2) := by decide +kernel
theorem dX11_laysCuts_108 : decode cX11_laysCuts 108 = .ok (.iload_n 2, 1) := by decide +kernel
theorem dX11_laysCuts_109 : decode cX11_laysCuts 109 = .ok (.imul, 1) := by decide +kernel
theorem dX11_laysCuts_110 : decode cX11_laysCuts 110 = .ok (.iload_n 3, 1) := by decide +kernel
theorem dX11_laysCuts_111 : decode cX11_laysCuts 111 = .ok (.iadd, 1) := by decide +kernel
theorem dX11_laysCuts_112 : decode cX11_laysCuts 112 = .ok (.iload 5, 2) := by decide +kernel
theorem dX11_laysCuts_114 : decode cX11_laysCuts 114 = .ok (.isub, 1) := by decide +kernel
theorem dX11_laysCuts_115 : decode cX11_laysCuts 115 = .ok (.iaload, 1) := by decide +kernel
theorem dX11_laysCuts_116 : decode cX11_laysCuts 116 = .ok (.iadd, 1) := by decide +kernel
theorem dX11_laysCuts_117 : decode cX11_laysCuts 117 = .ok (.invokestatic 291, 3) := by decide +kernel
theorem dX11_laysCuts_120 : decode cX11_laysCuts 120 = .ok (.istore 4, 2) := by decide +kernel
theorem dX11_laysCuts_122 : decode cX11_laysCuts 122 = .ok (.aload_n 0, 1) := by decide +kernel
theorem dX11_laysCuts_123 : decode cX11_laysCuts 123 = .ok (.getfield 44, 3) := by decide +kernel
theorem dX11_laysCuts_126 : decode cX11_laysCuts 126 = .ok (.bipush 100, 2) := by decide +kernel
theorem dX11_laysCuts_128 : decode cX11_laysCuts 128 = .ok (.iload_n 2, 1) := by decide +kernel
theorem dX11_laysCuts_129 : decode cX11_laysCuts 129 = .ok (.imul, 1) := by decide +kernel
theorem dX11_laysCuts_130 : decode cX11_laysCuts 130 = .ok (.iload_n 3, 1) := by decide +kernel
theorem dX11_laysCuts_131 : decode cX11_laysCuts 131 = .ok (.iadd, 1) := by decide +kernel
theorem dX11_laysCuts_132 : decode cX11_laysCuts 132 = .ok (.iload 4, 2) := by decide +kernel
theorem dX11_laysCuts_134 : decode cX11_laysCuts 134 = .ok (.iastore, 1) := by decide +kernel
theorem dX11_laysCuts_135 : decode cX11_laysCuts 135 = .ok (.iinc 3 1, 3) := by decide +kernel
theorem dX11_laysCuts_138 : decode cX11_laysCuts 138 = .ok (.goto (-124), 3) := by decide +kernel
theorem dX11_laysCuts_141 : decode cX11_laysCuts 141 = .ok (.iinc 2 (-1), 3) := by decide +kernel
theorem dX11_laysCuts_144 : decode cX11_laysCuts 144 = .ok (.goto (-136), 3) := by decide +kernel
theorem dX11_laysCuts_147 : decode cX11_laysCuts 147 = .ok (.return_, 1) := by decide +kernel
theorem dX11_cuts_0 : decode cX11_cuts 0 = .ok (.iload_n 1, 1) := by decide +kernel
theorem dX11_cuts_1 : decode cX11_cuts 1 = .ok (.iconst 0, 1) := by decide +kernel
theorem dX11_cuts_2 : decode cX11_cuts 2 = .ok (.bipush 99, 2) := by decide +kernel
theorem dX11_cuts_4 : decode cX11_cuts 4 = .ok (.invokestatic 53, 3) := by decide +kernel
theorem dX11_cuts_7 : decode cX11_cuts 7 = .ok (.ifCond .eq 26, 3) := by decide +kernel
theorem dX11_cuts_10 : decode cX11_cuts 10 = .ok (.iload_n 2, 1) := by decide +kernel
theorem dX11_cuts_11 : decode cX11_cuts 11 = .ok (.ifCond .eq 24, 3) := by decide +kernel
theorem dX11_cuts_14 : decode cX11_cuts 14 = .ok (.iload_n 2, 1) := by decide +kernel
theorem dX11_cuts_15 : decode cX11_cuts 15 = .ok (.bipush 10, 2) := by decide +kernel
theorem dX11_cuts_17 : decode cX11_cuts 17 = .ok (.bipush 9, 2) := by decide +kernel
theorem dX11_cuts_19 : decode cX11_cuts 19 = .ok (.aload_n 0, 1) := by decide +kernel
theorem dX11_cuts_20 : decode cX11_cuts 20 = .ok (.getfield 7, 3) := by decide +kernel
theorem dX11_cuts_23 : decode cX11_cuts 23 = .ok (.bipush 87, 2) := by decide +kernel
theorem dX11_cuts_25 : decode cX11_cuts 25 = .ok (.iaload, 1) := by decide +kernel
theorem dX11_cuts_26 : decode cX11_cuts 26 = .ok (.iadd, 1) := by decide +kernel
theorem dX11_cuts_27 : decode cX11_cuts 27 = .ok (.invokestatic 53, 3) := by decide +kernel
theorem dX11_cuts_30 : decode cX11_cuts 30 = .ok (.ifCond .ne 5, 3) := by decide +kernel
theorem dX11_cuts_33 : decode cX11_cuts 33 = .ok (.iconst (-1), 1) := by decide +kernel
theorem dX11_cuts_34 : decode cX11_cuts 34 = .ok (.ireturn, 1) := by decide +kernel
theorem dX11_cuts_35 : decode cX11_cuts 35 = .ok (.aload_n 0, 1) := by decide +kernel
theorem dX11_cuts_36 : decode cX11_cuts 36 = .ok (.iload_n 1, 1) := by decide +kernel
theorem dX11_cuts_37 : decode cX11_cuts 37 = .ok (.invokevirtual 408, 3) := by decide +kernel
theorem dX11_cuts_40 : decode cX11_cuts 40 = .ok (.iload_n 2, 1) := by decide +kernel
theorem dX11_cuts_41 : decode cX11_cuts 41 = .ok (.ifCond .ne 10, 3) := by decide +kernel
theorem dX11_cuts_44 : decode cX11_cuts 44 = .ok (.aload_n 0, 1) := by decide +kernel
theorem dX11_cuts_45 : decode cX11_cuts 45 = .ok (.getfield 44, 3) := by decide +kernel
theorem dX11_cuts_48 : decode cX11_cuts 48 = .ok (.iload_n 1, 1) := by decide +kernel
theorem dX11_cuts_49 : decode cX11_cuts 49 = .ok (.iaload, 1) := by decide +kernel
theorem dX11_cuts_50 : decode cX11_cuts 50 = .ok (.ireturn, 1) := by decide +kernel
theorem dX11_cuts_51 : decode cX11_cuts 51 = .ok (.iload_n 1, 1) := by decide +kernel
theorem dX11_cuts_52 : decode cX11_cuts 52 = .ok (.istore_n 3, 1) := by decide +kernel
theorem dX11_cuts_53 : decode cX11_cuts 53 = .ok (.iconst 0, 1) := by decide +kernel
theorem dX11_cuts_54 : decode cX11_cuts 54 = .ok (.istore 4, 2) := by decide +kernel
theorem dX11_cuts_56 : decode cX11_cuts 56 = .ok (.iconst 0, 1) := by decide +kernel
theorem dX11_cuts_57 : decode cX11_cuts 57 = .ok (.istore 5, 2) := by decide +kernel
theorem dX11_cuts_59 : decode cX11_cuts 59 = .ok (.iload 5, 2) := by decide +kernel
theorem dX11_cuts_61 : decode cX11_cuts 61 = .ok (.iload_n 2, 1) := by decide +kernel
theorem dX11_cuts_62 : decode cX11_cuts 62 = .ok (.bipush 10, 2) := by decide +kernel
theorem dX11_cuts_64 : decode cX11_cuts 64 = .ok (.isub, 1) := by decide +kernel
theorem dX11_cuts_65 : decode cX11_cuts 65 = .ok (.if_icmp .gt 90, 3) := by decide +kernel
theorem dX11_cuts_68 : decode cX11_cuts 68 = .ok (.iconst 0, 1) := by decide +kernel
theorem dX11_cuts_69 : decode cX11_cuts 69 = .ok (.istore 4, 2) := by decide +kernel
theorem dX11_cuts_71 : decode cX11_cuts 71 = .ok (.aload_n 0, 1) := by decide +kernel
theorem dX11_cuts_72 : decode cX11_cuts 72 = .ok (.getfield 7, 3) := by decide +kernel
theorem dX11_cuts_75 : decode cX11_cuts 75 = .ok (.sipush 307, 3) := by decide +kernel
theorem dX11_cuts_78 : decode cX11_cuts 78 = .ok (.iconst 2, 1) := by decide +kernel
theorem dX11_cuts_79 : decode cX11_cuts 79 = .ok (.iload 5, 2) := by decide +kernel
theorem dX11_cuts_81 : decode cX11_cuts 81 = .ok (.imul, 1) := by decide +kernel
theorem dX11_cuts_82 : decode cX11_cuts 82 = .ok (.iadd, 1) := by decide +kernel
theorem dX11_cuts_83 : decode cX11_cuts 83 = .ok (.iaload, 1) := by decide +kernel
theorem dX11_cuts_84 : decode cX11_cuts 84 = .ok (.istore 6, 2) := by decide +kernel
theorem dX11_cuts_86 : decode cX11_cuts 86 = .ok (.iload 6, 2) := by decide +kernel
theorem dX11_cuts_88 : decode cX11_cuts 88 = .ok (.iload_n 3, 1) := by decide +kernel
theorem dX11_cuts_89 : decode cX11_cuts 89 = .ok (.if_icmp .gt 60, 3) := by decide +kernel
theorem dX11_cuts_92 : decode cX11_cuts 92 = .ok (.aload_n 0, 1) := by decide +kernel
theorem dX11_cuts_93 : decode cX11_cuts 93 = .ok (.getfield 7, 3) := by decide +kernel
theorem dX11_cuts_96 : decode cX11_cuts 96 = .ok (.sipush 307, 3) := by decide +kernel
theorem dX11_cuts_99 : decode cX11_cuts 99 = .ok (.iconst 2, 1) := by decide +kernel
theorem dX11_cuts_100 : decode cX11_cuts 100 = .ok (.iload 5, 2) := by decide +kernel
theorem dX11_cuts_102 : decode cX11_cuts 102 = .ok (.imul, 1) := by decide +kernel
theorem dX11_cuts_103 : decode cX11_cuts 103 = .ok (.iadd, 1) := by decide +kernel
theorem dX11_cuts_104 : decode cX11_cuts 104 = .ok (.iconst 1, 1) := by decide +kernel
theorem dX11_cuts_105 : decode cX11_cuts 105 = .ok (.iadd, 1) := by decide +kernel
theorem dX11_cuts_106 : decode cX11_cuts 106 = .ok (.iaload, 1) := by decide +kernel
theorem dX11_cuts_107 : decode cX11_cuts 107 = .ok (.aload_n 0, 1) := by decide +kernel
theorem dX11_cuts_108 : decode cX11_cuts 108 = .ok (.getfield 44, 3) := by decide +kernel
theorem dX11_cuts_111 : decode cX11_cuts 111 = .ok (.bipush 100, 2) := by decide +kernel
theorem dX11_cuts_113 : decode cX11_cuts 113 = .ok (.iload 5, 2) := by decide +kernel
theorem dX11_cuts_115 : decode cX11_cuts 115 = .ok (.imul, 1) := by decide +kernel
theorem dX11_cuts_116 : decode cX11_cuts 116 = .ok (.iload_n 3, 1) := by decide +kernel
theorem dX11_cuts_117 : decode cX11_cuts 117 = .ok (.iadd, 1) := by decide +kernel
theorem dX11_cuts_118 : decode cX11_cuts 118 = .ok (.iload 6, 2) := by decide +kernel
theorem dX11_cuts_120 : decode cX11_cuts 120 = .ok (.isub, 1) := by decide +kernel
theorem dX11_cuts_121 : decode cX11_cuts 121 = .ok (.iaload, 1) := by decide +kernel
theorem dX11_cuts_122 : decode cX11_cuts 122 = .ok (.iadd, 1) := by decide +kernel
theorem dX11_cuts_123 : decode cX11_cuts 123 = .ok (.aload_n 0, 1) := by decide +kernel
theorem dX11_cuts_124 : decode cX11_cuts 124 = .ok (.getfield 44, 3) := by decide +kernel
theorem dX11_cuts_127 : decode cX11_cuts 127 = .ok (.bipush 100, 2) := by decide +kernel
theorem dX11_cuts_129 : decode cX11_cuts 129 = .ok (.iload 5, 2) := by decide +kernel
theorem dX11_cuts_131 : decode cX11_cuts 131 = .ok (.imul, 1) := by decide +kernel
theorem dX11_cuts_132 : decode cX11_cuts 132 = .ok (.iload_n 3, 1) := by decide +kernel
theorem dX11_cuts_133 : decode cX11_cuts 133 = .ok (.iadd, 1) := by decide +kernel
theorem dX11_cuts_134 : decode cX11_cuts 134 = .ok (.iaload, 1) := by decide +kernel
theorem dX11_cuts_135 : decode cX11_cuts 135 = .ok (.if_icmp .ne 14, 3) := by decide +kernel
theorem dX11_cuts_138 : decode cX11_cuts 138 = .ok (.iload_n 3, 1) := by decide +kernel
theorem dX11_cuts_139 : decode cX11_cuts 139 = .ok (.iload 6, 2) := by decide +kernel
theorem dX11_cuts_141 : decode cX11_cuts 141 = .ok (.isub, 1) := by decide +kernel
theorem dX11_cuts_142 : decode cX11_cuts 142 = .ok (.istore_n 3, 1) := by decide +kernel
theorem dX11_cuts_143 : decode cX11_cuts 143 = .ok (.iinc 4 1, 3) := by decide +kernel
theorem dX11_cuts_146 : decode cX11_cuts 146 = .ok (.goto (-60), 3) := by decide +kernel
theorem dX11_cuts_149 : decode cX11_cuts 149 = .ok (.iinc 5 1, 3) := by decide +kernel
theorem dX11_cuts_152 : decode cX11_cuts 152 = .ok (.goto (-93), 3) := by decide +kernel
theorem dX11_cuts_155 : decode cX11_cuts 155 = .ok (.iload 4, 2) := by decide +kernel
theorem dX11_cuts_157 : decode cX11_cuts 157 = .ok (.ireturn, 1) := by decide +kernel
theorem dX11_stalls_0 : decode cX11_stalls 0 = .ok (.iload_n 1, 1) := by decide +kernel
theorem dX11_stalls_1 : decode cX11_stalls 1 = .ok (.iconst 1, 1) := by decide +kernel
theorem dX11_stalls_2 : decode cX11_stalls 2 = .ok (.bipush 99, 2) := by decide +kernel
theorem dX11_stalls_4 : decode cX11_stalls 4 = .ok (.invokestatic 53, 3) := by decide +kernel
theorem dX11_stalls_7 : decode cX11_stalls 7 = .ok (.ifCond .eq 15, 3) := by decide +kernel
theorem dX11_stalls_10 : decode cX11_stalls 10 = .ok (.aload_n 0, 1) := by decide +kernel
theorem dX11_stalls_11 : decode cX11_stalls 11 = .ok (.getfield 7, 3) := by decide +kernel
theorem dX11_stalls_14 : decode cX11_stalls 14 = .ok (.bipush 7, 2) := by decide +kernel
theorem dX11_stalls_16 : decode cX11_stalls 16 = .ok (.iaload, 1) := by decide +kernel
theorem dX11_stalls_17 : decode cX11_stalls 17 = .ok (.bipush 10, 2) := by decide +kernel
theorem dX11_stalls_19 : decode cX11_stalls 19 = .ok (.if_icmp .le 5, 3) := by decide +kernel
theorem dX11_stalls_22 : decode cX11_stalls 22 = .ok (.iconst (-1), 1) := by decide +kernel
theorem dX11_stalls_23 : decode cX11_stalls 23 = .ok (.ireturn, 1) := by decide +kernel
theorem dX11_stalls_24 : decode cX11_stalls 24 = .ok (.iconst 1, 1) := by decide +kernel
theorem dX11_stalls_25 : decode cX11_stalls 25 = .ok (.aload_n 0, 1) := by decide +kernel
theorem dX11_stalls_26 : decode cX11_stalls 26 = .ok (.getfield 7, 3) := by decide +kernel
theorem dX11_stalls_29 : decode cX11_stalls 29 = .ok (.bipush 7, 2) := by decide +kernel
theorem dX11_stalls_31 : decode cX11_stalls 31 = .ok (.iaload, 1) := by decide +kernel
theorem dX11_stalls_32 : decode cX11_stalls 32 = .ok (.ishl, 1) := by decide +kernel
theorem dX11_stalls_33 : decode cX11_stalls 33 = .ok (.iconst 1, 1) := by decide +kernel
theorem dX11_stalls_34 : decode cX11_stalls 34 = .ok (.isub, 1) := by decide +kernel
theorem dX11_stalls_35 : decode cX11_stalls 35 = .ok (.istore_n 2, 1) := by decide +kernel
theorem dX11_stalls_36 : decode cX11_stalls 36 = .ok (.aload_n 0, 1) := by decide +kernel
theorem dX11_stalls_37 : decode cX11_stalls 37 = .ok (.getfield 47, 3) := by decide +kernel
theorem dX11_stalls_40 : decode cX11_stalls 40 = .ok (.iconst 0, 1) := by decide +kernel
theorem dX11_stalls_41 : decode cX11_stalls 41 = .ok (.iconst 0, 1) := by decide +kernel
theorem dX11_stalls_42 : decode cX11_stalls 42 = .ok (.iastore, 1) := by decide +kernel
theorem dX11_stalls_43 : decode cX11_stalls 43 = .ok (.iconst 1, 1) := by decide +kernel
theorem dX11_stalls_44 : decode cX11_stalls 44 = .ok (.istore_n 3, 1) := by decide +kernel
theorem dX11_stalls_45 : decode cX11_stalls 45 = .ok (.iload_n 3, 1) := by decide +kernel
theorem dX11_stalls_46 : decode cX11_stalls 46 = .ok (.iload_n 2, 1) := by decide +kernel
theorem dX11_stalls_47 : decode cX11_stalls 47 = .ok (.if_icmp .gt 75, 3) := by decide +kernel
theorem dX11_stalls_50 : decode cX11_stalls 50 = .ok (.aload_n 0, 1) := by decide +kernel
theorem dX11_stalls_51 : decode cX11_stalls 51 = .ok (.getfield 47, 3) := by decide +kernel
theorem dX11_stalls_54 : decode cX11_stalls 54 = .ok (.iload_n 3, 1) := by decide +kernel
theorem dX11_stalls_55 : decode cX11_stalls 55 = .ok (.ldc_w 407, 3) := by decide +kernel
theorem dX11_stalls_58 : decode cX11_stalls 58 = .ok (.iastore, 1) := by decide +kernel
theorem dX11_stalls_59 : decode cX11_stalls 59 = .ok (.iload_n 3, 1) := by decide +kernel
theorem dX11_stalls_60 : decode cX11_stalls 60 = .ok (.istore 4, 2) := by decide +kernel
theorem dX11_stalls_62 : decode cX11_stalls 62 = .ok (.iload 4, 2) := by decide +kernel
theorem dX11_stalls_64 : decode cX11_stalls 64 = .ok (.ifCond .le 52, 3) := by decide +kernel
theorem dX11_stalls_67 : decode cX11_stalls 67 = .ok (.aload_n 0, 1) := by decide +kernel
theorem dX11_stalls_68 : decode cX11_stalls 68 = .ok (.iload 4, 2) := by decide +kernel
theorem dX11_stalls_70 : decode cX11_stalls 70 = .ok (.invokevirtual 348, 3) := by decide +kernel
theorem dX11_stalls_73 : decode cX11_stalls 73 = .ok (.iload_n 1, 1) := by decide +kernel
theorem dX11_stalls_74 : decode cX11_stalls 74 = .ok (.if_icmp .gt 31, 3) := by decide +kernel
theorem dX11_stalls_77 : decode cX11_stalls 77 = .ok (.aload_n 0, 1) := by decide +kernel
theorem dX11_stalls_78 : decode cX11_stalls 78 = .ok (.getfield 47, 3) := by decide +kernel
theorem dX11_stalls_81 : decode cX11_stalls 81 = .ok (.iload_n 3, 1) := by decide +kernel
theorem dX11_stalls_82 : decode cX11_stalls 82 = .ok (.aload_n 0, 1) := by decide +kernel
theorem dX11_stalls_83 : decode cX11_stalls 83 = .ok (.getfield 47, 3) := by decide +kernel
theorem dX11_stalls_86 : decode cX11_stalls 86 = .ok (.iload_n 3, 1) := by decide +kernel
theorem dX11_stalls_87 : decode cX11_stalls 87 = .ok (.iaload, 1) := by decide +kernel
theorem dX11_stalls_88 : decode cX11_stalls 88 = .ok (.iconst 1, 1) := by decide +kernel
theorem dX11_stalls_89 : decode cX11_stalls 89 = .ok (.aload_n 0, 1) := by decide +kernel
theorem dX11_stalls_90 : decode cX11_stalls 90 = .ok (.getfield 47, 3) := by decide +kernel
theorem dX11_stalls_93 : decode cX11_stalls 93 = .ok (.iload_n 3, 1) := by decide +kernel
theorem dX11_stalls_94 : decode cX11_stalls 94 = .ok (.iload 4, 2) := by decide +kernel
theorem dX11_stalls_96 : decode cX11_stalls 96 = .ok (.iconst (-1), 1) := by decide +kernel
theorem dX11_stalls_97 : decode cX11_stalls 97 = .ok (.ixor, 1) := by decide +kernel
theorem dX11_stalls_98 : decode cX11_stalls 98 = .ok (.iand, 1) := by decide +kernel
theorem dX11_stalls_99 : decode cX11_stalls 99 = .ok (.iaload, 1) := by decide +kernel
theorem dX11_stalls_100 : decode cX11_stalls 100 = .ok (.iadd, 1) := by decide +kernel
theorem dX11_stalls_101 : decode cX11_stalls 101 = .ok (.invokestatic 288, 3) := by decide +kernel
theorem dX11_stalls_104 : decode cX11_stalls 104 = .ok (.iastore, 1) := by decide +kernel
theorem dX11_stalls_105 : decode cX11_stalls 105 = .ok (.iload 4, 2) := by decide +kernel
theorem dX11_stalls_107 : decode cX11_stalls 107 = .ok (.iconst 1, 1) := by decide +kernel
theorem dX11_stalls_108 : decode cX11_stalls 108 = .ok (.isub, 1) := by decide +kernel
theorem dX11_stalls_109 : decode cX11_stalls 109 = .ok (.iload_n 3, 1) := by decide +kernel
theorem dX11_stalls_110 : decode cX11_stalls 110 = .ok (.iand, 1) := by decide +kernel
theorem dX11_stalls_111 : decode cX11_stalls 111 = .ok (.istore 4, 2) := by decide +kernel
theorem dX11_stalls_113 : decode cX11_stalls 113 = .ok (.goto (-51), 3) := by decide +kernel
theorem dX11_stalls_116 : decode cX11_stalls 116 = .ok (.iinc 3 1, 3) := by decide +kernel
theorem dX11_stalls_119 : decode cX11_stalls 119 = .ok (.goto (-74), 3) := by decide +kernel
theorem dX11_stalls_122 : decode cX11_stalls 122 = .ok (.aload_n 0, 1) := by decide +kernel
theorem dX11_stalls_123 : decode cX11_stalls 123 = .ok (.getfield 47, 3) := by decide +kernel
theorem dX11_stalls_126 : decode cX11_stalls 126 = .ok (.iload_n 2, 1) := by decide +kernel
theorem dX11_stalls_127 : decode cX11_stalls 127 = .ok (.iaload, 1) := by decide +kernel
theorem dX11_stalls_128 : decode cX11_stalls 128 = .ok (.ldc_w 407, 3) := by decide +kernel
theorem dX11_stalls_131 : decode cX11_stalls 131 = .ok (.if_icmp .lt 7, 3) := by decide +kernel
theorem dX11_stalls_134 : decode cX11_stalls 134 = .ok (.iconst (-1), 1) := by decide +kernel
theorem dX11_stalls_135 : decode cX11_stalls 135 = .ok (.goto 9, 3) := by decide +kernel
theorem dX11_stalls_138 : decode cX11_stalls 138 = .ok (.aload_n 0, 1) := by decide +kernel
theorem dX11_stalls_139 : decode cX11_stalls 139 = .ok (.getfield 47, 3) := by decide +kernel
theorem dX11_stalls_142 : decode cX11_stalls 142 = .ok (.iload_n 2, 1) := by decide +kernel
theorem dX11_stalls_143 : decode cX11_stalls 143 = .ok (.iaload, 1) := by decide +kernel
theorem dX11_stalls_144 : decode cX11_stalls 144 = .ok (.ireturn, 1) := by decide +kernel
theorem dX11_test_0 : decode cX11_test 0 = .ok (.iload_n 1, 1) := by decide +kernel
theorem dX11_test_1 : decode cX11_test 1 = .ok (.iconst (-1), 1) := by decide +kernel
theorem dX11_test_2 : decode cX11_test 2 = .ok (.if_icmp .ne 13, 3) := by decide +kernel
theorem dX11_test_5 : decode cX11_test 5 = .ok (.aload_n 0, 1) := by decide +kernel
theorem dX11_test_6 : decode cX11_test 6 = .ok (.getfield 7, 3) := by decide +kernel
theorem dX11_test_9 : decode cX11_test 9 = .ok (.bipush 88, 2) := by decide +kernel
theorem dX11_test_11 : decode cX11_test 11 = .ok (.iconst 0, 1) := by decide +kernel
theorem dX11_test_12 : decode cX11_test 12 = .ok (.iastore, 1) := by decide +kernel
theorem dX11_test_13 : decode cX11_test 13 = .ok (.iconst 0, 1) := by decide +kernel
theorem dX11_test_14 : decode cX11_test 14 = .ok (.ireturn, 1) := by decide +kernel
theorem dX11_test_15 : decode cX11_test 15 = .ok (.iload_n 1, 1) := by decide +kernel
theorem dX11_test_16 : decode cX11_test 16 = .ok (.iconst 1, 1) := by decide +kernel
theorem dX11_test_17 : decode cX11_test 17 = .ok (.sipush 999, 3) := by decide +kernel
theorem dX11_test_20 : decode cX11_test 20 = .ok (.invokestatic 53, 3) := by decide +kernel
theorem dX11_test_23 : decode cX11_test 23 = .ok (.ifCond .eq 26, 3) := by decide +kernel
theorem dX11_test_26 : decode cX11_test 26 = .ok (.iload_n 2, 1) := by decide +kernel
theorem dX11_test_27 : decode cX11_test 27 = .ok (.iconst 1, 1) := by decide +kernel
theorem dX11_test_28 : decode cX11_test 28 = .ok (.sipush 999, 3) := by decide +kernel
theorem dX11_test_31 : decode cX11_test 31 = .ok (.invokestatic 53, 3) := by decide +kernel
theorem dX11_test_34 : decode cX11_test 34 = .ok (.ifCond .eq 15, 3) := by decide +kernel
theorem dX11_test_37 : decode cX11_test 37 = .ok (.aload_n 0, 1) := by decide +kernel
theorem dX11_test_38 : decode cX11_test 38 = .ok (.getfield 7, 3) := by decide +kernel
theorem dX11_test_41 : decode cX11_test 41 = .ok (.bipush 88, 2) := by decide +kernel
theorem dX11_test_43 : decode cX11_test 43 = .ok (.iaload, 1) := by decide +kernel
theorem dX11_test_44 : decode cX11_test 44 = .ok (.bipush 6, 2) := by decide +kernel
theorem dX11_test_46 : decode cX11_test 46 = .ok (.if_icmp .ne 5, 3) := by decide +kernel
theorem dX11_test_49 : decode cX11_test 49 = .ok (.iconst (-1), 1) := by decide +kernel
theorem dX11_test_50 : decode cX11_test 50 = .ok (.ireturn, 1) := by decide +kernel
theorem dX11_test_51 : decode cX11_test 51 = .ok (.aload_n 0, 1) := by decide +kernel
theorem dX11_test_52 : decode cX11_test 52 = .ok (.getfield 7, 3) := by decide +kernel
theorem dX11_test_55 : decode cX11_test 55 = .ok (.sipush 319, 3) := by decide +kernel
theorem dX11_test_58 : decode cX11_test 58 = .ok (.iconst 2, 1) := by decide +kernel
theorem dX11_test_59 : decode cX11_test 59 = .ok (.aload_n 0, 1) := by decide +kernel
theorem dX11_test_60 : decode cX11_test 60 = .ok (.getfield 7, 3) := by decide +kernel
theorem dX11_test_63 : decode cX11_test 63 = .ok (.bipush 88, 2) := by decide +kernel
theorem dX11_test_65 : decode cX11_test 65 = .ok (.iaload, 1) := by decide +kernel
theorem dX11_test_66 : decode cX11_test 66 = .ok (.imul, 1) := by decide +kernel
theorem dX11_test_67 : decode cX11_test 67 = .ok (.iadd, 1) := by decide +kernel
theorem dX11_test_68 : decode cX11_test 68 = .ok (.iload_n 1, 1) := by decide +kernel
theorem dX11_test_69 : decode cX11_test 69 = .ok (.iastore, 1) := by decide +kernel
theorem dX11_test_70 : decode cX11_test 70 = .ok (.aload_n 0, 1) := by decide +kernel
theorem dX11_test_71 : decode cX11_test 71 = .ok (.getfield 7, 3) := by decide +kernel
theorem dX11_test_74 : decode cX11_test 74 = .ok (.sipush 319, 3) := by decide +kernel
theorem dX11_test_77 : decode cX11_test 77 = .ok (.iconst 2, 1) := by decide +kernel
theorem dX11_test_78 : decode cX11_test 78 = .ok (.aload_n 0, 1) := by decide +kernel
theorem dX11_test_79 : decode cX11_test 79 = .ok (.getfield 7, 3) := by decide +kernel
theorem dX11_test_82 : decode cX11_test 82 = .ok (.bipush 88, 2) := by decide +kernel
theorem dX11_test_84 : decode cX11_test 84 = .ok (.iaload, 1) := by decide +kernel
theorem dX11_test_85 : decode cX11_test 85 = .ok (.imul, 1) := by decide +kernel
theorem dX11_test_86 : decode cX11_test 86 = .ok (.iadd, 1) := by decide +kernel
theorem dX11_test_87 : decode cX11_test 87 = .ok (.iconst 1, 1) := by decide +kernel
theorem dX11_test_88 : decode cX11_test 88 = .ok (.iadd, 1) := by decide +kernel
theorem dX11_test_89 : decode cX11_test 89 = .ok (.iload_n 2, 1) := by decide +kernel
theorem dX11_test_90 : decode cX11_test 90 = .ok (.iastore, 1) := by decide +kernel
theorem dX11_test_91 : decode cX11_test 91 = .ok (.aload_n 0, 1) := by decide +kernel
theorem dX11_test_92 : decode cX11_test 92 = .ok (.getfield 7, 3) := by decide +kernel
theorem dX11_test_95 : decode cX11_test 95 = .ok (.bipush 88, 2) := by decide +kernel
theorem dX11_test_97 : decode cX11_test 97 = .ok (.dup2, 1) := by decide +kernel
theorem dX11_test_98 : decode cX11_test 98 = .ok (.iaload, 1) := by decide +kernel
theorem dX11_test_99 : decode cX11_test 99 = .ok (.iconst 1, 1) := by decide +kernel
theorem dX11_test_100 : decode cX11_test 100 = .ok (.iadd, 1) := by decide +kernel
theorem dX11_test_101 : decode cX11_test 101 = .ok (.iastore, 1) := by decide +kernel
theorem dX11_test_102 : decode cX11_test 102 = .ok (.aload_n 0, 1) := by decide +kernel
theorem dX11_test_103 : decode cX11_test 103 = .ok (.getfield 7, 3) := by decide +kernel
theorem dX11_test_106 : decode cX11_test 106 = .ok (.bipush 88, 2) := by decide +kernel
theorem dX11_test_108 : decode cX11_test 108 = .ok (.iaload, 1) := by decide +kernel
theorem dX11_test_109 : decode cX11_test 109 = .ok (.ireturn, 1) := by decide +kernel
theorem dX11_byTest_0 : decode cX11_byTest 0 = .ok (.iload 4, 2) := by decide +kernel
theorem dX11_byTest_2 : decode cX11_byTest 2 = .ok (.ifCond .eq 19, 3) := by decide +kernel
theorem dX11_byTest_5 : decode cX11_byTest 5 = .ok (.aload_n 0, 1) := by decide +kernel
theorem dX11_byTest_6 : decode cX11_byTest 6 = .ok (.getfield 7, 3) := by decide +kernel
theorem dX11_byTest_9 : decode cX11_byTest 9 = .ok (.sipush 319, 3) := by decide +kernel
theorem dX11_byTest_12 : decode cX11_byTest 12 = .ok (.iconst 2, 1) := by decide +kernel
theorem dX11_byTest_13 : decode cX11_byTest 13 = .ok (.iload_n 3, 1) := by decide +kernel
theorem dX11_byTest_14 : decode cX11_byTest 14 = .ok (.imul, 1) := by decide +kernel
theorem dX11_byTest_15 : decode cX11_byTest 15 = .ok (.iadd, 1) := by decide +kernel
theorem dX11_byTest_16 : decode cX11_byTest 16 = .ok (.iaload, 1) := by decide +kernel
theorem dX11_byTest_17 : decode cX11_byTest 17 = .ok (.i2l, 1) := by decide +kernel
theorem dX11_byTest_18 : decode cX11_byTest 18 = .ok (.goto 20, 3) := by decide +kernel
theorem dX11_byTest_21 : decode cX11_byTest 21 = .ok (.sipush 1000, 3) := by decide +kernel
theorem dX11_byTest_24 : decode cX11_byTest 24 = .ok (.aload_n 0, 1) := by decide +kernel
theorem dX11_byTest_25 : decode cX11_byTest 25 = .ok (.getfield 7, 3) := by decide +kernel
theorem dX11_byTest_28 : decode cX11_byTest 28 = .ok (.sipush 319, 3) := by decide +kernel
theorem dX11_byTest_31 : decode cX11_byTest 31 = .ok (.iconst 2, 1) := by decide +kernel
theorem dX11_byTest_32 : decode cX11_byTest 32 = .ok (.iload_n 3, 1) := by decide +kernel
theorem dX11_byTest_33 : decode cX11_byTest 33 = .ok (.imul, 1) := by decide +kernel
theorem dX11_byTest_34 : decode cX11_byTest 34 = .ok (.iadd, 1) := by decide +kernel
theorem dX11_byTest_35 : decode cX11_byTest 35 = .ok (.iaload, 1) := by decide +kernel
theorem dX11_byTest_36 : decode cX11_byTest 36 = .ok (.isub, 1) := by decide +kernel
theorem dX11_byTest_37 : decode cX11_byTest 37 = .ok (.i2l, 1) := by decide +kernel
theorem dX11_byTest_38 : decode cX11_byTest 38 = .ok (.lstore 5, 2) := by decide +kernel
theorem dX11_byTest_40 : decode cX11_byTest 40 = .ok (.iload 4, 2) := by decide +kernel
theorem dX11_byTest_42 : decode cX11_byTest 42 = .ok (.ifCond .eq 21, 3) := by decide +kernel
theorem dX11_byTest_45 : decode cX11_byTest 45 = .ok (.aload_n 0, 1) := by decide +kernel
theorem dX11_byTest_46 : decode cX11_byTest 46 = .ok (.getfield 7, 3) := by decide +kernel
theorem dX11_byTest_49 : decode cX11_byTest 49 = .ok (.sipush 319, 3) := by decide +kernel
theorem dX11_byTest_52 : decode cX11_byTest 52 = .ok (.iconst 2, 1) := by decide +kernel
theorem dX11_byTest_53 : decode cX11_byTest 53 = .ok (.iload_n 3, 1) := by decide +kernel
theorem dX11_byTest_54 : decode cX11_byTest 54 = .ok (.imul, 1) := by decide +kernel
theorem dX11_byTest_55 : decode cX11_byTest 55 = .ok (.iadd, 1) := by decide +kernel
theorem dX11_byTest_56 : decode cX11_byTest 56 = .ok (.iconst 1, 1) := by decide +kernel
theorem dX11_byTest_57 : decode cX11_byTest 57 = .ok (.iadd, 1) := by decide +kernel
theorem dX11_byTest_58 : decode cX11_byTest 58 = .ok (.iaload, 1) := by decide +kernel
theorem dX11_byTest_59 : decode cX11_byTest 59 = .ok (.i2l, 1) := by decide +kernel
theorem dX11_byTest_60 : decode cX11_byTest 60 = .ok (.goto 22, 3) := by decide +kernel
theorem dX11_byTest_63 : decode cX11_byTest 63 = .ok (.sipush 1000, 3) := by decide +kernel
theorem dX11_byTest_66 : decode cX11_byTest 66 = .ok (.aload_n 0, 1) := by decide +kernel
theorem dX11_byTest_67 : decode cX11_byTest 67 = .ok (.getfield 7, 3) := by decide +kernel
theorem dX11_byTest_70 : decode cX11_byTest 70 = .ok (.sipush 319, 3) := by decide +kernel
theorem dX11_byTest_73 : decode cX11_byTest 73 = .ok (.iconst 2, 1) := by decide +kernel
theorem dX11_byTest_74 : decode cX11_byTest 74 = .ok (.iload_n 3, 1) := by decide +kernel
theorem dX11_byTest_75 : decode cX11_byTest 75 = .ok (.imul, 1) := by decide +kernel
theorem dX11_byTest_76 : decode cX11_byTest 76 = .ok (.iadd, 1) := by decide +kernel
theorem dX11_byTest_77 : decode cX11_byTest 77 = .ok (.iconst 1, 1) := by decide +kernel
theorem dX11_byTest_78 : decode cX11_byTest 78 = .ok (.iadd, 1) := by decide +kernel
theorem dX11_byTest_79 : decode cX11_byTest 79 = .ok (.iaload, 1) := by decide +kernel
theorem dX11_byTest_80 : decode cX11_byTest 80 = .ok (.isub, 1) := by decide +kernel
theorem dX11_byTest_81 : decode cX11_byTest 81 = .ok (.i2l, 1) := by decide +kernel
theorem dX11_byTest_82 : decode cX11_byTest 82 = .ok (.lstore 7, 2) := by decide +kernel
theorem dX11_byTest_84 : decode cX11_byTest 84 = .ok (.ldc2_w 411, 3) := by decide +kernel
theorem dX11_byTest_87 : decode cX11_byTest 87 = .ok (.lload_n 1, 1) := by decide +kernel
theorem dX11_byTest_88 : decode cX11_byTest 88 = .ok (.lload 7, 2) := by decide +kernel
theorem dX11_byTest_90 : decode cX11_byTest 90 = .ok (.lmul, 1) := by decide +kernel
theorem dX11_byTest_91 : decode cX11_byTest 91 = .ok (.lmul, 1) := by decide +kernel
theorem dX11_byTest_92 : decode cX11_byTest 92 = .ok (.lload_n 1, 1) := by decide +kernel
theorem dX11_byTest_93 : decode cX11_byTest 93 = .ok (.lload 7, 2) := by decide +kernel
theorem dX11_byTest_95 : decode cX11_byTest 95 = .ok (.lmul, 1) := by decide +kernel
theorem dX11_byTest_96 : decode cX11_byTest 96 = .ok (.ldc2_w 411, 3) := by decide +kernel
theorem dX11_byTest_99 : decode cX11_byTest 99 = .ok (.lload_n 1, 1) := by decide +kernel
theorem dX11_byTest_100 : decode cX11_byTest 100 = .ok (.lsub, 1) := by decide +kernel
theorem dX11_byTest_101 : decode cX11_byTest 101 = .ok (.lload 5, 2) := by decide +kernel
theorem dX11_byTest_103 : decode cX11_byTest 103 = .ok (.lmul, 1) := by decide +kernel
theorem dX11_byTest_104 : decode cX11_byTest 104 = .ok (.ladd, 1) := by decide +kernel
theorem dX11_byTest_105 : decode cX11_byTest 105 = .ok (.ldiv, 1) := by decide +kernel
theorem dX11_byTest_106 : decode cX11_byTest 106 = .ok (.lreturn, 1) := by decide +kernel
theorem dX11_areTests_0 : decode cX11_areTests 0 = .ok (.iload_n 1, 1) := by decide +kernel
theorem dX11_areTests_1 : decode cX11_areTests 1 = .ok (.iconst 0, 1) := by decide +kernel
theorem dX11_areTests_2 : decode cX11_areTests 2 = .ok (.iconst 1, 1) := by decide +kernel
theorem dX11_areTests_3 : decode cX11_areTests 3 = .ok (.aload_n 0, 1) := by decide +kernel
theorem dX11_areTests_4 : decode cX11_areTests 4 = .ok (.getfield 7, 3) := by decide +kernel
theorem dX11_areTests_7 : decode cX11_areTests 7 = .ok (.bipush 88, 2) := by decide +kernel
theorem dX11_areTests_9 : decode cX11_areTests 9 = .ok (.iaload, 1) := by decide +kernel
theorem dX11_areTests_10 : decode cX11_areTests 10 = .ok (.ishl, 1) := by decide +kernel
theorem dX11_areTests_11 : decode cX11_areTests 11 = .ok (.iconst 1, 1) := by decide +kernel
theorem dX11_areTests_12 : decode cX11_areTests 12 = .ok (.isub, 1) := by decide +kernel
theorem dX11_areTests_13 : decode cX11_areTests 13 = .ok (.invokestatic 53, 3) := by decide +kernel
theorem dX11_areTests_16 : decode cX11_areTests 16 = .ok (.ireturn, 1) := by decide +kernel
theorem dX11_forged_0 : decode cX11_forged 0 = .ok (.iload_n 1, 1) := by decide +kernel
theorem dX11_forged_1 : decode cX11_forged 1 = .ok (.iconst 0, 1) := by decide +kernel
theorem dX11_forged_2 : decode cX11_forged 2 = .ok (.sipush 1000, 3) := by decide +kernel
theorem dX11_forged_5 : decode cX11_forged 5 = .ok (.invokestatic 53, 3) := by decide +kernel
theorem dX11_forged_8 : decode cX11_forged 8 = .ok (.ifCond .eq 25, 3) := by decide +kernel
theorem dX11_forged_11 : decode cX11_forged 11 = .ok (.aload_n 0, 1) := by decide +kernel
theorem dX11_forged_12 : decode cX11_forged 12 = .ok (.iload_n 2, 1) := by decide +kernel
theorem dX11_forged_13 : decode cX11_forged 13 = .ok (.invokevirtual 413, 3) := by decide +kernel
theorem dX11_forged_16 : decode cX11_forged 16 = .ok (.ifCond .eq 17, 3) := by decide +kernel
theorem dX11_forged_19 : decode cX11_forged 19 = .ok (.aload_n 0, 1) := by decide +kernel
theorem dX11_forged_20 : decode cX11_forged 20 = .ok (.iload_n 3, 1) := by decide +kernel
theorem dX11_forged_21 : decode cX11_forged 21 = .ok (.invokevirtual 413, 3) := by decide +kernel
theorem dX11_forged_24 : decode cX11_forged 24 = .ok (.ifCond .eq 9, 3) := by decide +kernel
theorem dX11_forged_27 : decode cX11_forged 27 = .ok (.iload_n 2, 1) := by decide +kernel
theorem dX11_forged_28 : decode cX11_forged 28 = .ok (.iload_n 3, 1) := by decide +kernel
theorem dX11_forged_29 : decode cX11_forged 29 = .ok (.iand, 1) := by decide +kernel
theorem dX11_forged_30 : decode cX11_forged 30 = .ok (.ifCond .eq 5, 3) := by decide +kernel
theorem dX11_forged_33 : decode cX11_forged 33 = .ok (.iconst (-1), 1) := by decide +kernel
theorem dX11_forged_34 : decode cX11_forged 34 = .ok (.ireturn, 1) := by decide +kernel
theorem dX11_forged_35 : decode cX11_forged 35 = .ok (.ldc2_w 416, 3) := by decide +kernel
theorem dX11_forged_38 : decode cX11_forged 38 = .ok (.iload_n 1, 1) := by decide +kernel
theorem dX11_forged_39 : decode cX11_forged 39 = .ok (.i2l, 1) := by decide +kernel
theorem dX11_forged_40 : decode cX11_forged 40 = .ok (.lmul, 1) := by decide +kernel
theorem dX11_forged_41 : decode cX11_forged 41 = .ok (.lstore 4, 2) := by decide +kernel
theorem dX11_forged_43 : decode cX11_forged 43 = .ok (.iconst 0, 1) := by decide +kernel
theorem dX11_forged_44 : decode cX11_forged 44 = .ok (.istore 6, 2) := by decide +kernel
theorem dX11_forged_46 : decode cX11_forged 46 = .ok (.iload 6, 2) := by decide +kernel
theorem dX11_forged_48 : decode cX11_forged 48 = .ok (.aload_n 0, 1) := by decide +kernel
theorem dX11_forged_49 : decode cX11_forged 49 = .ok (.getfield 7, 3) := by decide +kernel
theorem dX11_forged_52 : decode cX11_forged 52 = .ok (.bipush 88, 2) := by decide +kernel
theorem dX11_forged_54 : decode cX11_forged 54 = .ok (.iaload, 1) := by decide +kernel
theorem dX11_forged_55 : decode cX11_forged 55 = .ok (.if_icmp .ge 46, 3) := by decide +kernel
theorem dX11_forged_58 : decode cX11_forged 58 = .ok (.iload_n 2, 1) := by decide +kernel
theorem dX11_forged_59 : decode cX11_forged 59 = .ok (.iload_n 3, 1) := by decide +kernel
theorem dX11_forged_60 : decode cX11_forged 60 = .ok (.ior, 1) := by decide +kernel
theorem dX11_forged_61 : decode cX11_forged 61 = .ok (.iload 6, 2) := by decide +kernel
theorem dX11_forged_63 : decode cX11_forged 63 = .ok (.ishr, 1) := by decide +kernel
theorem dX11_forged_64 : decode cX11_forged 64 = .ok (.iconst 1, 1) := by decide +kernel
theorem dX11_forged_65 : decode cX11_forged 65 = .ok (.iand, 1) := by decide +kernel
theorem dX11_forged_66 : decode cX11_forged 66 = .ok (.iconst 1, 1) := by decide +kernel
theorem dX11_forged_67 : decode cX11_forged 67 = .ok (.if_icmp .ne 28, 3) := by decide +kernel
theorem dX11_forged_70 : decode cX11_forged 70 = .ok (.aload_n 0, 1) := by decide +kernel
theorem dX11_forged_71 : decode cX11_forged 71 = .ok (.lload 4, 2) := by decide +kernel
theorem dX11_forged_73 : decode cX11_forged 73 = .ok (.iload 6, 2) := by decide +kernel
theorem dX11_forged_75 : decode cX11_forged 75 = .ok (.iload_n 2, 1) := by decide +kernel
theorem dX11_forged_76 : decode cX11_forged 76 = .ok (.iload 6, 2) := by decide +kernel
theorem dX11_forged_78 : decode cX11_forged 78 = .ok (.ishr, 1) := by decide +kernel
theorem dX11_forged_79 : decode cX11_forged 79 = .ok (.iconst 1, 1) := by decide +kernel
theorem dX11_forged_80 : decode cX11_forged 80 = .ok (.iand, 1) := by decide +kernel
theorem dX11_forged_81 : decode cX11_forged 81 = .ok (.iconst 1, 1) := by decide +kernel
theorem dX11_forged_82 : decode cX11_forged 82 = .ok (.if_icmp .ne 7, 3) := by decide +kernel
theorem dX11_forged_85 : decode cX11_forged 85 = .ok (.iconst 1, 1) := by decide +kernel
theorem dX11_forged_86 : decode cX11_forged 86 = .ok (.goto 4, 3) := by decide +kernel
theorem dX11_forged_89 : decode cX11_forged 89 = .ok (.iconst 0, 1) := by decide +kernel
theorem dX11_forged_90 : decode cX11_forged 90 = .ok (.invokevirtual 418, 3) := by decide +kernel
theorem dX11_forged_93 : decode cX11_forged 93 = .ok (.lstore 4, 2) := by decide +kernel
theorem dX11_forged_95 : decode cX11_forged 95 = .ok (.iinc 6 1, 3) := by decide +kernel
theorem dX11_forged_98 : decode cX11_forged 98 = .ok (.goto (-52), 3) := by decide +kernel
theorem dX11_forged_101 : decode cX11_forged 101 = .ok (.lload 4, 2) := by decide +kernel
theorem dX11_forged_103 : decode cX11_forged 103 = .ok (.l2i, 1) := by decide +kernel
theorem dX11_forged_104 : decode cX11_forged 104 = .ok (.ireturn, 1) := by decide +kernel
theorem dX11_lookAt_0 : decode cX11_lookAt 0 = .ok (.iload_n 1, 1) := by decide +kernel
theorem dX11_lookAt_1 : decode cX11_lookAt 1 = .ok (.iconst 0, 1) := by decide +kernel
theorem dX11_lookAt_2 : decode cX11_lookAt 2 = .ok (.sipush 1000, 3) := by decide +kernel
theorem dX11_lookAt_5 : decode cX11_lookAt 5 = .ok (.invokestatic 53, 3) := by decide +kernel
theorem dX11_lookAt_8 : decode cX11_lookAt 8 = .ok (.ifCond .ne 5, 3) := by decide +kernel
theorem dX11_lookAt_11 : decode cX11_lookAt 11 = .ok (.iconst (-1), 1) := by decide +kernel
theorem dX11_lookAt_12 : decode cX11_lookAt 12 = .ok (.ireturn, 1) := by decide +kernel
theorem dX11_lookAt_13 : decode cX11_lookAt 13 = .ok (.iconst (-1), 1) := by decide +kernel
theorem dX11_lookAt_14 : decode cX11_lookAt 14 = .ok (.istore_n 2, 1) := by decide +kernel
theorem dX11_lookAt_15 : decode cX11_lookAt 15 = .ok (.ldc2_w 422, 3) := by decide +kernel
theorem dX11_lookAt_18 : decode cX11_lookAt 18 = .ok (.lstore_n 3, 1) := by decide +kernel
theorem dX11_lookAt_19 : decode cX11_lookAt 19 = .ok (.iconst 0, 1) := by decide +kernel
theorem dX11_lookAt_20 : decode cX11_lookAt 20 = .ok (.istore 5, 2) := by decide +kernel
theorem dX11_lookAt_22 : decode cX11_lookAt 22 = .ok (.iload 5, 2) := by decide +kernel
theorem dX11_lookAt_24 : decode cX11_lookAt 24 = .ok (.aload_n 0, 1) := by decide +kernel
theorem dX11_lookAt_25 : decode cX11_lookAt 25 = .ok (.getfield 7, 3) := by decide +kernel
theorem dX11_lookAt_28 : decode cX11_lookAt 28 = .ok (.bipush 88, 2) := by decide +kernel
theorem dX11_lookAt_30 : decode cX11_lookAt 30 = .ok (.iaload, 1) := by decide +kernel
theorem dX11_lookAt_31 : decode cX11_lookAt 31 = .ok (.if_icmp .ge 76, 3) := by decide +kernel
theorem dX11_lookAt_34 : decode cX11_lookAt 34 = .ok (.aload_n 0, 1) := by decide +kernel
theorem dX11_lookAt_35 : decode cX11_lookAt 35 = .ok (.ldc2_w 416, 3) := by decide +kernel
theorem dX11_lookAt_38 : decode cX11_lookAt 38 = .ok (.iload_n 1, 1) := by decide +kernel
theorem dX11_lookAt_39 : decode cX11_lookAt 39 = .ok (.i2l, 1) := by decide +kernel
theorem dX11_lookAt_40 : decode cX11_lookAt 40 = .ok (.lmul, 1) := by decide +kernel
theorem dX11_lookAt_41 : decode cX11_lookAt 41 = .ok (.iload 5, 2) := by decide +kernel
theorem dX11_lookAt_43 : decode cX11_lookAt 43 = .ok (.iconst 1, 1) := by decide +kernel
theorem dX11_lookAt_44 : decode cX11_lookAt 44 = .ok (.invokevirtual 418, 3) := by decide +kernel
theorem dX11_lookAt_47 : decode cX11_lookAt 47 = .ok (.lstore 6, 2) := by decide +kernel
theorem dX11_lookAt_49 : decode cX11_lookAt 49 = .ok (.ldc2_w 411, 3) := by decide +kernel
theorem dX11_lookAt_52 : decode cX11_lookAt 52 = .ok (.aload_n 0, 1) := by decide +kernel
theorem dX11_lookAt_53 : decode cX11_lookAt 53 = .ok (.ldc2_w 416, 3) := by decide +kernel
theorem dX11_lookAt_56 : decode cX11_lookAt 56 = .ok (.iload_n 1, 1) := by decide +kernel
theorem dX11_lookAt_57 : decode cX11_lookAt 57 = .ok (.i2l, 1) := by decide +kernel
theorem dX11_lookAt_58 : decode cX11_lookAt 58 = .ok (.lmul, 1) := by decide +kernel
theorem dX11_lookAt_59 : decode cX11_lookAt 59 = .ok (.iload 5, 2) := by decide +kernel
theorem dX11_lookAt_61 : decode cX11_lookAt 61 = .ok (.iconst 0, 1) := by decide +kernel
theorem dX11_lookAt_62 : decode cX11_lookAt 62 = .ok (.invokevirtual 418, 3) := by decide +kernel
theorem dX11_lookAt_65 : decode cX11_lookAt 65 = .ok (.lsub, 1) := by decide +kernel
theorem dX11_lookAt_66 : decode cX11_lookAt 66 = .ok (.lstore 8, 2) := by decide +kernel
theorem dX11_lookAt_68 : decode cX11_lookAt 68 = .ok (.lload 6, 2) := by decide +kernel
theorem dX11_lookAt_70 : decode cX11_lookAt 70 = .ok (.lload 8, 2) := by decide +kernel
theorem dX11_lookAt_72 : decode cX11_lookAt 72 = .ok (.lcmp, 1) := by decide +kernel
theorem dX11_lookAt_73 : decode cX11_lookAt 73 = .ok (.ifCond .le 8, 3) := by decide +kernel
theorem dX11_lookAt_76 : decode cX11_lookAt 76 = .ok (.lload 6, 2) := by decide +kernel
theorem dX11_lookAt_78 : decode cX11_lookAt 78 = .ok (.goto 5, 3) := by decide +kernel
theorem dX11_lookAt_81 : decode cX11_lookAt 81 = .ok (.lload 8, 2) := by decide +kernel
theorem dX11_lookAt_83 : decode cX11_lookAt 83 = .ok (.lstore 10, 2) := by decide +kernel
theorem dX11_lookAt_85 : decode cX11_lookAt 85 = .ok (.lload 10, 2) := by decide +kernel
theorem dX11_lookAt_87 : decode cX11_lookAt 87 = .ok (.lload_n 3, 1) := by decide +kernel
theorem dX11_lookAt_88 : decode cX11_lookAt 88 = .ok (.lcmp, 1) := by decide +kernel
theorem dX11_lookAt_89 : decode cX11_lookAt 89 = .ok (.ifCond .gt 6, 3) := by decide +kernel
theorem dX11_lookAt_92 : decode cX11_lookAt 92 = .ok (.goto 9, 3) := by decide +kernel
theorem dX11_lookAt_95 : decode cX11_lookAt 95 = .ok (.lload 10, 2) := by decide +kernel
theorem dX11_lookAt_97 : decode cX11_lookAt 97 = .ok (.lstore_n 3, 1) := by decide +kernel
theorem dX11_lookAt_98 : decode cX11_lookAt 98 = .ok (.iload 5, 2) := by decide +kernel
theorem dX11_lookAt_100 : decode cX11_lookAt 100 = .ok (.istore_n 2, 1) := by decide +kernel
theorem dX11_lookAt_101 : decode cX11_lookAt 101 = .ok (.iinc 5 1, 3) := by decide +kernel
theorem dX11_lookAt_104 : decode cX11_lookAt 104 = .ok (.goto (-82), 3) := by decide +kernel
theorem dX11_lookAt_107 : decode cX11_lookAt 107 = .ok (.iload_n 2, 1) := by decide +kernel
theorem dX11_lookAt_108 : decode cX11_lookAt 108 = .ok (.ireturn, 1) := by decide +kernel
theorem dX11_linesLeaving_0 : decode cX11_linesLeaving 0 = .ok (.iconst 0, 1) := by decide +kernel
theorem dX11_linesLeaving_1 : decode cX11_linesLeaving 1 = .ok (.istore_n 2, 1) := by decide +kernel
theorem dX11_linesLeaving_2 : decode cX11_linesLeaving 2 = .ok (.iconst 0, 1) := by decide +kernel
theorem dX11_linesLeaving_3 : decode cX11_linesLeaving 3 = .ok (.istore_n 3, 1) := by decide +kernel
theorem dX11_linesLeaving_4 : decode cX11_linesLeaving 4 = .ok (.iload_n 3, 1) := by decide +kernel
theorem dX11_linesLeaving_5 : decode cX11_linesLeaving 5 = .ok (.aload_n 0, 1) := by decide +kernel
theorem dX11_linesLeaving_6 : decode cX11_linesLeaving 6 = .ok (.getfield 7, 3) := by decide +kernel
theorem dX11_linesLeaving_9 : decode cX11_linesLeaving 9 = .ok (.bipush 84, 2) := by decide +kernel
theorem dX11_linesLeaving_11 : decode cX11_linesLeaving 11 = .ok (.iaload, 1) := by decide +kernel
theorem dX11_linesLeaving_12 : decode cX11_linesLeaving 12 = .ok (.if_icmp .ge 53, 3) := by decide +kernel
theorem dX11_linesLeaving_15 : decode cX11_linesLeaving 15 = .ok (.iload_n 2, 1) := by decide +kernel
theorem dX11_linesLeaving_16 : decode cX11_linesLeaving 16 = .ok (.aload_n 0, 1) := by decide +kernel
theorem dX11_linesLeaving_17 : decode cX11_linesLeaving 17 = .ok (.aload_n 0, 1) := by decide +kernel
theorem dX11_linesLeaving_18 : decode cX11_linesLeaving 18 = .ok (.getfield 7, 3) := by decide +kernel
theorem dX11_linesLeaving_21 : decode cX11_linesLeaving 21 = .ok (.bipush 103, 2) := by decide +kernel
theorem dX11_linesLeaving_23 : decode cX11_linesLeaving 23 = .ok (.iconst 3, 1) := by decide +kernel
theorem dX11_linesLeaving_24 : decode cX11_linesLeaving 24 = .ok (.iload_n 3, 1) := by decide +kernel
theorem dX11_linesLeaving_25 : decode cX11_linesLeaving 25 = .ok (.imul, 1) := by decide +kernel
theorem dX11_linesLeaving_26 : decode cX11_linesLeaving 26 = .ok (.iadd, 1) := by decide +kernel
theorem dX11_linesLeaving_27 : decode cX11_linesLeaving 27 = .ok (.iconst 1, 1) := by decide +kernel
theorem dX11_linesLeaving_28 : decode cX11_linesLeaving 28 = .ok (.iadd, 1) := by decide +kernel
theorem dX11_linesLeaving_29 : decode cX11_linesLeaving 29 = .ok (.iaload, 1) := by decide +kernel
theorem dX11_linesLeaving_30 : decode cX11_linesLeaving 30 = .ok (.aload_n 0, 1) := by decide +kernel
theorem dX11_linesLeaving_31 : decode cX11_linesLeaving 31 = .ok (.getfield 7, 3) := by decide +kernel
theorem dX11_linesLeaving_34 : decode cX11_linesLeaving 34 = .ok (.bipush 103, 2) := by decide +kernel
theorem dX11_linesLeaving_36 : decode cX11_linesLeaving 36 = .ok (.iconst 3, 1) := by decide +kernel
theorem dX11_linesLeaving_37 : decode cX11_linesLeaving 37 = .ok (.iload_n 3, 1) := by decide +kernel
theorem dX11_linesLeaving_38 : decode cX11_linesLeaving 38 = .ok (.imul, 1) := by decide +kernel
theorem dX11_linesLeaving_39 : decode cX11_linesLeaving 39 = .ok (.iadd, 1) := by decide +kernel
theorem dX11_linesLeaving_40 : decode cX11_linesLeaving 40 = .ok (.iconst 2, 1) := by decide +kernel
theorem dX11_linesLeaving_41 : decode cX11_linesLeaving 41 = .ok (.iadd, 1) := by decide +kernel
theorem dX11_linesLeaving_42 : decode cX11_linesLeaving 42 = .ok (.iaload, 1) := by decide +kernel
theorem dX11_linesLeaving_43 : decode cX11_linesLeaving 43 = .ok (.invokevirtual 313, 3) := by decide +kernel
theorem dX11_linesLeaving_46 : decode cX11_linesLeaving 46 = .ok (.iload_n 1, 1) := by decide +kernel
theorem dX11_linesLeaving_47 : decode cX11_linesLeaving 47 = .ok (.if_icmp .ne 9, 3) := by decide +kernel
theorem dX11_linesLeaving_50 : decode cX11_linesLeaving 50 = .ok (.iconst 1, 1) := by decide +kernel
theorem dX11_linesLeaving_51 : decode cX11_linesLeaving 51 = .ok (.iload_n 3, 1) := by decide +kernel
theorem dX11_linesLeaving_52 : decode cX11_linesLeaving 52 = .ok (.ishl, 1) := by decide +kernel
theorem dX11_linesLeaving_53 : decode cX11_linesLeaving 53 = .ok (.goto 4, 3) := by decide +kernel
theorem dX11_linesLeaving_56 : decode cX11_linesLeaving 56 = .ok (.iconst 0, 1) := by decide +kernel
theorem dX11_linesLeaving_57 : decode cX11_linesLeaving 57 = .ok (.ior, 1) := by decide +kernel
theorem dX11_linesLeaving_58 : decode cX11_linesLeaving 58 = .ok (.istore_n 2, 1) := by decide +kernel
theorem dX11_linesLeaving_59 : decode cX11_linesLeaving 59 = .ok (.iinc 3 1, 3) := by decide +kernel
theorem dX11_linesLeaving_62 : decode cX11_linesLeaving 62 = .ok (.goto (-58), 3) := by decide +kernel
theorem dX11_linesLeaving_65 : decode cX11_linesLeaving 65 = .ok (.iload_n 2, 1) := by decide +kernel
theorem dX11_linesLeaving_66 : decode cX11_linesLeaving 66 = .ok (.ireturn, 1) := by decide +kernel
theorem dX11_greaterPart_0 : decode cX11_greaterPart 0 = .ok (.iconst 0, 1) := by decide +kernel
theorem dX11_greaterPart_1 : decode cX11_greaterPart 1 = .ok (.istore_n 3, 1) := by decide +kernel
theorem dX11_greaterPart_2 : decode cX11_greaterPart 2 = .ok (.iconst 0, 1) := by decide +kernel
theorem dX11_greaterPart_3 : decode cX11_greaterPart 3 = .ok (.istore 4, 2) := by decide +kernel
theorem dX11_greaterPart_5 : decode cX11_greaterPart 5 = .ok (.iload 4, 2) := by decide +kernel
theorem dX11_greaterPart_7 : decode cX11_greaterPart 7 = .ok (.aload_n 0, 1) := by decide +kernel
theorem dX11_greaterPart_8 : decode cX11_greaterPart 8 = .ok (.getfield 7, 3) := by decide +kernel
theorem dX11_greaterPart_11 : decode cX11_greaterPart 11 = .ok (.bipush 84, 2) := by decide +kernel
theorem dX11_greaterPart_13 : decode cX11_greaterPart 13 = .ok (.iaload, 1) := by decide +kernel
theorem dX11_greaterPart_14 : decode cX11_greaterPart 14 = .ok (.if_icmp .ge 45, 3) := by decide +kernel
theorem dX11_greaterPart_17 : decode cX11_greaterPart 17 = .ok (.iload_n 3, 1) := by decide +kernel
theorem dX11_greaterPart_18 : decode cX11_greaterPart 18 = .ok (.iload_n 1, 1) := by decide +kernel
theorem dX11_greaterPart_19 : decode cX11_greaterPart 19 = .ok (.iload 4, 2) := by decide +kernel
theorem dX11_greaterPart_21 : decode cX11_greaterPart 21 = .ok (.ishr, 1) := by decide +kernel
theorem dX11_greaterPart_22 : decode cX11_greaterPart 22 = .ok (.iconst 1, 1) := by decide +kernel
theorem dX11_greaterPart_23 : decode cX11_greaterPart 23 = .ok (.iand, 1) := by decide +kernel
theorem dX11_greaterPart_24 : decode cX11_greaterPart 24 = .ok (.iconst 1, 1) := by decide +kernel
theorem dX11_greaterPart_25 : decode cX11_greaterPart 25 = .ok (.if_icmp .ne 25, 3) := by decide +kernel
theorem dX11_greaterPart_28 : decode cX11_greaterPart 28 = .ok (.aload_n 0, 1) := by decide +kernel
theorem dX11_greaterPart_29 : decode cX11_greaterPart 29 = .ok (.getfield 7, 3) := by decide +kernel
theorem dX11_greaterPart_32 : decode cX11_greaterPart 32 = .ok (.bipush 103, 2) := by decide +kernel
theorem dX11_greaterPart_34 : decode cX11_greaterPart 34 = .ok (.iconst 3, 1) := by decide +kernel
theorem dX11_greaterPart_35 : decode cX11_greaterPart 35 = .ok (.iload 4, 2) := by decide +kernel
theorem dX11_greaterPart_37 : decode cX11_greaterPart 37 = .ok (.imul, 1) := by decide +kernel
theorem dX11_greaterPart_38 : decode cX11_greaterPart 38 = .ok (.iadd, 1) := by decide +kernel
theorem dX11_greaterPart_39 : decode cX11_greaterPart 39 = .ok (.iconst 1, 1) := by decide +kernel
theorem dX11_greaterPart_40 : decode cX11_greaterPart 40 = .ok (.iadd, 1) := by decide +kernel
theorem dX11_greaterPart_41 : decode cX11_greaterPart 41 = .ok (.iaload, 1) := by decide +kernel
theorem dX11_greaterPart_42 : decode cX11_greaterPart 42 = .ok (.iload_n 2, 1) := by decide +kernel
theorem dX11_greaterPart_43 : decode cX11_greaterPart 43 = .ok (.if_icmp .ne 7, 3) := by decide +kernel
theorem dX11_greaterPart_46 : decode cX11_greaterPart 46 = .ok (.iconst 1, 1) := by decide +kernel
theorem dX11_greaterPart_47 : decode cX11_greaterPart 47 = .ok (.goto 4, 3) := by decide +kernel
theorem dX11_greaterPart_50 : decode cX11_greaterPart 50 = .ok (.iconst 0, 1) := by decide +kernel
theorem dX11_greaterPart_51 : decode cX11_greaterPart 51 = .ok (.iadd, 1) := by decide +kernel
theorem dX11_greaterPart_52 : decode cX11_greaterPart 52 = .ok (.istore_n 3, 1) := by decide +kernel
theorem dX11_greaterPart_53 : decode cX11_greaterPart 53 = .ok (.iinc 4 1, 3) := by decide +kernel
theorem dX11_greaterPart_56 : decode cX11_greaterPart 56 = .ok (.goto (-51), 3) := by decide +kernel
theorem dX11_greaterPart_59 : decode cX11_greaterPart 59 = .ok (.iload_n 3, 1) := by decide +kernel
theorem dX11_greaterPart_60 : decode cX11_greaterPart 60 = .ok (.iload_n 1, 1) := by decide +kernel
theorem dX11_greaterPart_61 : decode cX11_greaterPart 61 = .ok (.invokestatic 345, 3) := by decide +kernel
theorem dX11_greaterPart_64 : decode cX11_greaterPart 64 = .ok (.iload_n 3, 1) := by decide +kernel
theorem dX11_greaterPart_65 : decode cX11_greaterPart 65 = .ok (.isub, 1) := by decide +kernel
theorem dX11_greaterPart_66 : decode cX11_greaterPart 66 = .ok (.invokestatic 291, 3) := by decide +kernel
theorem dX11_greaterPart_69 : decode cX11_greaterPart 69 = .ok (.ireturn, 1) := by decide +kernel
theorem dX11_crumbs_0 : decode cX11_crumbs 0 = .ok (.iload_n 1, 1) := by decide +kernel
theorem dX11_crumbs_1 : decode cX11_crumbs 1 = .ok (.iconst 0, 1) := by decide +kernel
theorem dX11_crumbs_2 : decode cX11_crumbs 2 = .ok (.bipush 99, 2) := by decide +kernel
theorem dX11_crumbs_4 : decode cX11_crumbs 4 = .ok (.invokestatic 53, 3) := by decide +kernel
theorem dX11_crumbs_7 : decode cX11_crumbs 7 = .ok (.ifCond .eq 12, 3) := by decide +kernel
theorem dX11_crumbs_10 : decode cX11_crumbs 10 = .ok (.iload_n 2, 1) := by decide +kernel
theorem dX11_crumbs_11 : decode cX11_crumbs 11 = .ok (.iconst 0, 1) := by decide +kernel
theorem dX11_crumbs_12 : decode cX11_crumbs 12 = .ok (.iconst 1, 1) := by decide +kernel
theorem dX11_crumbs_13 : decode cX11_crumbs 13 = .ok (.invokestatic 53, 3) := by decide +kernel
theorem dX11_crumbs_16 : decode cX11_crumbs 16 = .ok (.ifCond .ne 5, 3) := by decide +kernel
theorem dX11_crumbs_19 : decode cX11_crumbs 19 = .ok (.iconst (-1), 1) := by decide +kernel
theorem dX11_crumbs_20 : decode cX11_crumbs 20 = .ok (.ireturn, 1) := by decide +kernel
theorem dX11_crumbs_21 : decode cX11_crumbs 21 = .ok (.aload_n 0, 1) := by decide +kernel
theorem dX11_crumbs_22 : decode cX11_crumbs 22 = .ok (.iload_n 1, 1) := by decide +kernel
theorem dX11_crumbs_23 : decode cX11_crumbs 23 = .ok (.invokevirtual 424, 3) := by decide +kernel
theorem dX11_crumbs_26 : decode cX11_crumbs 26 = .ok (.istore_n 3, 1) := by decide +kernel
theorem dX11_crumbs_27 : decode cX11_crumbs 27 = .ok (.iload_n 2, 1) := by decide +kernel
theorem dX11_crumbs_28 : decode cX11_crumbs 28 = .ok (.ifCond .ne 5, 3) := by decide +kernel
theorem dX11_crumbs_31 : decode cX11_crumbs 31 = .ok (.iload_n 3, 1) := by decide +kernel
theorem dX11_crumbs_32 : decode cX11_crumbs 32 = .ok (.ireturn, 1) := by decide +kernel
theorem dX11_crumbs_33 : decode cX11_crumbs 33 = .ok (.iconst 0, 1) := by decide +kernel
theorem dX11_crumbs_34 : decode cX11_crumbs 34 = .ok (.istore 4, 2) := by decide +kernel
theorem dX11_crumbs_36 : decode cX11_crumbs 36 = .ok (.iconst 1, 1) := by decide +kernel
theorem dX11_crumbs_37 : decode cX11_crumbs 37 = .ok (.istore 5, 2) := by decide +kernel
theorem dX11_crumbs_39 : decode cX11_crumbs 39 = .ok (.iload 5, 2) := by decide +kernel
theorem dX11_crumbs_41 : decode cX11_crumbs 41 = .ok (.aload_n 0, 1) := by decide +kernel
theorem dX11_crumbs_42 : decode cX11_crumbs 42 = .ok (.getfield 7, 3) := by decide +kernel
theorem dX11_crumbs_45 : decode cX11_crumbs 45 = .ok (.bipush 80, 2) := by decide +kernel
theorem dX11_crumbs_47 : decode cX11_crumbs 47 = .ok (.iaload, 1) := by decide +kernel
theorem dX11_crumbs_48 : decode cX11_crumbs 48 = .ok (.if_icmp .ge 30, 3) := by decide +kernel
theorem dX11_crumbs_51 : decode cX11_crumbs 51 = .ok (.aload_n 0, 1) := by decide +kernel
theorem dX11_crumbs_52 : decode cX11_crumbs 52 = .ok (.iload_n 3, 1) := by decide +kernel
theorem dX11_crumbs_53 : decode cX11_crumbs 53 = .ok (.iload 5, 2) := by decide +kernel
theorem dX11_crumbs_55 : decode cX11_crumbs 55 = .ok (.invokevirtual 427, 3) := by decide +kernel
theorem dX11_crumbs_58 : decode cX11_crumbs 58 = .ok (.aload_n 0, 1) := by decide +kernel
theorem dX11_crumbs_59 : decode cX11_crumbs 59 = .ok (.iload_n 3, 1) := by decide +kernel
theorem dX11_crumbs_60 : decode cX11_crumbs 60 = .ok (.iload 4, 2) := by decide +kernel
theorem dX11_crumbs_62 : decode cX11_crumbs 62 = .ok (.invokevirtual 427, 3) := by decide +kernel
theorem dX11_crumbs_65 : decode cX11_crumbs 65 = .ok (.if_icmp .ge 7, 3) := by decide +kernel
theorem dX11_crumbs_68 : decode cX11_crumbs 68 = .ok (.iload 5, 2) := by decide +kernel
theorem dX11_crumbs_70 : decode cX11_crumbs 70 = .ok (.istore 4, 2) := by decide +kernel
theorem dX11_crumbs_72 : decode cX11_crumbs 72 = .ok (.iinc 5 1, 3) := by decide +kernel
theorem dX11_crumbs_75 : decode cX11_crumbs 75 = .ok (.goto (-36), 3) := by decide +kernel
theorem dX11_crumbs_78 : decode cX11_crumbs 78 = .ok (.iload_n 3, 1) := by decide +kernel
theorem dX11_crumbs_79 : decode cX11_crumbs 79 = .ok (.invokestatic 345, 3) := by decide +kernel
theorem dX11_crumbs_82 : decode cX11_crumbs 82 = .ok (.iconst 2, 1) := by decide +kernel
theorem dX11_crumbs_83 : decode cX11_crumbs 83 = .ok (.if_icmp .ge 7, 3) := by decide +kernel
theorem dX11_crumbs_86 : decode cX11_crumbs 86 = .ok (.iconst (-1), 1) := by decide +kernel
theorem dX11_crumbs_87 : decode cX11_crumbs 87 = .ok (.goto 5, 3) := by decide +kernel
theorem dX11_crumbs_90 : decode cX11_crumbs 90 = .ok (.iload 4, 2) := by decide +kernel
theorem dX11_crumbs_92 : decode cX11_crumbs 92 = .ok (.ireturn, 1) := by decide +kernel
theorem dX11_cookedOf_0 : decode cX11_cookedOf 0 = .ok (.iconst 0, 1) := by decide +kernel
theorem dX11_cookedOf_1 : decode cX11_cookedOf 1 = .ok (.istore_n 2, 1) := by decide +kernel
theorem dX11_cookedOf_2 : decode cX11_cookedOf 2 = .ok (.iload_n 2, 1) := by decide +kernel
theorem dX11_cookedOf_3 : decode cX11_cookedOf 3 = .ok (.bipush 6, 2) := by decide +kernel
theorem dX11_cookedOf_5 : decode cX11_cookedOf 5 = .ok (.if_icmp .ge 16, 3) := by decide +kernel
theorem dX11_cookedOf_8 : decode cX11_cookedOf 8 = .ok (.aload_n 0, 1) := by decide +kernel
theorem dX11_cookedOf_9 : decode cX11_cookedOf 9 = .ok (.getfield 50, 3) := by decide +kernel
theorem dX11_cookedOf_12 : decode cX11_cookedOf 12 = .ok (.iload_n 2, 1) := by decide +kernel
theorem dX11_cookedOf_13 : decode cX11_cookedOf 13 = .ok (.iconst 0, 1) := by decide +kernel
theorem dX11_cookedOf_14 : decode cX11_cookedOf 14 = .ok (.iastore, 1) := by decide +kernel
theorem dX11_cookedOf_15 : decode cX11_cookedOf 15 = .ok (.iinc 2 1, 3) := by decide +kernel
theorem dX11_cookedOf_18 : decode cX11_cookedOf 18 = .ok (.goto (-16), 3) := by decide +kernel
theorem dX11_cookedOf_21 : decode cX11_cookedOf 21 = .ok (.iconst 0, 1) := by decide +kernel
theorem dX11_cookedOf_22 : decode cX11_cookedOf 22 = .ok (.istore_n 2, 1) := by decide +kernel
theorem dX11_cookedOf_23 : decode cX11_cookedOf 23 = .ok (.iconst 0, 1) := by decide +kernel
theorem dX11_cookedOf_24 : decode cX11_cookedOf 24 = .ok (.istore_n 3, 1) := by decide +kernel
theorem dX11_cookedOf_25 : decode cX11_cookedOf 25 = .ok (.iload_n 3, 1) := by decide +kernel
theorem dX11_cookedOf_26 : decode cX11_cookedOf 26 = .ok (.aload_n 0, 1) := by decide +kernel
theorem dX11_cookedOf_27 : decode cX11_cookedOf 27 = .ok (.getfield 7, 3) := by decide +kernel
theorem dX11_cookedOf_30 : decode cX11_cookedOf 30 = .ok (.bipush 86, 2) := by decide +kernel
theorem dX11_cookedOf_32 : decode cX11_cookedOf 32 = .ok (.iaload, 1) := by decide +kernel
theorem dX11_cookedOf_33 : decode cX11_cookedOf 33 = .ok (.if_icmp .ge 99, 3) := by decide +kernel
theorem dX11_cookedOf_36 : decode cX11_cookedOf 36 = .ok (.iload_n 1, 1) := by decide +kernel
theorem dX11_cookedOf_37 : decode cX11_cookedOf 37 = .ok (.iload_n 3, 1) := by decide +kernel
theorem dX11_cookedOf_38 : decode cX11_cookedOf 38 = .ok (.ishr, 1) := by decide +kernel
theorem dX11_cookedOf_39 : decode cX11_cookedOf 39 = .ok (.iconst 1, 1) := by decide +kernel
theorem dX11_cookedOf_40 : decode cX11_cookedOf 40 = .ok (.iand, 1) := by decide +kernel
theorem dX11_cookedOf_41 : decode cX11_cookedOf 41 = .ok (.ifCond .ne 6, 3) := by decide +kernel
theorem dX11_cookedOf_44 : decode cX11_cookedOf 44 = .ok (.goto 82, 3) := by decide +kernel
theorem dX11_cookedOf_47 : decode cX11_cookedOf 47 = .ok (.sipush 187, 3) := by decide +kernel
theorem dX11_cookedOf_50 : decode cX11_cookedOf 50 = .ok (.bipush 10, 2) := by decide +kernel
theorem dX11_cookedOf_52 : decode cX11_cookedOf 52 = .ok (.iload_n 3, 1) := by decide +kernel
theorem dX11_cookedOf_53 : decode cX11_cookedOf 53 = .ok (.imul, 1) := by decide +kernel
theorem dX11_cookedOf_54 : decode cX11_cookedOf 54 = .ok (.iadd, 1) := by decide +kernel
theorem dX11_cookedOf_55 : decode cX11_cookedOf 55 = .ok (.istore 4, 2) := by decide +kernel
theorem dX11_cookedOf_57 : decode cX11_cookedOf 57 = .ok (.iload_n 2, 1) := by decide +kernel
theorem dX11_cookedOf_58 : decode cX11_cookedOf 58 = .ok (.aload_n 0, 1) := by decide +kernel
theorem dX11_cookedOf_59 : decode cX11_cookedOf 59 = .ok (.getfield 7, 3) := by decide +kernel
theorem dX11_cookedOf_62 : decode cX11_cookedOf 62 = .ok (.iload 4, 2) := by decide +kernel
theorem dX11_cookedOf_64 : decode cX11_cookedOf 64 = .ok (.iaload, 1) := by decide +kernel
theorem dX11_cookedOf_65 : decode cX11_cookedOf 65 = .ok (.iadd, 1) := by decide +kernel
theorem dX11_cookedOf_66 : decode cX11_cookedOf 66 = .ok (.istore_n 2, 1) := by decide +kernel
theorem dX11_cookedOf_67 : decode cX11_cookedOf 67 = .ok (.iconst 0, 1) := by decide +kernel
theorem dX11_cookedOf_68 : decode cX11_cookedOf 68 = .ok (.istore 5, 2) := by decide +kernel
theorem dX11_cookedOf_70 : decode cX11_cookedOf 70 = .ok (.iload 5, 2) := by decide +kernel
theorem dX11_cookedOf_72 : decode cX11_cookedOf 72 = .ok (.aload_n 0, 1) := by decide +kernel
theorem dX11_cookedOf_73 : decode cX11_cookedOf 73 = .ok (.getfield 7, 3) := by decide +kernel
theorem dX11_cookedOf_76 : decode cX11_cookedOf 76 = .ok (.iload 4, 2) := by decide +kernel
theorem dX11_cookedOf_78 : decode cX11_cookedOf 78 = .ok (.iconst 1, 1) := by decide +kernel
theorem dX11_cookedOf_79 : decode cX11_cookedOf 79 = .ok (.iadd, 1) := by decide +kernel
theorem dX11_cookedOf_80 : decode cX11_cookedOf 80 = .ok (.iaload, 1) := by decide +kernel
theorem dX11_cookedOf_81 : decode cX11_cookedOf 81 = .ok (.if_icmp .ge 45, 3) := by decide +kernel
theorem dX11_cookedOf_84 : decode cX11_cookedOf 84 = .ok (.aload_n 0, 1) := by decide +kernel
theorem dX11_cookedOf_85 : decode cX11_cookedOf 85 = .ok (.getfield 50, 3) := by decide +kernel
theorem dX11_cookedOf_88 : decode cX11_cookedOf 88 = .ok (.aload_n 0, 1) := by decide +kernel
theorem dX11_cookedOf_89 : decode cX11_cookedOf 89 = .ok (.getfield 7, 3) := by decide +kernel
theorem dX11_cookedOf_92 : decode cX11_cookedOf 92 = .ok (.iload 4, 2) := by decide +kernel
theorem dX11_cookedOf_94 : decode cX11_cookedOf 94 = .ok (.iconst 2, 1) := by decide +kernel
theorem dX11_cookedOf_95 : decode cX11_cookedOf 95 = .ok (.iadd, 1) := by decide +kernel
theorem dX11_cookedOf_96 : decode cX11_cookedOf 96 = .ok (.iconst 2, 1) := by decide +kernel
theorem dX11_cookedOf_97 : decode cX11_cookedOf 97 = .ok (.iload 5, 2) := by decide +kernel
theorem dX11_cookedOf_99 : decode cX11_cookedOf 99 = .ok (.imul, 1) := by decide +kernel
theorem dX11_cookedOf_100 : decode cX11_cookedOf 100 = .ok (.iadd, 1) := by decide +kernel
theorem dX11_cookedOf_101 : decode cX11_cookedOf 101 = .ok (.iaload, 1) := by decide +kernel
theorem dX11_cookedOf_102 : decode cX11_cookedOf 102 = .ok (.dup2, 1) := by decide +kernel
theorem dX11_cookedOf_103 : decode cX11_cookedOf 103 = .ok (.iaload, 1) := by decide +kernel
theorem dX11_cookedOf_104 : decode cX11_cookedOf 104 = .ok (.aload_n 0, 1) := by decide +kernel
theorem dX11_cookedOf_105 : decode cX11_cookedOf 105 = .ok (.getfield 7, 3) := by decide +kernel
theorem dX11_cookedOf_108 : decode cX11_cookedOf 108 = .ok (.iload 4, 2) := by decide +kernel
theorem dX11_cookedOf_110 : decode cX11_cookedOf 110 = .ok (.iconst 3, 1) := by decide +kernel
theorem dX11_cookedOf_111 : decode cX11_cookedOf 111 = .ok (.iadd, 1) := by decide +kernel
theorem dX11_cookedOf_112 : decode cX11_cookedOf 112 = .ok (.iconst 2, 1) := by decide +kernel
theorem dX11_cookedOf_113 : decode cX11_cookedOf 113 = .ok (.iload 5, 2) := by decide +kernel
theorem dX11_cookedOf_115 : decode cX11_cookedOf 115 = .ok (.imul, 1) := by decide +kernel
theorem dX11_cookedOf_116 : decode cX11_cookedOf 116 = .ok (.iadd, 1) := by decide +kernel
theorem dX11_cookedOf_117 : decode cX11_cookedOf 117 = .ok (.iaload, 1) := by decide +kernel
theorem dX11_cookedOf_118 : decode cX11_cookedOf 118 = .ok (.iadd, 1) := by decide +kernel
theorem dX11_cookedOf_119 : decode cX11_cookedOf 119 = .ok (.iastore, 1) := by decide +kernel
theorem dX11_cookedOf_120 : decode cX11_cookedOf 120 = .ok (.iinc 5 1, 3) := by decide +kernel
theorem dX11_cookedOf_123 : decode cX11_cookedOf 123 = .ok (.goto (-53), 3) := by decide +kernel
theorem dX11_cookedOf_126 : decode cX11_cookedOf 126 = .ok (.iinc 3 1, 3) := by decide +kernel
theorem dX11_cookedOf_129 : decode cX11_cookedOf 129 = .ok (.goto (-104), 3) := by decide +kernel
theorem dX11_cookedOf_132 : decode cX11_cookedOf 132 = .ok (.iconst 0, 1) := by decide +kernel
theorem dX11_cookedOf_133 : decode cX11_cookedOf 133 = .ok (.istore_n 3, 1) := by decide +kernel
theorem dX11_cookedOf_134 : decode cX11_cookedOf 134 = .ok (.iload_n 3, 1) := by decide +kernel
theorem dX11_cookedOf_135 : decode cX11_cookedOf 135 = .ok (.aload_n 0, 1) := by decide +kernel
theorem dX11_cookedOf_136 : decode cX11_cookedOf 136 = .ok (.getfield 7, 3) := by decide +kernel
theorem dX11_cookedOf_139 : decode cX11_cookedOf 139 = .ok (.bipush 80, 2) := by decide +kernel
theorem dX11_cookedOf_141 : decode cX11_cookedOf 141 = .ok (.iaload, 1) := by decide +kernel
theorem dX11_cookedOf_142 : decode cX11_cookedOf 142 = .ok (.if_icmp .ge 29, 3) := by decide +kernel
theorem dX11_cookedOf_145 : decode cX11_cookedOf 145 = .ok (.aload_n 0, 1) := by decide +kernel
theorem dX11_cookedOf_146 : decode cX11_cookedOf 146 = .ok (.getfield 50, 3) := by decide +kernel
theorem dX11_cookedOf_149 : decode cX11_cookedOf 149 = .ok (.iload_n 3, 1) := by decide +kernel
theorem dX11_cookedOf_150 : decode cX11_cookedOf 150 = .ok (.iaload, 1) := by decide +kernel
theorem dX11_cookedOf_151 : decode cX11_cookedOf 151 = .ok (.aload_n 0, 1) := by decide +kernel
theorem dX11_cookedOf_152 : decode cX11_cookedOf 152 = .ok (.aload_n 0, 1) := by decide +kernel
theorem dX11_cookedOf_153 : decode cX11_cookedOf 153 = .ok (.iload_n 3, 1) := by decide +kernel
theorem dX11_cookedOf_154 : decode cX11_cookedOf 154 = .ok (.invokevirtual 351, 3) := by decide +kernel
theorem dX11_cookedOf_157 : decode cX11_cookedOf 157 = .ok (.invokevirtual 348, 3) := by decide +kernel
theorem dX11_cookedOf_160 : decode cX11_cookedOf 160 = .ok (.if_icmp .le 5, 3) := by decide +kernel
theorem dX11_cookedOf_163 : decode cX11_cookedOf 163 = .ok (.iconst (-1), 1) := by decide +kernel
theorem dX11_cookedOf_164 : decode cX11_cookedOf 164 = .ok (.ireturn, 1) := by decide +kernel
theorem dX11_cookedOf_165 : decode cX11_cookedOf 165 = .ok (.iinc 3 1, 3) := by decide +kernel
theorem dX11_cookedOf_168 : decode cX11_cookedOf 168 = .ok (.goto (-34), 3) := by decide +kernel
theorem dX11_cookedOf_171 : decode cX11_cookedOf 171 = .ok (.iload_n 2, 1) := by decide +kernel
theorem dX11_cookedOf_172 : decode cX11_cookedOf 172 = .ok (.ireturn, 1) := by decide +kernel
theorem dX11_cooks_0 : decode cX11_cooks 0 = .ok (.iload_n 1, 1) := by decide +kernel
theorem dX11_cooks_1 : decode cX11_cooks 1 = .ok (.iconst 0, 1) := by decide +kernel
theorem dX11_cooks_2 : decode cX11_cooks 2 = .ok (.iconst 1, 1) := by decide +kernel
theorem dX11_cooks_3 : decode cX11_cooks 3 = .ok (.invokestatic 53, 3) := by decide +kernel
theorem dX11_cooks_6 : decode cX11_cooks 6 = .ok (.ifCond .ne 5, 3) := by decide +kernel
theorem dX11_cooks_9 : decode cX11_cooks 9 = .ok (.iconst (-1), 1) := by decide +kernel
theorem dX11_cooks_10 : decode cX11_cooks 10 = .ok (.ireturn, 1) := by decide +kernel
theorem dX11_cooks_11 : decode cX11_cooks 11 = .ok (.iconst 0, 1) := by decide +kernel
theorem dX11_cooks_12 : decode cX11_cooks 12 = .ok (.istore_n 2, 1) := by decide +kernel
theorem dX11_cooks_13 : decode cX11_cooks 13 = .ok (.iconst 0, 1) := by decide +kernel
theorem dX11_cooks_14 : decode cX11_cooks 14 = .ok (.istore_n 3, 1) := by decide +kernel
theorem dX11_cooks_15 : decode cX11_cooks 15 = .ok (.iconst 1, 1) := by decide +kernel
theorem dX11_cooks_16 : decode cX11_cooks 16 = .ok (.istore 4, 2) := by decide +kernel
theorem dX11_cooks_18 : decode cX11_cooks 18 = .ok (.iload 4, 2) := by decide +kernel
theorem dX11_cooks_20 : decode cX11_cooks 20 = .ok (.iconst 1, 1) := by decide +kernel
theorem dX11_cooks_21 : decode cX11_cooks 21 = .ok (.aload_n 0, 1) := by decide +kernel
theorem dX11_cooks_22 : decode cX11_cooks 22 = .ok (.getfield 7, 3) := by decide +kernel
theorem dX11_cooks_25 : decode cX11_cooks 25 = .ok (.bipush 86, 2) := by decide +kernel
theorem dX11_cooks_27 : decode cX11_cooks 27 = .ok (.iaload, 1) := by decide +kernel
theorem dX11_cooks_28 : decode cX11_cooks 28 = .ok (.ishl, 1) := by decide +kernel
theorem dX11_cooks_29 : decode cX11_cooks 29 = .ok (.if_icmp .ge 32, 3) := by decide +kernel
theorem dX11_cooks_32 : decode cX11_cooks 32 = .ok (.aload_n 0, 1) := by decide +kernel
theorem dX11_cooks_33 : decode cX11_cooks 33 = .ok (.iload 4, 2) := by decide +kernel
theorem dX11_cooks_35 : decode cX11_cooks 35 = .ok (.invokevirtual 430, 3) := by decide +kernel
theorem dX11_cooks_38 : decode cX11_cooks 38 = .ok (.istore 5, 2) := by decide +kernel
theorem dX11_cooks_40 : decode cX11_cooks 40 = .ok (.iload 5, 2) := by decide +kernel
theorem dX11_cooks_42 : decode cX11_cooks 42 = .ok (.iload_n 3, 1) := by decide +kernel
theorem dX11_cooks_43 : decode cX11_cooks 43 = .ok (.if_icmp .gt 6, 3) := by decide +kernel
theorem dX11_cooks_46 : decode cX11_cooks 46 = .ok (.goto 9, 3) := by decide +kernel
theorem dX11_cooks_49 : decode cX11_cooks 49 = .ok (.iload 5, 2) := by decide +kernel
theorem dX11_cooks_51 : decode cX11_cooks 51 = .ok (.istore_n 3, 1) := by decide +kernel
theorem dX11_cooks_52 : decode cX11_cooks 52 = .ok (.iload 4, 2) := by decide +kernel
theorem dX11_cooks_54 : decode cX11_cooks 54 = .ok (.istore_n 2, 1) := by decide +kernel
theorem dX11_cooks_55 : decode cX11_cooks 55 = .ok (.iinc 4 1, 3) := by decide +kernel
theorem dX11_cooks_58 : decode cX11_cooks 58 = .ok (.goto (-40), 3) := by decide +kernel
theorem dX11_cooks_61 : decode cX11_cooks 61 = .ok (.iload_n 1, 1) := by decide +kernel
theorem dX11_cooks_62 : decode cX11_cooks 62 = .ok (.ifCond .ne 7, 3) := by decide +kernel
theorem dX11_cooks_65 : decode cX11_cooks 65 = .ok (.iload_n 3, 1) := by decide +kernel
theorem dX11_cooks_66 : decode cX11_cooks 66 = .ok (.goto 4, 3) := by decide +kernel
theorem dX11_cooks_69 : decode cX11_cooks 69 = .ok (.iload_n 2, 1) := by decide +kernel
theorem dX11_cooks_70 : decode cX11_cooks 70 = .ok (.ireturn, 1) := by decide +kernel
theorem dX11_waits_0 : decode cX11_waits 0 = .ok (.aload_n 0, 1) := by decide +kernel
theorem dX11_waits_1 : decode cX11_waits 1 = .ok (.iload_n 1, 1) := by decide +kernel
theorem dX11_waits_2 : decode cX11_waits 2 = .ok (.invokevirtual 332, 3) := by decide +kernel
theorem dX11_waits_5 : decode cX11_waits 5 = .ok (.ifCond .eq 12, 3) := by decide +kernel
theorem dX11_waits_8 : decode cX11_waits 8 = .ok (.iload_n 2, 1) := by decide +kernel
theorem dX11_waits_9 : decode cX11_waits 9 = .ok (.iconst 0, 1) := by decide +kernel
theorem dX11_waits_10 : decode cX11_waits 10 = .ok (.iconst 1, 1) := by decide +kernel
theorem dX11_waits_11 : decode cX11_waits 11 = .ok (.invokestatic 53, 3) := by decide +kernel
theorem dX11_waits_14 : decode cX11_waits 14 = .ok (.ifCond .ne 5, 3) := by decide +kernel
theorem dX11_waits_17 : decode cX11_waits 17 = .ok (.iconst (-1), 1) := by decide +kernel
theorem dX11_waits_18 : decode cX11_waits 18 = .ok (.ireturn, 1) := by decide +kernel
theorem dX11_waits_19 : decode cX11_waits 19 = .ok (.iconst (-1), 1) := by decide +kernel
theorem dX11_waits_20 : decode cX11_waits 20 = .ok (.istore_n 3, 1) := by decide +kernel
theorem dX11_waits_21 : decode cX11_waits 21 = .ok (.iconst (-1), 1) := by decide +kernel
theorem dX11_waits_22 : decode cX11_waits 22 = .ok (.istore 4, 2) := by decide +kernel
theorem dX11_waits_24 : decode cX11_waits 24 = .ok (.iconst 0, 1) := by decide +kernel
theorem dX11_waits_25 : decode cX11_waits 25 = .ok (.istore 5, 2) := by decide +kernel
theorem dX11_waits_27 : decode cX11_waits 27 = .ok (.iload 5, 2) := by decide +kernel
theorem dX11_waits_29 : decode cX11_waits 29 = .ok (.bipush 30, 2) := by decide +kernel
theorem dX11_waits_31 : decode cX11_waits 31 = .ok (.if_icmp .gt 56, 3) := by decide +kernel
theorem dX11_waits_34 : decode cX11_waits 34 = .ok (.aload_n 0, 1) := by decide +kernel
theorem dX11_waits_35 : decode cX11_waits 35 = .ok (.iload_n 1, 1) := by decide +kernel
theorem dX11_waits_36 : decode cX11_waits 36 = .ok (.invokevirtual 303, 3) := by decide +kernel
theorem dX11_waits_39 : decode cX11_waits 39 = .ok (.iload 5, 2) := by decide +kernel
theorem dX11_waits_41 : decode cX11_waits 41 = .ok (.iadd, 1) := by decide +kernel
theorem dX11_waits_42 : decode cX11_waits 42 = .ok (.aload_n 0, 1) := by decide +kernel
theorem dX11_waits_43 : decode cX11_waits 43 = .ok (.aload_n 0, 1) := by decide +kernel
theorem dX11_waits_44 : decode cX11_waits 44 = .ok (.iload_n 1, 1) := by decide +kernel
theorem dX11_waits_45 : decode cX11_waits 45 = .ok (.iconst 0, 1) := by decide +kernel
theorem dX11_waits_46 : decode cX11_waits 46 = .ok (.invokevirtual 57, 3) := by decide +kernel
theorem dX11_waits_49 : decode cX11_waits 49 = .ok (.invokevirtual 367, 3) := by decide +kernel
theorem dX11_waits_52 : decode cX11_waits 52 = .ok (.if_icmp .ge 35, 3) := by decide +kernel
theorem dX11_waits_55 : decode cX11_waits 55 = .ok (.aload_n 0, 1) := by decide +kernel
theorem dX11_waits_56 : decode cX11_waits 56 = .ok (.iload_n 1, 1) := by decide +kernel
theorem dX11_waits_57 : decode cX11_waits 57 = .ok (.iload 5, 2) := by decide +kernel
theorem dX11_waits_59 : decode cX11_waits 59 = .ok (.invokevirtual 342, 3) := by decide +kernel
theorem dX11_waits_62 : decode cX11_waits 62 = .ok (.istore 6, 2) := by decide +kernel
theorem dX11_waits_64 : decode cX11_waits 64 = .ok (.iload 6, 2) := by decide +kernel
theorem dX11_waits_66 : decode cX11_waits 66 = .ok (.iload 4, 2) := by decide +kernel
theorem dX11_waits_68 : decode cX11_waits 68 = .ok (.if_icmp .gt 6, 3) := by decide +kernel
theorem dX11_waits_71 : decode cX11_waits 71 = .ok (.goto 10, 3) := by decide +kernel
theorem dX11_waits_74 : decode cX11_waits 74 = .ok (.iload 6, 2) := by decide +kernel
theorem dX11_waits_76 : decode cX11_waits 76 = .ok (.istore 4, 2) := by decide +kernel
theorem dX11_waits_78 : decode cX11_waits 78 = .ok (.iload 5, 2) := by decide +kernel
theorem dX11_waits_80 : decode cX11_waits 80 = .ok (.istore_n 3, 1) := by decide +kernel
theorem dX11_waits_81 : decode cX11_waits 81 = .ok (.iinc 5 1, 3) := by decide +kernel
theorem dX11_waits_84 : decode cX11_waits 84 = .ok (.goto (-57), 3) := by decide +kernel
theorem dX11_waits_87 : decode cX11_waits 87 = .ok (.iload_n 2, 1) := by decide +kernel
theorem dX11_waits_88 : decode cX11_waits 88 = .ok (.ifCond .ne 7, 3) := by decide +kernel
theorem dX11_waits_91 : decode cX11_waits 91 = .ok (.iload_n 3, 1) := by decide +kernel
theorem dX11_waits_92 : decode cX11_waits 92 = .ok (.goto 5, 3) := by decide +kernel
theorem dX11_waits_95 : decode cX11_waits 95 = .ok (.iload 4, 2) := by decide +kernel
theorem dX11_waits_97 : decode cX11_waits 97 = .ok (.ireturn, 1) := by decide +kernel
theorem dX11_limit_0 : decode cX11_limit 0 = .ok (.iload_n 1, 1) := by decide +kernel
theorem dX11_limit_1 : decode cX11_limit 1 = .ok (.iconst (-1), 1) := by decide +kernel
theorem dX11_limit_2 : decode cX11_limit 2 = .ok (.if_icmp .ne 13, 3) := by decide +kernel
theorem dX11_limit_5 : decode cX11_limit 5 = .ok (.aload_n 0, 1) := by decide +kernel
theorem dX11_limit_6 : decode cX11_limit 6 = .ok (.getfield 7, 3) := by decide +kernel
theorem dX11_limit_9 : decode cX11_limit 9 = .ok (.bipush 89, 2) := by decide +kernel
theorem dX11_limit_11 : decode cX11_limit 11 = .ok (.iconst 0, 1) := by decide +kernel
theorem dX11_limit_12 : decode cX11_limit 12 = .ok (.iastore, 1) := by decide +kernel
theorem dX11_limit_13 : decode cX11_limit 13 = .ok (.iconst 0, 1) := by decide +kernel
theorem dX11_limit_14 : decode cX11_limit 14 = .ok (.ireturn, 1) := by decide +kernel
theorem dX11_limit_15 : decode cX11_limit 15 = .ok (.iload_n 1, 1) := by decide +kernel
theorem dX11_limit_16 : decode cX11_limit 16 = .ok (.iconst 1, 1) := by decide +kernel
theorem dX11_limit_17 : decode cX11_limit 17 = .ok (.sipush 999, 3) := by decide +kernel
theorem dX11_limit_20 : decode cX11_limit 20 = .ok (.invokestatic 53, 3) := by decide +kernel
theorem dX11_limit_23 : decode cX11_limit 23 = .ok (.ifCond .eq 15, 3) := by decide +kernel
theorem dX11_limit_26 : decode cX11_limit 26 = .ok (.aload_n 0, 1) := by decide +kernel
theorem dX11_limit_27 : decode cX11_limit 27 = .ok (.getfield 7, 3) := by decide +kernel
theorem dX11_limit_30 : decode cX11_limit 30 = .ok (.bipush 89, 2) := by decide +kernel
theorem dX11_limit_32 : decode cX11_limit 32 = .ok (.iaload, 1) := by decide +kernel
theorem dX11_limit_33 : decode cX11_limit 33 = .ok (.bipush 6, 2) := by decide +kernel
theorem dX11_limit_35 : decode cX11_limit 35 = .ok (.if_icmp .ne 5, 3) := by decide +kernel
theorem dX11_limit_38 : decode cX11_limit 38 = .ok (.iconst (-1), 1) := by decide +kernel
theorem dX11_limit_39 : decode cX11_limit 39 = .ok (.ireturn, 1) := by decide +kernel
theorem dX11_limit_40 : decode cX11_limit 40 = .ok (.aload_n 0, 1) := by decide +kernel
theorem dX11_limit_41 : decode cX11_limit 41 = .ok (.getfield 7, 3) := by decide +kernel
theorem dX11_limit_44 : decode cX11_limit 44 = .ok (.sipush 331, 3) := by decide +kernel
theorem dX11_limit_47 : decode cX11_limit 47 = .ok (.aload_n 0, 1) := by decide +kernel
theorem dX11_limit_48 : decode cX11_limit 48 = .ok (.getfield 7, 3) := by decide +kernel
theorem dX11_limit_51 : decode cX11_limit 51 = .ok (.bipush 89, 2) := by decide +kernel
theorem dX11_limit_53 : decode cX11_limit 53 = .ok (.iaload, 1) := by decide +kernel
theorem dX11_limit_54 : decode cX11_limit 54 = .ok (.iadd, 1) := by decide +kernel
theorem dX11_limit_55 : decode cX11_limit 55 = .ok (.iload_n 1, 1) := by decide +kernel
theorem dX11_limit_56 : decode cX11_limit 56 = .ok (.iastore, 1) := by decide +kernel
theorem dX11_limit_57 : decode cX11_limit 57 = .ok (.aload_n 0, 1) := by decide +kernel
theorem dX11_limit_58 : decode cX11_limit 58 = .ok (.getfield 7, 3) := by decide +kernel
theorem dX11_limit_61 : decode cX11_limit 61 = .ok (.bipush 89, 2) := by decide +kernel
theorem dX11_limit_63 : decode cX11_limit 63 = .ok (.dup2, 1) := by decide +kernel
theorem dX11_limit_64 : decode cX11_limit 64 = .ok (.iaload, 1) := by decide +kernel
theorem dX11_limit_65 : decode cX11_limit 65 = .ok (.iconst 1, 1) := by decide +kernel
theorem dX11_limit_66 : decode cX11_limit 66 = .ok (.iadd, 1) := by decide +kernel
theorem dX11_limit_67 : decode cX11_limit 67 = .ok (.iastore, 1) := by decide +kernel
theorem dX11_limit_68 : decode cX11_limit 68 = .ok (.aload_n 0, 1) := by decide +kernel
theorem dX11_limit_69 : decode cX11_limit 69 = .ok (.getfield 7, 3) := by decide +kernel
theorem dX11_limit_72 : decode cX11_limit 72 = .ok (.bipush 89, 2) := by decide +kernel
theorem dX11_limit_74 : decode cX11_limit 74 = .ok (.iaload, 1) := by decide +kernel
theorem dX11_limit_75 : decode cX11_limit 75 = .ok (.ireturn, 1) := by decide +kernel
theorem dX11_takerAt_0 : decode cX11_takerAt 0 = .ok (.iconst 0, 1) := by decide +kernel
theorem dX11_takerAt_1 : decode cX11_takerAt 1 = .ok (.istore_n 2, 1) := by decide +kernel
theorem dX11_takerAt_2 : decode cX11_takerAt 2 = .ok (.iload_n 2, 1) := by decide +kernel
theorem dX11_takerAt_3 : decode cX11_takerAt 3 = .ok (.aload_n 0, 1) := by decide +kernel
theorem dX11_takerAt_4 : decode cX11_takerAt 4 = .ok (.getfield 7, 3) := by decide +kernel
theorem dX11_takerAt_7 : decode cX11_takerAt 7 = .ok (.bipush 89, 2) := by decide +kernel
theorem dX11_takerAt_9 : decode cX11_takerAt 9 = .ok (.iaload, 1) := by decide +kernel
theorem dX11_takerAt_10 : decode cX11_takerAt 10 = .ok (.if_icmp .ge 25, 3) := by decide +kernel
theorem dX11_takerAt_13 : decode cX11_takerAt 13 = .ok (.aload_n 0, 1) := by decide +kernel
theorem dX11_takerAt_14 : decode cX11_takerAt 14 = .ok (.getfield 7, 3) := by decide +kernel
theorem dX11_takerAt_17 : decode cX11_takerAt 17 = .ok (.sipush 331, 3) := by decide +kernel
theorem dX11_takerAt_20 : decode cX11_takerAt 20 = .ok (.iload_n 2, 1) := by decide +kernel
theorem dX11_takerAt_21 : decode cX11_takerAt 21 = .ok (.iadd, 1) := by decide +kernel
theorem dX11_takerAt_22 : decode cX11_takerAt 22 = .ok (.iaload, 1) := by decide +kernel
theorem dX11_takerAt_23 : decode cX11_takerAt 23 = .ok (.iload_n 1, 1) := by decide +kernel
theorem dX11_takerAt_24 : decode cX11_takerAt 24 = .ok (.if_icmp .lt 5, 3) := by decide +kernel
theorem dX11_takerAt_27 : decode cX11_takerAt 27 = .ok (.iload_n 2, 1) := by decide +kernel
theorem dX11_takerAt_28 : decode cX11_takerAt 28 = .ok (.ireturn, 1) := by decide +kernel
theorem dX11_takerAt_29 : decode cX11_takerAt 29 = .ok (.iinc 2 1, 3) := by decide +kernel
theorem dX11_takerAt_32 : decode cX11_takerAt 32 = .ok (.goto (-30), 3) := by decide +kernel
theorem dX11_takerAt_35 : decode cX11_takerAt 35 = .ok (.iconst (-1), 1) := by decide +kernel
theorem dX11_takerAt_36 : decode cX11_takerAt 36 = .ok (.ireturn, 1) := by decide +kernel
theorem dX11_dusk_0 : decode cX11_dusk 0 = .ok (.iload_n 1, 1) := by decide +kernel
theorem dX11_dusk_1 : decode cX11_dusk 1 = .ok (.iconst 1, 1) := by decide +kernel
theorem dX11_dusk_2 : decode cX11_dusk 2 = .ok (.sipush 999, 3) := by decide +kernel
theorem dX11_dusk_5 : decode cX11_dusk 5 = .ok (.invokestatic 53, 3) := by decide +kernel
theorem dX11_dusk_8 : decode cX11_dusk 8 = .ok (.ifCond .eq 22, 3) := by decide +kernel
theorem dX11_dusk_11 : decode cX11_dusk 11 = .ok (.iload_n 2, 1) := by decide +kernel
theorem dX11_dusk_12 : decode cX11_dusk 12 = .ok (.iconst 1, 1) := by decide +kernel
theorem dX11_dusk_13 : decode cX11_dusk 13 = .ok (.bipush 99, 2) := by decide +kernel
theorem dX11_dusk_15 : decode cX11_dusk 15 = .ok (.invokestatic 53, 3) := by decide +kernel
theorem dX11_dusk_18 : decode cX11_dusk 18 = .ok (.ifCond .eq 12, 3) := by decide +kernel
theorem dX11_dusk_21 : decode cX11_dusk 21 = .ok (.iload_n 3, 1) := by decide +kernel
theorem dX11_dusk_22 : decode cX11_dusk 22 = .ok (.iconst 0, 1) := by decide +kernel
theorem dX11_dusk_23 : decode cX11_dusk 23 = .ok (.iconst 1, 1) := by decide +kernel
theorem dX11_dusk_24 : decode cX11_dusk 24 = .ok (.invokestatic 53, 3) := by decide +kernel
theorem dX11_dusk_27 : decode cX11_dusk 27 = .ok (.ifCond .ne 5, 3) := by decide +kernel
theorem dX11_dusk_30 : decode cX11_dusk 30 = .ok (.iconst (-1), 1) := by decide +kernel
theorem dX11_dusk_31 : decode cX11_dusk 31 = .ok (.ireturn, 1) := by decide +kernel
theorem dX11_dusk_32 : decode cX11_dusk 32 = .ok (.iload_n 1, 1) := by decide +kernel
theorem dX11_dusk_33 : decode cX11_dusk 33 = .ok (.istore 4, 2) := by decide +kernel
theorem dX11_dusk_35 : decode cX11_dusk 35 = .ok (.iload 4, 2) := by decide +kernel
theorem dX11_dusk_37 : decode cX11_dusk 37 = .ok (.iconst 1, 1) := by decide +kernel
theorem dX11_dusk_38 : decode cX11_dusk 38 = .ok (.if_icmp .lt 38, 3) := by decide +kernel
theorem dX11_dusk_41 : decode cX11_dusk 41 = .ok (.aload_n 0, 1) := by decide +kernel
theorem dX11_dusk_42 : decode cX11_dusk 42 = .ok (.iload 4, 2) := by decide +kernel
theorem dX11_dusk_44 : decode cX11_dusk 44 = .ok (.invokevirtual 433, 3) := by decide +kernel
theorem dX11_dusk_47 : decode cX11_dusk 47 = .ok (.iconst (-1), 1) := by decide +kernel
theorem dX11_dusk_48 : decode cX11_dusk 48 = .ok (.if_icmp .eq 19, 3) := by decide +kernel
theorem dX11_dusk_51 : decode cX11_dusk 51 = .ok (.iload_n 3, 1) := by decide +kernel
theorem dX11_dusk_52 : decode cX11_dusk 52 = .ok (.ifCond .ne 12, 3) := by decide +kernel
theorem dX11_dusk_55 : decode cX11_dusk 55 = .ok (.aload_n 0, 1) := by decide +kernel
theorem dX11_dusk_56 : decode cX11_dusk 56 = .ok (.iload 4, 2) := by decide +kernel
theorem dX11_dusk_58 : decode cX11_dusk 58 = .ok (.invokevirtual 433, 3) := by decide +kernel
theorem dX11_dusk_61 : decode cX11_dusk 61 = .ok (.goto 5, 3) := by decide +kernel
theorem dX11_dusk_64 : decode cX11_dusk 64 = .ok (.iload 4, 2) := by decide +kernel
theorem dX11_dusk_66 : decode cX11_dusk 66 = .ok (.ireturn, 1) := by decide +kernel
theorem dX11_dusk_67 : decode cX11_dusk 67 = .ok (.iload 4, 2) := by decide +kernel
theorem dX11_dusk_69 : decode cX11_dusk 69 = .ok (.iload_n 2, 1) := by decide +kernel
theorem dX11_dusk_70 : decode cX11_dusk 70 = .ok (.isub, 1) := by decide +kernel
theorem dX11_dusk_71 : decode cX11_dusk 71 = .ok (.istore 4, 2) := by decide +kernel
theorem dX11_dusk_73 : decode cX11_dusk 73 = .ok (.goto (-38), 3) := by decide +kernel
theorem dX11_dusk_76 : decode cX11_dusk 76 = .ok (.iconst (-1), 1) := by decide +kernel
theorem dX11_dusk_77 : decode cX11_dusk 77 = .ok (.ireturn, 1) := by decide +kernel
theorem dX11_isOne_0 : decode cX11_isOne 0 = .ok (.iload_n 0, 1) := by decide +kernel
theorem dX11_isOne_1 : decode cX11_isOne 1 = .ok (.iconst 0, 1) := by decide +kernel
theorem dX11_isOne_2 : decode cX11_isOne 2 = .ok (.iconst 5, 1) := by decide +kernel
theorem dX11_isOne_3 : decode cX11_isOne 3 = .ok (.invokestatic 53, 3) := by decide +kernel
theorem dX11_isOne_6 : decode cX11_isOne 6 = .ok (.ireturn, 1) := by decide +kernel
theorem dX11_trade_0 : decode cX11_trade 0 = .ok (.iload_n 1, 1) := by decide +kernel
theorem dX11_trade_1 : decode cX11_trade 1 = .ok (.iconst (-1), 1) := by decide +kernel
theorem dX11_trade_2 : decode cX11_trade 2 = .ok (.if_icmp .ne 13, 3) := by decide +kernel
theorem dX11_trade_5 : decode cX11_trade 5 = .ok (.aload_n 0, 1) := by decide +kernel
theorem dX11_trade_6 : decode cX11_trade 6 = .ok (.getfield 7, 3) := by decide +kernel
theorem dX11_trade_9 : decode cX11_trade 9 = .ok (.bipush 90, 2) := by decide +kernel
theorem dX11_trade_11 : decode cX11_trade 11 = .ok (.iconst 0, 1) := by decide +kernel
theorem dX11_trade_12 : decode cX11_trade 12 = .ok (.iastore, 1) := by decide +kernel
theorem dX11_trade_13 : decode cX11_trade 13 = .ok (.iconst 0, 1) := by decide +kernel
theorem dX11_trade_14 : decode cX11_trade 14 = .ok (.ireturn, 1) := by decide +kernel
theorem dX11_trade_15 : decode cX11_trade 15 = .ok (.iload_n 1, 1) := by decide +kernel
theorem dX11_trade_16 : decode cX11_trade 16 = .ok (.invokestatic 436, 3) := by decide +kernel
theorem dX11_trade_19 : decode cX11_trade 19 = .ok (.ifCond .eq 48, 3) := by decide +kernel
theorem dX11_trade_22 : decode cX11_trade 22 = .ok (.iload_n 2, 1) := by decide +kernel
theorem dX11_trade_23 : decode cX11_trade 23 = .ok (.invokestatic 436, 3) := by decide +kernel
theorem dX11_trade_26 : decode cX11_trade 26 = .ok (.ifCond .eq 41, 3) := by decide +kernel
theorem dX11_trade_29 : decode cX11_trade 29 = .ok (.iload_n 1, 1) := by decide +kernel
theorem dX11_trade_30 : decode cX11_trade 30 = .ok (.iload_n 2, 1) := by decide +kernel
theorem dX11_trade_31 : decode cX11_trade 31 = .ok (.if_icmp .eq 36, 3) := by decide +kernel
theorem dX11_trade_34 : decode cX11_trade 34 = .ok (.iload_n 3, 1) := by decide +kernel
theorem dX11_trade_35 : decode cX11_trade 35 = .ok (.iconst 1, 1) := by decide +kernel
theorem dX11_trade_36 : decode cX11_trade 36 = .ok (.bipush 9, 2) := by decide +kernel
theorem dX11_trade_38 : decode cX11_trade 38 = .ok (.invokestatic 53, 3) := by decide +kernel
theorem dX11_trade_41 : decode cX11_trade 41 = .ok (.ifCond .eq 26, 3) := by decide +kernel
theorem dX11_trade_44 : decode cX11_trade 44 = .ok (.iload 4, 2) := by decide +kernel
theorem dX11_trade_46 : decode cX11_trade 46 = .ok (.iconst 1, 1) := by decide +kernel
theorem dX11_trade_47 : decode cX11_trade 47 = .ok (.bipush 9, 2) := by decide +kernel
theorem dX11_trade_49 : decode cX11_trade 49 = .ok (.invokestatic 53, 3) := by decide +kernel
theorem dX11_trade_52 : decode cX11_trade 52 = .ok (.ifCond .eq 15, 3) := by decide +kernel
theorem dX11_trade_55 : decode cX11_trade 55 = .ok (.aload_n 0, 1) := by decide +kernel
theorem dX11_trade_56 : decode cX11_trade 56 = .ok (.getfield 7, 3) := by decide +kernel
theorem dX11_trade_59 : decode cX11_trade 59 = .ok (.bipush 90, 2) := by decide +kernel
theorem dX11_trade_61 : decode cX11_trade 61 = .ok (.iaload, 1) := by decide +kernel
theorem dX11_trade_62 : decode cX11_trade 62 = .ok (.bipush 8, 2) := by decide +kernel
theorem dX11_trade_64 : decode cX11_trade 64 = .ok (.if_icmp .ne 5, 3) := by decide +kernel
theorem dX11_trade_67 : decode cX11_trade 67 = .ok (.iconst (-1), 1) := by decide +kernel
theorem dX11_trade_68 : decode cX11_trade 68 = .ok (.ireturn, 1) := by decide +kernel
theorem dX11_trade_69 : decode cX11_trade 69 = .ok (.sipush 337, 3) := by decide +kernel
theorem dX11_trade_72 : decode cX11_trade 72 = .ok (.iconst 4, 1) := by decide +kernel
theorem dX11_trade_73 : decode cX11_trade 73 = .ok (.aload_n 0, 1) := by decide +kernel
theorem dX11_trade_74 : decode cX11_trade 74 = .ok (.getfield 7, 3) := by decide +kernel
theorem dX11_trade_77 : decode cX11_trade 77 = .ok (.bipush 90, 2) := by decide +kernel
theorem dX11_trade_79 : decode cX11_trade 79 = .ok (.iaload, 1) := by decide +kernel
theorem dX11_trade_80 : decode cX11_trade 80 = .ok (.imul, 1) := by decide +kernel
theorem dX11_trade_81 : decode cX11_trade 81 = .ok (.iadd, 1) := by decide +kernel
theorem dX11_trade_82 : decode cX11_trade 82 = .ok (.istore 5, 2) := by decide +kernel
theorem dX11_trade_84 : decode cX11_trade 84 = .ok (.aload_n 0, 1) := by decide +kernel
theorem dX11_trade_85 : decode cX11_trade 85 = .ok (.getfield 7, 3) := by decide +kernel
theorem dX11_trade_88 : decode cX11_trade 88 = .ok (.iload 5, 2) := by decide +kernel
theorem dX11_trade_90 : decode cX11_trade 90 = .ok (.iload_n 1, 1) := by decide +kernel
theorem dX11_trade_91 : decode cX11_trade 91 = .ok (.iastore, 1) := by decide +kernel
theorem dX11_trade_92 : decode cX11_trade 92 = .ok (.aload_n 0, 1) := by decide +kernel
theorem dX11_trade_93 : decode cX11_trade 93 = .ok (.getfield 7, 3) := by decide +kernel
theorem dX11_trade_96 : decode cX11_trade 96 = .ok (.iload 5, 2) := by decide +kernel
theorem dX11_trade_98 : decode cX11_trade 98 = .ok (.iconst 1, 1) := by decide +kernel
theorem dX11_trade_99 : decode cX11_trade 99 = .ok (.iadd, 1) := by decide +kernel
theorem dX11_trade_100 : decode cX11_trade 100 = .ok (.iload_n 2, 1) := by decide +kernel
theorem dX11_trade_101 : decode cX11_trade 101 = .ok (.iastore, 1) := by decide +kernel
theorem dX11_trade_102 : decode cX11_trade 102 = .ok (.aload_n 0, 1) := by decide +kernel
theorem dX11_trade_103 : decode cX11_trade 103 = .ok (.getfield 7, 3) := by decide +kernel
theorem dX11_trade_106 : decode cX11_trade 106 = .ok (.iload 5, 2) := by decide +kernel
theorem dX11_trade_108 : decode cX11_trade 108 = .ok (.iconst 2, 1) := by decide +kernel
theorem dX11_trade_109 : decode cX11_trade 109 = .ok (.iadd, 1) := by decide +kernel
theorem dX11_trade_110 : decode cX11_trade 110 = .ok (.iload_n 3, 1) := by decide +kernel
theorem dX11_trade_111 : decode cX11_trade 111 = .ok (.iastore, 1) := by decide +kernel
theorem dX11_trade_112 : decode cX11_trade 112 = .ok (.aload_n 0, 1) := by decide +kernel
theorem dX11_trade_113 : decode cX11_trade 113 = .ok (.getfield 7, 3) := by decide +kernel
theorem dX11_trade_116 : decode cX11_trade 116 = .ok (.iload 5, 2) := by decide +kernel
theorem dX11_trade_118 : decode cX11_trade 118 = .ok (.iconst 3, 1) := by decide +kernel
theorem dX11_trade_119 : decode cX11_trade 119 = .ok (.iadd, 1) := by decide +kernel
theorem dX11_trade_120 : decode cX11_trade 120 = .ok (.iload 4, 2) := by decide +kernel
theorem dX11_trade_122 : decode cX11_trade 122 = .ok (.iastore, 1) := by decide +kernel
theorem dX11_trade_123 : decode cX11_trade 123 = .ok (.aload_n 0, 1) := by decide +kernel
theorem dX11_trade_124 : decode cX11_trade 124 = .ok (.getfield 7, 3) := by decide +kernel
theorem dX11_trade_127 : decode cX11_trade 127 = .ok (.bipush 90, 2) := by decide +kernel
theorem dX11_trade_129 : decode cX11_trade 129 = .ok (.dup2, 1) := by decide +kernel
theorem dX11_trade_130 : decode cX11_trade 130 = .ok (.iaload, 1) := by decide +kernel
theorem dX11_trade_131 : decode cX11_trade 131 = .ok (.iconst 1, 1) := by decide +kernel
theorem dX11_trade_132 : decode cX11_trade 132 = .ok (.iadd, 1) := by decide +kernel
theorem dX11_trade_133 : decode cX11_trade 133 = .ok (.iastore, 1) := by decide +kernel
theorem dX11_trade_134 : decode cX11_trade 134 = .ok (.aload_n 0, 1) := by decide +kernel
theorem dX11_trade_135 : decode cX11_trade 135 = .ok (.getfield 7, 3) := by decide +kernel
theorem dX11_trade_138 : decode cX11_trade 138 = .ok (.bipush 90, 2) := by decide +kernel
theorem dX11_trade_140 : decode cX11_trade 140 = .ok (.iaload, 1) := by decide +kernel
theorem dX11_trade_141 : decode cX11_trade 141 = .ok (.ireturn, 1) := by decide +kernel
theorem dX11_ring_0 : decode cX11_ring 0 = .ok (.iload_n 1, 1) := by decide +kernel
theorem dX11_ring_1 : decode cX11_ring 1 = .ok (.invokestatic 436, 3) := by decide +kernel
theorem dX11_ring_4 : decode cX11_ring 4 = .ok (.ifCond .eq 10, 3) := by decide +kernel
theorem dX11_ring_7 : decode cX11_ring 7 = .ok (.iload_n 2, 1) := by decide +kernel
theorem dX11_ring_8 : decode cX11_ring 8 = .ok (.invokestatic 436, 3) := by decide +kernel
theorem dX11_ring_11 : decode cX11_ring 11 = .ok (.ifCond .ne 5, 3) := by decide +kernel
theorem dX11_ring_14 : decode cX11_ring 14 = .ok (.iconst (-1), 1) := by decide +kernel
theorem dX11_ring_15 : decode cX11_ring 15 = .ok (.ireturn, 1) := by decide +kernel
theorem dX11_ring_16 : decode cX11_ring 16 = .ok (.iconst 1, 1) := by decide +kernel
theorem dX11_ring_17 : decode cX11_ring 17 = .ok (.iload_n 1, 1) := by decide +kernel
theorem dX11_ring_18 : decode cX11_ring 18 = .ok (.ishl, 1) := by decide +kernel
theorem dX11_ring_19 : decode cX11_ring 19 = .ok (.istore_n 3, 1) := by decide +kernel
theorem dX11_ring_20 : decode cX11_ring 20 = .ok (.iconst 0, 1) := by decide +kernel
theorem dX11_ring_21 : decode cX11_ring 21 = .ok (.istore 4, 2) := by decide +kernel
theorem dX11_ring_23 : decode cX11_ring 23 = .ok (.iload 4, 2) := by decide +kernel
theorem dX11_ring_25 : decode cX11_ring 25 = .ok (.bipush 6, 2) := by decide +kernel
theorem dX11_ring_27 : decode cX11_ring 27 = .ok (.if_icmp .ge 95, 3) := by decide +kernel
theorem dX11_ring_30 : decode cX11_ring 30 = .ok (.iload_n 3, 1) := by decide +kernel
theorem dX11_ring_31 : decode cX11_ring 31 = .ok (.iload_n 2, 1) := by decide +kernel
theorem dX11_ring_32 : decode cX11_ring 32 = .ok (.ishr, 1) := by decide +kernel
theorem dX11_ring_33 : decode cX11_ring 33 = .ok (.iconst 1, 1) := by decide +kernel
theorem dX11_ring_34 : decode cX11_ring 34 = .ok (.iand, 1) := by decide +kernel
theorem dX11_ring_35 : decode cX11_ring 35 = .ok (.iconst 1, 1) := by decide +kernel
theorem dX11_ring_36 : decode cX11_ring 36 = .ok (.if_icmp .ne 6, 3) := by decide +kernel
theorem dX11_ring_39 : decode cX11_ring 39 = .ok (.iload 4, 2) := by decide +kernel
theorem dX11_ring_41 : decode cX11_ring 41 = .ok (.ireturn, 1) := by decide +kernel
theorem dX11_ring_42 : decode cX11_ring 42 = .ok (.iload_n 3, 1) := by decide +kernel
theorem dX11_ring_43 : decode cX11_ring 43 = .ok (.istore 5, 2) := by decide +kernel
theorem dX11_ring_45 : decode cX11_ring 45 = .ok (.iconst 0, 1) := by decide +kernel
theorem dX11_ring_46 : decode cX11_ring 46 = .ok (.istore 6, 2) := by decide +kernel
theorem dX11_ring_48 : decode cX11_ring 48 = .ok (.iload 6, 2) := by decide +kernel
theorem dX11_ring_50 : decode cX11_ring 50 = .ok (.aload_n 0, 1) := by decide +kernel
theorem dX11_ring_51 : decode cX11_ring 51 = .ok (.getfield 7, 3) := by decide +kernel
theorem dX11_ring_54 : decode cX11_ring 54 = .ok (.bipush 90, 2) := by decide +kernel
theorem dX11_ring_56 : decode cX11_ring 56 = .ok (.iaload, 1) := by decide +kernel
theorem dX11_ring_57 : decode cX11_ring 57 = .ok (.if_icmp .ge 56, 3) := by decide +kernel
theorem dX11_ring_60 : decode cX11_ring 60 = .ok (.iload 5, 2) := by decide +kernel
theorem dX11_ring_62 : decode cX11_ring 62 = .ok (.iload_n 3, 1) := by decide +kernel
theorem dX11_ring_63 : decode cX11_ring 63 = .ok (.aload_n 0, 1) := by decide +kernel
theorem dX11_ring_64 : decode cX11_ring 64 = .ok (.getfield 7, 3) := by decide +kernel
theorem dX11_ring_67 : decode cX11_ring 67 = .ok (.sipush 337, 3) := by decide +kernel
theorem dX11_ring_70 : decode cX11_ring 70 = .ok (.iconst 4, 1) := by decide +kernel
theorem dX11_ring_71 : decode cX11_ring 71 = .ok (.iload 6, 2) := by decide +kernel
theorem dX11_ring_73 : decode cX11_ring 73 = .ok (.imul, 1) := by decide +kernel
theorem dX11_ring_74 : decode cX11_ring 74 = .ok (.iadd, 1) := by decide +kernel
theorem dX11_ring_75 : decode cX11_ring 75 = .ok (.iaload, 1) := by decide +kernel
theorem dX11_ring_76 : decode cX11_ring 76 = .ok (.ishr, 1) := by decide +kernel
theorem dX11_ring_77 : decode cX11_ring 77 = .ok (.iconst 1, 1) := by decide +kernel
theorem dX11_ring_78 : decode cX11_ring 78 = .ok (.iand, 1) := by decide +kernel
theorem dX11_ring_79 : decode cX11_ring 79 = .ok (.iconst 1, 1) := by decide +kernel
theorem dX11_ring_80 : decode cX11_ring 80 = .ok (.if_icmp .ne 23, 3) := by decide +kernel
theorem dX11_ring_83 : decode cX11_ring 83 = .ok (.iconst 1, 1) := by decide +kernel
theorem dX11_ring_84 : decode cX11_ring 84 = .ok (.aload_n 0, 1) := by decide +kernel
theorem dX11_ring_85 : decode cX11_ring 85 = .ok (.getfield 7, 3) := by decide +kernel
theorem dX11_ring_88 : decode cX11_ring 88 = .ok (.sipush 337, 3) := by decide +kernel
theorem dX11_ring_91 : decode cX11_ring 91 = .ok (.iconst 4, 1) := by decide +kernel
theorem dX11_ring_92 : decode cX11_ring 92 = .ok (.iload 6, 2) := by decide +kernel
theorem dX11_ring_94 : decode cX11_ring 94 = .ok (.imul, 1) := by decide +kernel
theorem dX11_ring_95 : decode cX11_ring 95 = .ok (.iadd, 1) := by decide +kernel
theorem dX11_ring_96 : decode cX11_ring 96 = .ok (.iconst 1, 1) := by decide +kernel
theorem dX11_ring_97 : decode cX11_ring 97 = .ok (.iadd, 1) := by decide +kernel
theorem dX11_ring_98 : decode cX11_ring 98 = .ok (.iaload, 1) := by decide +kernel
theorem dX11_ring_99 : decode cX11_ring 99 = .ok (.ishl, 1) := by decide +kernel
theorem dX11_ring_100 : decode cX11_ring 100 = .ok (.goto 4, 3) := by decide +kernel
theorem dX11_ring_103 : decode cX11_ring 103 = .ok (.iconst 0, 1) := by decide +kernel
theorem dX11_ring_104 : decode cX11_ring 104 = .ok (.ior, 1) := by decide +kernel
theorem dX11_ring_105 : decode cX11_ring 105 = .ok (.istore 5, 2) := by decide +kernel
theorem dX11_ring_107 : decode cX11_ring 107 = .ok (.iinc 6 1, 3) := by decide +kernel
theorem dX11_ring_110 : decode cX11_ring 110 = .ok (.goto (-62), 3) := by decide +kernel
theorem dX11_ring_113 : decode cX11_ring 113 = .ok (.iload 5, 2) := by decide +kernel
theorem dX11_ring_115 : decode cX11_ring 115 = .ok (.istore_n 3, 1) := by decide +kernel
theorem dX11_ring_116 : decode cX11_ring 116 = .ok (.iinc 4 1, 3) := by decide +kernel
theorem dX11_ring_119 : decode cX11_ring 119 = .ok (.goto (-96), 3) := by decide +kernel
theorem dX11_ring_122 : decode cX11_ring 122 = .ok (.iconst (-1), 1) := by decide +kernel
theorem dX11_ring_123 : decode cX11_ring 123 = .ok (.ireturn, 1) := by decide +kernel
theorem dX11_backFrom_0 : decode cX11_backFrom 0 = .ok (.iload_n 3, 1) := by decide +kernel
theorem dX11_backFrom_1 : decode cX11_backFrom 1 = .ok (.ifCond .eq 18, 3) := by decide +kernel
theorem dX11_backFrom_4 : decode cX11_backFrom 4 = .ok (.iload_n 1, 1) := by decide +kernel
theorem dX11_backFrom_5 : decode cX11_backFrom 5 = .ok (.iload_n 2, 1) := by decide +kernel
theorem dX11_backFrom_6 : decode cX11_backFrom 6 = .ok (.if_icmp .ne 13, 3) := by decide +kernel
theorem dX11_backFrom_9 : decode cX11_backFrom 9 = .ok (.lload 6, 2) := by decide +kernel
theorem dX11_backFrom_11 : decode cX11_backFrom 11 = .ok (.lload 4, 2) := by decide +kernel
theorem dX11_backFrom_13 : decode cX11_backFrom 13 = .ok (.lcmp, 1) := by decide +kernel
theorem dX11_backFrom_14 : decode cX11_backFrom 14 = .ok (.ifCond .le 5, 3) := by decide +kernel
theorem dX11_backFrom_17 : decode cX11_backFrom 17 = .ok (.iconst 0, 1) := by decide +kernel
theorem dX11_backFrom_18 : decode cX11_backFrom 18 = .ok (.ireturn, 1) := by decide +kernel
theorem dX11_backFrom_19 : decode cX11_backFrom 19 = .ok (.ldc_w 407, 3) := by decide +kernel
theorem dX11_backFrom_22 : decode cX11_backFrom 22 = .ok (.istore 8, 2) := by decide +kernel
theorem dX11_backFrom_24 : decode cX11_backFrom 24 = .ok (.iconst 0, 1) := by decide +kernel
theorem dX11_backFrom_25 : decode cX11_backFrom 25 = .ok (.istore 9, 2) := by decide +kernel
theorem dX11_backFrom_27 : decode cX11_backFrom 27 = .ok (.iload 9, 2) := by decide +kernel
theorem dX11_backFrom_29 : decode cX11_backFrom 29 = .ok (.aload_n 0, 1) := by decide +kernel
theorem dX11_backFrom_30 : decode cX11_backFrom 30 = .ok (.getfield 7, 3) := by decide +kernel
theorem dX11_backFrom_33 : decode cX11_backFrom 33 = .ok (.bipush 90, 2) := by decide +kernel
theorem dX11_backFrom_35 : decode cX11_backFrom 35 = .ok (.iaload, 1) := by decide +kernel
theorem dX11_backFrom_36 : decode cX11_backFrom 36 = .ok (.if_icmp .ge 94, 3) := by decide +kernel
theorem dX11_backFrom_39 : decode cX11_backFrom 39 = .ok (.sipush 337, 3) := by decide +kernel
theorem dX11_backFrom_42 : decode cX11_backFrom 42 = .ok (.iconst 4, 1) := by decide +kernel
theorem dX11_backFrom_43 : decode cX11_backFrom 43 = .ok (.iload 9, 2) := by decide +kernel
theorem dX11_backFrom_45 : decode cX11_backFrom 45 = .ok (.imul, 1) := by decide +kernel
theorem dX11_backFrom_46 : decode cX11_backFrom 46 = .ok (.iadd, 1) := by decide +kernel
theorem dX11_backFrom_47 : decode cX11_backFrom 47 = .ok (.istore 10, 2) := by decide +kernel
theorem dX11_backFrom_49 : decode cX11_backFrom 49 = .ok (.iload_n 3, 1) := by decide +kernel
theorem dX11_backFrom_50 : decode cX11_backFrom 50 = .ok (.iload 9, 2) := by decide +kernel
theorem dX11_backFrom_52 : decode cX11_backFrom 52 = .ok (.ishr, 1) := by decide +kernel
theorem dX11_backFrom_53 : decode cX11_backFrom 53 = .ok (.iconst 1, 1) := by decide +kernel
theorem dX11_backFrom_54 : decode cX11_backFrom 54 = .ok (.iand, 1) := by decide +kernel
theorem dX11_backFrom_55 : decode cX11_backFrom 55 = .ok (.ifCond .ne 69, 3) := by decide +kernel
theorem dX11_backFrom_58 : decode cX11_backFrom 58 = .ok (.aload_n 0, 1) := by decide +kernel
theorem dX11_backFrom_59 : decode cX11_backFrom 59 = .ok (.getfield 7, 3) := by decide +kernel
theorem dX11_backFrom_62 : decode cX11_backFrom 62 = .ok (.iload 10, 2) := by decide +kernel
theorem dX11_backFrom_64 : decode cX11_backFrom 64 = .ok (.iaload, 1) := by decide +kernel
theorem dX11_backFrom_65 : decode cX11_backFrom 65 = .ok (.iload_n 1, 1) := by decide +kernel
theorem dX11_backFrom_66 : decode cX11_backFrom 66 = .ok (.if_icmp .ne 58, 3) := by decide +kernel
theorem dX11_backFrom_69 : decode cX11_backFrom 69 = .ok (.iload 8, 2) := by decide +kernel
theorem dX11_backFrom_71 : decode cX11_backFrom 71 = .ok (.iconst 1, 1) := by decide +kernel
theorem dX11_backFrom_72 : decode cX11_backFrom 72 = .ok (.aload_n 0, 1) := by decide +kernel
theorem dX11_backFrom_73 : decode cX11_backFrom 73 = .ok (.aload_n 0, 1) := by decide +kernel
theorem dX11_backFrom_74 : decode cX11_backFrom 74 = .ok (.getfield 7, 3) := by decide +kernel
theorem dX11_backFrom_77 : decode cX11_backFrom 77 = .ok (.iload 10, 2) := by decide +kernel
theorem dX11_backFrom_79 : decode cX11_backFrom 79 = .ok (.iconst 1, 1) := by decide +kernel
theorem dX11_backFrom_80 : decode cX11_backFrom 80 = .ok (.iadd, 1) := by decide +kernel
theorem dX11_backFrom_81 : decode cX11_backFrom 81 = .ok (.iaload, 1) := by decide +kernel
theorem dX11_backFrom_82 : decode cX11_backFrom 82 = .ok (.iload_n 2, 1) := by decide +kernel
theorem dX11_backFrom_83 : decode cX11_backFrom 83 = .ok (.iload_n 3, 1) := by decide +kernel
theorem dX11_backFrom_84 : decode cX11_backFrom 84 = .ok (.iconst 1, 1) := by decide +kernel
theorem dX11_backFrom_85 : decode cX11_backFrom 85 = .ok (.iload 9, 2) := by decide +kernel
theorem dX11_backFrom_87 : decode cX11_backFrom 87 = .ok (.ishl, 1) := by decide +kernel
theorem dX11_backFrom_88 : decode cX11_backFrom 88 = .ok (.ior, 1) := by decide +kernel
theorem dX11_backFrom_89 : decode cX11_backFrom 89 = .ok (.lload 4, 2) := by decide +kernel
theorem dX11_backFrom_91 : decode cX11_backFrom 91 = .ok (.aload_n 0, 1) := by decide +kernel
theorem dX11_backFrom_92 : decode cX11_backFrom 92 = .ok (.getfield 7, 3) := by decide +kernel
theorem dX11_backFrom_95 : decode cX11_backFrom 95 = .ok (.iload 10, 2) := by decide +kernel
theorem dX11_backFrom_97 : decode cX11_backFrom 97 = .ok (.iconst 2, 1) := by decide +kernel
theorem dX11_backFrom_98 : decode cX11_backFrom 98 = .ok (.iadd, 1) := by decide +kernel
theorem dX11_backFrom_99 : decode cX11_backFrom 99 = .ok (.iaload, 1) := by decide +kernel
theorem dX11_backFrom_100 : decode cX11_backFrom 100 = .ok (.i2l, 1) := by decide +kernel
theorem dX11_backFrom_101 : decode cX11_backFrom 101 = .ok (.lmul, 1) := by decide +kernel
theorem dX11_backFrom_102 : decode cX11_backFrom 102 = .ok (.lload 6, 2) := by decide +kernel
theorem dX11_backFrom_104 : decode cX11_backFrom 104 = .ok (.aload_n 0, 1) := by decide +kernel
theorem dX11_backFrom_105 : decode cX11_backFrom 105 = .ok (.getfield 7, 3) := by decide +kernel
theorem dX11_backFrom_108 : decode cX11_backFrom 108 = .ok (.iload 10, 2) := by decide +kernel
theorem dX11_backFrom_110 : decode cX11_backFrom 110 = .ok (.iconst 3, 1) := by decide +kernel
theorem dX11_backFrom_111 : decode cX11_backFrom 111 = .ok (.iadd, 1) := by decide +kernel
theorem dX11_backFrom_112 : decode cX11_backFrom 112 = .ok (.iaload, 1) := by decide +kernel
theorem dX11_backFrom_113 : decode cX11_backFrom 113 = .ok (.i2l, 1) := by decide +kernel
theorem dX11_backFrom_114 : decode cX11_backFrom 114 = .ok (.lmul, 1) := by decide +kernel
theorem dX11_backFrom_115 : decode cX11_backFrom 115 = .ok (.invokevirtual 439, 3) := by decide +kernel
theorem dX11_backFrom_118 : decode cX11_backFrom 118 = .ok (.iadd, 1) := by decide +kernel
theorem dX11_backFrom_119 : decode cX11_backFrom 119 = .ok (.invokestatic 288, 3) := by decide +kernel
theorem dX11_backFrom_122 : decode cX11_backFrom 122 = .ok (.istore 8, 2) := by decide +kernel
theorem dX11_backFrom_124 : decode cX11_backFrom 124 = .ok (.iinc 9 1, 3) := by decide +kernel
theorem dX11_backFrom_127 : decode cX11_backFrom 127 = .ok (.goto (-100), 3) := by decide +kernel
theorem dX11_backFrom_130 : decode cX11_backFrom 130 = .ok (.iload 8, 2) := by decide +kernel
theorem dX11_backFrom_132 : decode cX11_backFrom 132 = .ok (.ireturn, 1) := by decide +kernel
theorem dX11_back_0 : decode cX11_back 0 = .ok (.iload_n 1, 1) := by decide +kernel
theorem dX11_back_1 : decode cX11_back 1 = .ok (.invokestatic 436, 3) := by decide +kernel
theorem dX11_back_4 : decode cX11_back 4 = .ok (.ifCond .ne 5, 3) := by decide +kernel
theorem dX11_back_7 : decode cX11_back 7 = .ok (.iconst (-1), 1) := by decide +kernel
theorem dX11_back_8 : decode cX11_back 8 = .ok (.ireturn, 1) := by decide +kernel
theorem dX11_back_9 : decode cX11_back 9 = .ok (.aload_n 0, 1) := by decide +kernel
theorem dX11_back_10 : decode cX11_back 10 = .ok (.iload_n 1, 1) := by decide +kernel
theorem dX11_back_11 : decode cX11_back 11 = .ok (.iload_n 1, 1) := by decide +kernel
theorem dX11_back_12 : decode cX11_back 12 = .ok (.iconst 0, 1) := by decide +kernel
theorem dX11_back_13 : decode cX11_back 13 = .ok (.lconst 1, 1) := by decide +kernel
theorem dX11_back_14 : decode cX11_back 14 = .ok (.lconst 1, 1) := by decide +kernel
theorem dX11_back_15 : decode cX11_back 15 = .ok (.invokevirtual 439, 3) := by decide +kernel
theorem dX11_back_18 : decode cX11_back 18 = .ok (.istore_n 2, 1) := by decide +kernel
theorem dX11_back_19 : decode cX11_back 19 = .ok (.iload_n 2, 1) := by decide +kernel
theorem dX11_back_20 : decode cX11_back 20 = .ok (.ldc_w 407, 3) := by decide +kernel
theorem dX11_back_23 : decode cX11_back 23 = .ok (.if_icmp .lt 7, 3) := by decide +kernel
theorem dX11_back_26 : decode cX11_back 26 = .ok (.iconst (-1), 1) := by decide +kernel
theorem dX11_back_27 : decode cX11_back 27 = .ok (.goto 4, 3) := by decide +kernel
theorem dX11_back_30 : decode cX11_back 30 = .ok (.iload_n 2, 1) := by decide +kernel
theorem dX11_back_31 : decode cX11_back 31 = .ok (.ireturn, 1) := by decide +kernel
theorem dX11_image_0 : decode cX11_image 0 = .ok (.iload_n 1, 1) := by decide +kernel
theorem dX11_image_1 : decode cX11_image 1 = .ok (.ifCond .ne 12, 3) := by decide +kernel
theorem dX11_image_4 : decode cX11_image 4 = .ok (.aload_n 0, 1) := by decide +kernel
theorem dX11_image_5 : decode cX11_image 5 = .ok (.getfield 443, 3) := by decide +kernel
theorem dX11_image_8 : decode cX11_image 8 = .ok (.ifCond .ne 5, 3) := by decide +kernel
theorem dX11_image_11 : decode cX11_image 11 = .ok (.iconst 0, 1) := by decide +kernel
theorem dX11_image_12 : decode cX11_image 12 = .ok (.ireturn, 1) := by decide +kernel
theorem dX11_image_13 : decode cX11_image 13 = .ok (.iconst 0, 1) := by decide +kernel
theorem dX11_image_14 : decode cX11_image 14 = .ok (.istore_n 2, 1) := by decide +kernel
theorem dX11_image_15 : decode cX11_image 15 = .ok (.iload_n 2, 1) := by decide +kernel
theorem dX11_image_16 : decode cX11_image 16 = .ok (.sipush 1856, 3) := by decide +kernel
theorem dX11_image_19 : decode cX11_image 19 = .ok (.if_icmp .ge 40, 3) := by decide +kernel
theorem dX11_image_22 : decode cX11_image 22 = .ok (.iload_n 1, 1) := by decide +kernel
theorem dX11_image_23 : decode cX11_image 23 = .ok (.ifCond .eq 18, 3) := by decide +kernel
theorem dX11_image_26 : decode cX11_image 26 = .ok (.aload_n 0, 1) := by decide +kernel
theorem dX11_image_27 : decode cX11_image 27 = .ok (.getfield 13, 3) := by decide +kernel
theorem dX11_image_30 : decode cX11_image 30 = .ok (.iload_n 2, 1) := by decide +kernel
theorem dX11_image_31 : decode cX11_image 31 = .ok (.aload_n 0, 1) := by decide +kernel
theorem dX11_image_32 : decode cX11_image 32 = .ok (.getfield 7, 3) := by decide +kernel
theorem dX11_image_35 : decode cX11_image 35 = .ok (.iload_n 2, 1) := by decide +kernel
theorem dX11_image_36 : decode cX11_image 36 = .ok (.iaload, 1) := by decide +kernel
theorem dX11_image_37 : decode cX11_image 37 = .ok (.iastore, 1) := by decide +kernel
theorem dX11_image_38 : decode cX11_image 38 = .ok (.goto 15, 3) := by decide +kernel
theorem dX11_image_41 : decode cX11_image 41 = .ok (.aload_n 0, 1) := by decide +kernel
theorem dX11_image_42 : decode cX11_image 42 = .ok (.getfield 7, 3) := by decide +kernel
theorem dX11_image_45 : decode cX11_image 45 = .ok (.iload_n 2, 1) := by decide +kernel
theorem dX11_image_46 : decode cX11_image 46 = .ok (.aload_n 0, 1) := by decide +kernel
theorem dX11_image_47 : decode cX11_image 47 = .ok (.getfield 13, 3) := by decide +kernel
theorem dX11_image_50 : decode cX11_image 50 = .ok (.iload_n 2, 1) := by decide +kernel
theorem dX11_image_51 : decode cX11_image 51 = .ok (.iaload, 1) := by decide +kernel
theorem dX11_image_52 : decode cX11_image 52 = .ok (.iastore, 1) := by decide +kernel
theorem dX11_image_53 : decode cX11_image 53 = .ok (.iinc 2 1, 3) := by decide +kernel
theorem dX11_image_56 : decode cX11_image 56 = .ok (.goto (-41), 3) := by decide +kernel
theorem dX11_image_59 : decode cX11_image 59 = .ok (.iload_n 1, 1) := by decide +kernel
theorem dX11_image_60 : decode cX11_image 60 = .ok (.ifCond .ne 7, 3) := by decide +kernel
theorem dX11_image_63 : decode cX11_image 63 = .ok (.aload_n 0, 1) := by decide +kernel
theorem dX11_image_64 : decode cX11_image 64 = .ok (.invokevirtual 64, 3) := by decide +kernel
theorem dX11_image_67 : decode cX11_image 67 = .ok (.aload_n 0, 1) := by decide +kernel
theorem dX11_image_68 : decode cX11_image 68 = .ok (.iconst 1, 1) := by decide +kernel
theorem dX11_image_69 : decode cX11_image 69 = .ok (.putfield 443, 3) := by decide +kernel
theorem dX11_image_72 : decode cX11_image 72 = .ok (.iconst 1, 1) := by decide +kernel
theorem dX11_image_73 : decode cX11_image 73 = .ok (.ireturn, 1) := by decide +kernel
theorem dX11_look_0 : decode cX11_look 0 = .ok (.iload_n 1, 1) := by decide +kernel
theorem dX11_look_1 : decode cX11_look 1 = .ok (.tableswitch 234 0 18 #[91, 99, 106, 114, 121, 128, 135, 143, 151, 158, 165, 173, 181, 189, 197, 202, 210, 218, 226], 91) := by decide +kernel
theorem dX11_look_92 : decode cX11_look 92 = .ok (.aload_n 0, 1) := by decide +kernel
theorem dX11_look_93 : decode cX11_look 93 = .ok (.getfield 7, 3) := by decide +kernel
theorem dX11_look_96 : decode cX11_look 96 = .ok (.bipush 80, 2) := by decide +kernel
theorem dX11_look_98 : decode cX11_look 98 = .ok (.iaload, 1) := by decide +kernel
theorem dX11_look_99 : decode cX11_look 99 = .ok (.ireturn, 1) := by decide +kernel
theorem dX11_look_100 : decode cX11_look 100 = .ok (.aload_n 0, 1) := by decide +kernel
theorem dX11_look_101 : decode cX11_look 101 = .ok (.getfield 7, 3) := by decide +kernel
theorem dX11_look_104 : decode cX11_look 104 = .ok (.iconst 0, 1) := by decide +kernel
theorem dX11_look_105 : decode cX11_look 105 = .ok (.iaload, 1) := by decide +kernel
theorem dX11_look_106 : decode cX11_look 106 = .ok (.ireturn, 1) := by decide +kernel
theorem dX11_look_107 : decode cX11_look 107 = .ok (.aload_n 0, 1) := by decide +kernel
theorem dX11_look_108 : decode cX11_look 108 = .ok (.getfield 7, 3) := by decide +kernel
theorem dX11_look_111 : decode cX11_look 111 = .ok (.bipush 7, 2) := by decide +kernel
theorem dX11_look_113 : decode cX11_look 113 = .ok (.iaload, 1) := by decide +kernel
theorem dX11_look_114 : decode cX11_look 114 = .ok (.ireturn, 1) := by decide +kernel
theorem dX11_look_115 : decode cX11_look 115 = .ok (.aload_n 0, 1) := by decide +kernel
theorem dX11_look_116 : decode cX11_look 116 = .ok (.getfield 7, 3) := by decide +kernel
theorem dX11_look_119 : decode cX11_look 119 = .ok (.iconst 1, 1) := by decide +kernel
theorem dX11_look_120 : decode cX11_look 120 = .ok (.iaload, 1) := by decide +kernel
theorem dX11_look_121 : decode cX11_look 121 = .ok (.ireturn, 1) := by decide +kernel
theorem dX11_look_122 : decode cX11_look 122 = .ok (.aload_n 0, 1) := by decide +kernel
theorem dX11_look_123 : decode cX11_look 123 = .ok (.getfield 7, 3) := by decide +kernel
theorem dX11_look_126 : decode cX11_look 126 = .ok (.iconst 2, 1) := by decide +kernel
theorem dX11_look_127 : decode cX11_look 127 = .ok (.iaload, 1) := by decide +kernel
theorem dX11_look_128 : decode cX11_look 128 = .ok (.ireturn, 1) := by decide +kernel
theorem dX11_look_129 : decode cX11_look 129 = .ok (.aload_n 0, 1) := by decide +kernel
theorem dX11_look_130 : decode cX11_look 130 = .ok (.getfield 7, 3) := by decide +kernel
theorem dX11_look_133 : decode cX11_look 133 = .ok (.iconst 3, 1) := by decide +kernel
theorem dX11_look_134 : decode cX11_look 134 = .ok (.iaload, 1) := by decide +kernel
theorem dX11_look_135 : decode cX11_look 135 = .ok (.ireturn, 1) := by decide +kernel
theorem dX11_look_136 : decode cX11_look 136 = .ok (.aload_n 0, 1) := by decide +kernel
theorem dX11_look_137 : decode cX11_look 137 = .ok (.getfield 7, 3) := by decide +kernel
theorem dX11_look_140 : decode cX11_look 140 = .ok (.bipush 81, 2) := by decide +kernel
theorem dX11_look_142 : decode cX11_look 142 = .ok (.iaload, 1) := by decide +kernel
theorem dX11_look_143 : decode cX11_look 143 = .ok (.ireturn, 1) := by decide +kernel
theorem dX11_look_144 : decode cX11_look 144 = .ok (.aload_n 0, 1) := by decide +kernel
theorem dX11_look_145 : decode cX11_look 145 = .ok (.getfield 7, 3) := by decide +kernel
theorem dX11_look_148 : decode cX11_look 148 = .ok (.bipush 82, 2) := by decide +kernel
theorem dX11_look_150 : decode cX11_look 150 = .ok (.iaload, 1) := by decide +kernel
theorem dX11_look_151 : decode cX11_look 151 = .ok (.ireturn, 1) := by decide +kernel
theorem dX11_look_152 : decode cX11_look 152 = .ok (.aload_n 0, 1) := by decide +kernel
theorem dX11_look_153 : decode cX11_look 153 = .ok (.getfield 7, 3) := by decide +kernel
theorem dX11_look_156 : decode cX11_look 156 = .ok (.iconst 5, 1) := by decide +kernel
theorem dX11_look_157 : decode cX11_look 157 = .ok (.iaload, 1) := by decide +kernel
theorem dX11_look_158 : decode cX11_look 158 = .ok (.ireturn, 1) := by decide +kernel
theorem dX11_look_159 : decode cX11_look 159 = .ok (.aload_n 0, 1) := by decide +kernel
theorem dX11_look_160 : decode cX11_look 160 = .ok (.getfield 7, 3) := by decide +kernel
theorem dX11_look_163 : decode cX11_look 163 = .ok (.iconst 4, 1) := by decide +kernel
theorem dX11_look_164 : decode cX11_look 164 = .ok (.iaload, 1) := by decide +kernel
theorem dX11_look_165 : decode cX11_look 165 = .ok (.ireturn, 1) := by decide +kernel
theorem dX11_look_166 : decode cX11_look 166 = .ok (.aload_n 0, 1) := by decide +kernel
theorem dX11_look_167 : decode cX11_look 167 = .ok (.getfield 7, 3) := by decide +kernel
theorem dX11_look_170 : decode cX11_look 170 = .ok (.bipush 83, 2) := by decide +kernel
theorem dX11_look_172 : decode cX11_look 172 = .ok (.iaload, 1) := by decide +kernel
theorem dX11_look_173 : decode cX11_look 173 = .ok (.ireturn, 1) := by decide +kernel
theorem dX11_look_174 : decode cX11_look 174 = .ok (.aload_n 0, 1) := by decide +kernel
theorem dX11_look_175 : decode cX11_look 175 = .ok (.getfield 7, 3) := by decide +kernel
theorem dX11_look_178 : decode cX11_look 178 = .ok (.bipush 84, 2) := by decide +kernel
theorem dX11_look_180 : decode cX11_look 180 = .ok (.iaload, 1) := by decide +kernel
theorem dX11_look_181 : decode cX11_look 181 = .ok (.ireturn, 1) := by decide +kernel
theorem dX11_look_182 : decode cX11_look 182 = .ok (.aload_n 0, 1) := by decide +kernel
theorem dX11_look_183 : decode cX11_look 183 = .ok (.getfield 7, 3) := by decide +kernel
theorem dX11_look_186 : decode cX11_look 186 = .ok (.bipush 85, 2) := by decide +kernel
theorem dX11_look_188 : decode cX11_look 188 = .ok (.iaload, 1) := by decide +kernel
theorem dX11_look_189 : decode cX11_look 189 = .ok (.ireturn, 1) := by decide +kernel
theorem dX11_look_190 : decode cX11_look 190 = .ok (.aload_n 0, 1) := by decide +kernel
theorem dX11_look_191 : decode cX11_look 191 = .ok (.getfield 7, 3) := by decide +kernel
theorem dX11_look_194 : decode cX11_look 194 = .ok (.bipush 86, 2) := by decide +kernel
theorem dX11_look_196 : decode cX11_look 196 = .ok (.iaload, 1) := by decide +kernel
theorem dX11_look_197 : decode cX11_look 197 = .ok (.ireturn, 1) := by decide +kernel
theorem dX11_look_198 : decode cX11_look 198 = .ok (.aload_n 0, 1) := by decide +kernel
theorem dX11_look_199 : decode cX11_look 199 = .ok (.getfield 61, 3) := by decide +kernel
theorem dX11_look_202 : decode cX11_look 202 = .ok (.ireturn, 1) := by decide +kernel
theorem dX11_look_203 : decode cX11_look 203 = .ok (.aload_n 0, 1) := by decide +kernel
theorem dX11_look_204 : decode cX11_look 204 = .ok (.getfield 7, 3) := by decide +kernel
theorem dX11_look_207 : decode cX11_look 207 = .ok (.bipush 87, 2) := by decide +kernel
theorem dX11_look_209 : decode cX11_look 209 = .ok (.iaload, 1) := by decide +kernel
theorem dX11_look_210 : decode cX11_look 210 = .ok (.ireturn, 1) := by decide +kernel
theorem dX11_look_211 : decode cX11_look 211 = .ok (.aload_n 0, 1) := by decide +kernel
theorem dX11_look_212 : decode cX11_look 212 = .ok (.getfield 7, 3) := by decide +kernel
theorem dX11_look_215 : decode cX11_look 215 = .ok (.bipush 88, 2) := by decide +kernel
theorem dX11_look_217 : decode cX11_look 217 = .ok (.iaload, 1) := by decide +kernel
theorem dX11_look_218 : decode cX11_look 218 = .ok (.ireturn, 1) := by decide +kernel
theorem dX11_look_219 : decode cX11_look 219 = .ok (.aload_n 0, 1) := by decide +kernel
theorem dX11_look_220 : decode cX11_look 220 = .ok (.getfield 7, 3) := by decide +kernel
theorem dX11_look_223 : decode cX11_look 223 = .ok (.bipush 89, 2) := by decide +kernel
theorem dX11_look_225 : decode cX11_look 225 = .ok (.iaload, 1) := by decide +kernel
theorem dX11_look_226 : decode cX11_look 226 = .ok (.ireturn, 1) := by decide +kernel
theorem dX11_look_227 : decode cX11_look 227 = .ok (.aload_n 0, 1) := by decide +kernel
theorem dX11_look_228 : decode cX11_look 228 = .ok (.getfield 7, 3) := by decide +kernel
theorem dX11_look_231 : decode cX11_look 231 = .ok (.bipush 90, 2) := by decide +kernel
theorem dX11_look_233 : decode cX11_look 233 = .ok (.iaload, 1) := by decide +kernel
theorem dX11_look_234 : decode cX11_look 234 = .ok (.ireturn, 1) := by decide +kernel
theorem dX11_look_235 : decode cX11_look 235 = .ok (.ldc_w 446, 3) := by decide +kernel
theorem dX11_look_238 : decode cX11_look 238 = .ok (.ireturn, 1) := by decide +kernel
