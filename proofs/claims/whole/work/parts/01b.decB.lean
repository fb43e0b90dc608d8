theorem dX10_init_0 : decode cX10_init 0 = .ok (.aload_n 0, 1) := by decide +kernel
theorem dX10_init_1 : decode cX10_init 1 = .ok (.invokespecial 3, 3) := by decide +kernel
theorem dX10_init_4 : decode cX10_init 4 = .ok (.aload_n 0, 1) := by decide +kernel
theorem dX10_init_5 : decode cX10_init 5 = .ok (.new 9, 3) := by decide +kernel
theorem dX10_init_8 : decode cX10_init 8 = .ok (.dup, 1) := by decide +kernel
theorem dX10_init_9 : decode cX10_init 9 = .ok (.invokespecial 11, 3) := by decide +kernel
theorem dX10_init_12 : decode cX10_init 12 = .ok (.putfield 12, 3) := by decide +kernel
theorem dX10_init_15 : decode cX10_init 15 = .ok (.aload_n 0, 1) := by decide +kernel
theorem dX10_init_16 : decode cX10_init 16 = .ok (.new 9, 3) := by decide +kernel
theorem dX10_init_19 : decode cX10_init 19 = .ok (.dup, 1) := by decide +kernel
theorem dX10_init_20 : decode cX10_init 20 = .ok (.invokespecial 11, 3) := by decide +kernel
theorem dX10_init_23 : decode cX10_init 23 = .ok (.putfield 16, 3) := by decide +kernel
theorem dX10_init_26 : decode cX10_init 26 = .ok (.aload_n 0, 1) := by decide +kernel
theorem dX10_init_27 : decode cX10_init 27 = .ok (.new 9, 3) := by decide +kernel
theorem dX10_init_30 : decode cX10_init 30 = .ok (.dup, 1) := by decide +kernel
theorem dX10_init_31 : decode cX10_init 31 = .ok (.invokespecial 11, 3) := by decide +kernel
theorem dX10_init_34 : decode cX10_init 34 = .ok (.putfield 19, 3) := by decide +kernel
theorem dX10_init_37 : decode cX10_init 37 = .ok (.aload_n 0, 1) := by decide +kernel
theorem dX10_init_38 : decode cX10_init 38 = .ok (.new 22, 3) := by decide +kernel
theorem dX10_init_41 : decode cX10_init 41 = .ok (.dup, 1) := by decide +kernel
theorem dX10_init_42 : decode cX10_init 42 = .ok (.invokespecial 24, 3) := by decide +kernel
theorem dX10_init_45 : decode cX10_init 45 = .ok (.putfield 25, 3) := by decide +kernel
theorem dX10_init_48 : decode cX10_init 48 = .ok (.aload_n 0, 1) := by decide +kernel
theorem dX10_init_49 : decode cX10_init 49 = .ok (.new 22, 3) := by decide +kernel
theorem dX10_init_52 : decode cX10_init 52 = .ok (.dup, 1) := by decide +kernel
theorem dX10_init_53 : decode cX10_init 53 = .ok (.invokespecial 24, 3) := by decide +kernel
theorem dX10_init_56 : decode cX10_init 56 = .ok (.putfield 29, 3) := by decide +kernel
theorem dX10_init_59 : decode cX10_init 59 = .ok (.aload_n 0, 1) := by decide +kernel
theorem dX10_init_60 : decode cX10_init 60 = .ok (.new 32, 3) := by decide +kernel
theorem dX10_init_63 : decode cX10_init 63 = .ok (.dup, 1) := by decide +kernel
theorem dX10_init_64 : decode cX10_init 64 = .ok (.invokespecial 34, 3) := by decide +kernel
theorem dX10_init_67 : decode cX10_init 67 = .ok (.putfield 35, 3) := by decide +kernel
theorem dX10_init_70 : decode cX10_init 70 = .ok (.aload_n 0, 1) := by decide +kernel
theorem dX10_init_71 : decode cX10_init 71 = .ok (.new 39, 3) := by decide +kernel
theorem dX10_init_74 : decode cX10_init 74 = .ok (.dup, 1) := by decide +kernel
theorem dX10_init_75 : decode cX10_init 75 = .ok (.invokespecial 41, 3) := by decide +kernel
theorem dX10_init_78 : decode cX10_init 78 = .ok (.putfield 42, 3) := by decide +kernel
theorem dX10_init_81 : decode cX10_init 81 = .ok (.aload_n 0, 1) := by decide +kernel
theorem dX10_init_82 : decode cX10_init 82 = .ok (.new 46, 3) := by decide +kernel
theorem dX10_init_85 : decode cX10_init 85 = .ok (.dup, 1) := by decide +kernel
theorem dX10_init_86 : decode cX10_init 86 = .ok (.aload_n 0, 1) := by decide +kernel
theorem dX10_init_87 : decode cX10_init 87 = .ok (.getfield 42, 3) := by decide +kernel
theorem dX10_init_90 : decode cX10_init 90 = .ok (.invokespecial 48, 3) := by decide +kernel
theorem dX10_init_93 : decode cX10_init 93 = .ok (.putfield 51, 3) := by decide +kernel
theorem dX10_init_96 : decode cX10_init 96 = .ok (.aload_n 0, 1) := by decide +kernel
theorem dX10_init_97 : decode cX10_init 97 = .ok (.new 55, 3) := by decide +kernel
theorem dX10_init_100 : decode cX10_init 100 = .ok (.dup, 1) := by decide +kernel
theorem dX10_init_101 : decode cX10_init 101 = .ok (.aload_n 0, 1) := by decide +kernel
theorem dX10_init_102 : decode cX10_init 102 = .ok (.getfield 42, 3) := by decide +kernel
theorem dX10_init_105 : decode cX10_init 105 = .ok (.invokespecial 57, 3) := by decide +kernel
theorem dX10_init_108 : decode cX10_init 108 = .ok (.putfield 58, 3) := by decide +kernel
theorem dX10_init_111 : decode cX10_init 111 = .ok (.aload_n 0, 1) := by decide +kernel
theorem dX10_init_112 : decode cX10_init 112 = .ok (.new 62, 3) := by decide +kernel
theorem dX10_init_115 : decode cX10_init 115 = .ok (.dup, 1) := by decide +kernel
theorem dX10_init_116 : decode cX10_init 116 = .ok (.invokespecial 64, 3) := by decide +kernel
theorem dX10_init_119 : decode cX10_init 119 = .ok (.putfield 65, 3) := by decide +kernel
theorem dX10_init_122 : decode cX10_init 122 = .ok (.aload_n 0, 1) := by decide +kernel
theorem dX10_init_123 : decode cX10_init 123 = .ok (.iconst 0, 1) := by decide +kernel
theorem dX10_init_124 : decode cX10_init 124 = .ok (.putfield 69, 3) := by decide +kernel
theorem dX10_init_127 : decode cX10_init 127 = .ok (.return_, 1) := by decide +kernel
theorem dX10_state_0 : decode cX10_state 0 = .ok (.aload_n 0, 1) := by decide +kernel
theorem dX10_state_1 : decode cX10_state 1 = .ok (.getfield 12, 3) := by decide +kernel
theorem dX10_state_4 : decode cX10_state 4 = .ok (.getfield 73, 3) := by decide +kernel
theorem dX10_state_7 : decode cX10_state 7 = .ok (.istore_n 2, 1) := by decide +kernel
theorem dX10_state_8 : decode cX10_state 8 = .ok (.aload_n 0, 1) := by decide +kernel
theorem dX10_state_9 : decode cX10_state 9 = .ok (.getfield 12, 3) := by decide +kernel
theorem dX10_state_12 : decode cX10_state 12 = .ok (.iload_n 1, 1) := by decide +kernel
theorem dX10_state_13 : decode cX10_state 13 = .ok (.putfield 73, 3) := by decide +kernel
theorem dX10_state_16 : decode cX10_state 16 = .ok (.aload_n 0, 1) := by decide +kernel
theorem dX10_state_17 : decode cX10_state 17 = .ok (.getfield 35, 3) := by decide +kernel
theorem dX10_state_20 : decode cX10_state 20 = .ok (.invokevirtual 77, 3) := by decide +kernel
theorem dX10_state_23 : decode cX10_state 23 = .ok (.iload_n 2, 1) := by decide +kernel
theorem dX10_state_24 : decode cX10_state 24 = .ok (.ireturn, 1) := by decide +kernel
theorem dX10_set_0 : decode cX10_set 0 = .ok (.iload_n 1, 1) := by decide +kernel
theorem dX10_set_1 : decode cX10_set 1 = .ok (.ifCond .ne 27, 3) := by decide +kernel
theorem dX10_set_4 : decode cX10_set 4 = .ok (.iload_n 2, 1) := by decide +kernel
theorem dX10_set_5 : decode cX10_set 5 = .ok (.sipush (-9999), 3) := by decide +kernel
theorem dX10_set_8 : decode cX10_set 8 = .ok (.sipush 9999, 3) := by decide +kernel
theorem dX10_set_11 : decode cX10_set 11 = .ok (.invokestatic 80, 3) := by decide +kernel
theorem dX10_set_14 : decode cX10_set 14 = .ok (.ifCond .eq 14, 3) := by decide +kernel
theorem dX10_set_17 : decode cX10_set 17 = .ok (.aload_n 0, 1) := by decide +kernel
theorem dX10_set_18 : decode cX10_set 18 = .ok (.getfield 12, 3) := by decide +kernel
theorem dX10_set_21 : decode cX10_set 21 = .ok (.iload_n 2, 1) := by decide +kernel
theorem dX10_set_22 : decode cX10_set 22 = .ok (.putfield 84, 3) := by decide +kernel
theorem dX10_set_25 : decode cX10_set 25 = .ok (.goto 59, 3) := by decide +kernel
theorem dX10_set_28 : decode cX10_set 28 = .ok (.iload_n 1, 1) := by decide +kernel
theorem dX10_set_29 : decode cX10_set 29 = .ok (.iconst 1, 1) := by decide +kernel
theorem dX10_set_30 : decode cX10_set 30 = .ok (.if_icmp .ne 25, 3) := by decide +kernel
theorem dX10_set_33 : decode cX10_set 33 = .ok (.iload_n 2, 1) := by decide +kernel
theorem dX10_set_34 : decode cX10_set 34 = .ok (.iconst 0, 1) := by decide +kernel
theorem dX10_set_35 : decode cX10_set 35 = .ok (.sipush 1000, 3) := by decide +kernel
theorem dX10_set_38 : decode cX10_set 38 = .ok (.invokestatic 80, 3) := by decide +kernel
theorem dX10_set_41 : decode cX10_set 41 = .ok (.ifCond .eq 14, 3) := by decide +kernel
theorem dX10_set_44 : decode cX10_set 44 = .ok (.aload_n 0, 1) := by decide +kernel
theorem dX10_set_45 : decode cX10_set 45 = .ok (.getfield 12, 3) := by decide +kernel
theorem dX10_set_48 : decode cX10_set 48 = .ok (.iload_n 2, 1) := by decide +kernel
theorem dX10_set_49 : decode cX10_set 49 = .ok (.putfield 87, 3) := by decide +kernel
theorem dX10_set_52 : decode cX10_set 52 = .ok (.goto 32, 3) := by decide +kernel
theorem dX10_set_55 : decode cX10_set 55 = .ok (.iload_n 1, 1) := by decide +kernel
theorem dX10_set_56 : decode cX10_set 56 = .ok (.iconst 2, 1) := by decide +kernel
theorem dX10_set_57 : decode cX10_set 57 = .ok (.if_icmp .ne 25, 3) := by decide +kernel
theorem dX10_set_60 : decode cX10_set 60 = .ok (.iload_n 2, 1) := by decide +kernel
theorem dX10_set_61 : decode cX10_set 61 = .ok (.iconst 0, 1) := by decide +kernel
theorem dX10_set_62 : decode cX10_set 62 = .ok (.sipush 1000, 3) := by decide +kernel
theorem dX10_set_65 : decode cX10_set 65 = .ok (.invokestatic 80, 3) := by decide +kernel
theorem dX10_set_68 : decode cX10_set 68 = .ok (.ifCond .eq 14, 3) := by decide +kernel
theorem dX10_set_71 : decode cX10_set 71 = .ok (.aload_n 0, 1) := by decide +kernel
theorem dX10_set_72 : decode cX10_set 72 = .ok (.getfield 12, 3) := by decide +kernel
theorem dX10_set_75 : decode cX10_set 75 = .ok (.iload_n 2, 1) := by decide +kernel
theorem dX10_set_76 : decode cX10_set 76 = .ok (.putfield 90, 3) := by decide +kernel
theorem dX10_set_79 : decode cX10_set 79 = .ok (.goto 5, 3) := by decide +kernel
theorem dX10_set_82 : decode cX10_set 82 = .ok (.iconst 0, 1) := by decide +kernel
theorem dX10_set_83 : decode cX10_set 83 = .ok (.ireturn, 1) := by decide +kernel
theorem dX10_set_84 : decode cX10_set 84 = .ok (.aload_n 0, 1) := by decide +kernel
theorem dX10_set_85 : decode cX10_set 85 = .ok (.getfield 35, 3) := by decide +kernel
theorem dX10_set_88 : decode cX10_set 88 = .ok (.invokevirtual 77, 3) := by decide +kernel
theorem dX10_set_91 : decode cX10_set 91 = .ok (.iconst 1, 1) := by decide +kernel
theorem dX10_set_92 : decode cX10_set 92 = .ok (.ireturn, 1) := by decide +kernel
theorem dX10_feast_0 : decode cX10_feast 0 = .ok (.aload_n 0, 1) := by decide +kernel
theorem dX10_feast_1 : decode cX10_feast 1 = .ok (.getfield 12, 3) := by decide +kernel
theorem dX10_feast_4 : decode cX10_feast 4 = .ok (.iload_n 1, 1) := by decide +kernel
theorem dX10_feast_5 : decode cX10_feast 5 = .ok (.iload_n 2, 1) := by decide +kernel
theorem dX10_feast_6 : decode cX10_feast 6 = .ok (.invokevirtual 93, 3) := by decide +kernel
theorem dX10_feast_9 : decode cX10_feast 9 = .ok (.ifCond .ne 5, 3) := by decide +kernel
theorem dX10_feast_12 : decode cX10_feast 12 = .ok (.iconst (-1), 1) := by decide +kernel
theorem dX10_feast_13 : decode cX10_feast 13 = .ok (.ireturn, 1) := by decide +kernel
theorem dX10_feast_14 : decode cX10_feast 14 = .ok (.aload_n 0, 1) := by decide +kernel
theorem dX10_feast_15 : decode cX10_feast 15 = .ok (.getfield 35, 3) := by decide +kernel
theorem dX10_feast_18 : decode cX10_feast 18 = .ok (.aload_n 0, 1) := by decide +kernel
theorem dX10_feast_19 : decode cX10_feast 19 = .ok (.getfield 12, 3) := by decide +kernel
theorem dX10_feast_22 : decode cX10_feast 22 = .ok (.invokevirtual 97, 3) := by decide +kernel
theorem dX10_feast_25 : decode cX10_feast 25 = .ok (.aload_n 0, 1) := by decide +kernel
theorem dX10_feast_26 : decode cX10_feast 26 = .ok (.getfield 12, 3) := by decide +kernel
theorem dX10_feast_29 : decode cX10_feast 29 = .ok (.iload_n 1, 1) := by decide +kernel
theorem dX10_feast_30 : decode cX10_feast 30 = .ok (.iload_n 2, 1) := by decide +kernel
theorem dX10_feast_31 : decode cX10_feast 31 = .ok (.invokevirtual 101, 3) := by decide +kernel
theorem dX10_feast_34 : decode cX10_feast 34 = .ok (.ireturn, 1) := by decide +kernel
theorem dX10_forge_0 : decode cX10_forge 0 = .ok (.aload_n 0, 1) := by decide +kernel
theorem dX10_forge_1 : decode cX10_forge 1 = .ok (.getfield 12, 3) := by decide +kernel
theorem dX10_forge_4 : decode cX10_forge 4 = .ok (.iload_n 1, 1) := by decide +kernel
theorem dX10_forge_5 : decode cX10_forge 5 = .ok (.iload_n 2, 1) := by decide +kernel
theorem dX10_forge_6 : decode cX10_forge 6 = .ok (.invokevirtual 105, 3) := by decide +kernel
theorem dX10_forge_9 : decode cX10_forge 9 = .ok (.ifCond .ne 5, 3) := by decide +kernel
theorem dX10_forge_12 : decode cX10_forge 12 = .ok (.iconst (-1), 1) := by decide +kernel
theorem dX10_forge_13 : decode cX10_forge 13 = .ok (.ireturn, 1) := by decide +kernel
theorem dX10_forge_14 : decode cX10_forge 14 = .ok (.aload_n 0, 1) := by decide +kernel
theorem dX10_forge_15 : decode cX10_forge 15 = .ok (.getfield 35, 3) := by decide +kernel
theorem dX10_forge_18 : decode cX10_forge 18 = .ok (.aload_n 0, 1) := by decide +kernel
theorem dX10_forge_19 : decode cX10_forge 19 = .ok (.getfield 12, 3) := by decide +kernel
theorem dX10_forge_22 : decode cX10_forge 22 = .ok (.invokevirtual 97, 3) := by decide +kernel
theorem dX10_forge_25 : decode cX10_forge 25 = .ok (.aload_n 0, 1) := by decide +kernel
theorem dX10_forge_26 : decode cX10_forge 26 = .ok (.getfield 12, 3) := by decide +kernel
theorem dX10_forge_29 : decode cX10_forge 29 = .ok (.iload_n 1, 1) := by decide +kernel
theorem dX10_forge_30 : decode cX10_forge 30 = .ok (.iload_n 2, 1) := by decide +kernel
theorem dX10_forge_31 : decode cX10_forge 31 = .ok (.invokevirtual 108, 3) := by decide +kernel
theorem dX10_forge_34 : decode cX10_forge 34 = .ok (.ireturn, 1) := by decide +kernel
theorem dX10_cut_0 : decode cX10_cut 0 = .ok (.aload_n 0, 1) := by decide +kernel
theorem dX10_cut_1 : decode cX10_cut 1 = .ok (.getfield 12, 3) := by decide +kernel
theorem dX10_cut_4 : decode cX10_cut 4 = .ok (.iload_n 1, 1) := by decide +kernel
theorem dX10_cut_5 : decode cX10_cut 5 = .ok (.iload_n 2, 1) := by decide +kernel
theorem dX10_cut_6 : decode cX10_cut 6 = .ok (.invokevirtual 111, 3) := by decide +kernel
theorem dX10_cut_9 : decode cX10_cut 9 = .ok (.ifCond .ne 5, 3) := by decide +kernel
theorem dX10_cut_12 : decode cX10_cut 12 = .ok (.iconst (-1), 1) := by decide +kernel
theorem dX10_cut_13 : decode cX10_cut 13 = .ok (.ireturn, 1) := by decide +kernel
theorem dX10_cut_14 : decode cX10_cut 14 = .ok (.aload_n 0, 1) := by decide +kernel
theorem dX10_cut_15 : decode cX10_cut 15 = .ok (.getfield 35, 3) := by decide +kernel
theorem dX10_cut_18 : decode cX10_cut 18 = .ok (.aload_n 0, 1) := by decide +kernel
theorem dX10_cut_19 : decode cX10_cut 19 = .ok (.getfield 12, 3) := by decide +kernel
theorem dX10_cut_22 : decode cX10_cut 22 = .ok (.invokevirtual 97, 3) := by decide +kernel
theorem dX10_cut_25 : decode cX10_cut 25 = .ok (.aload_n 0, 1) := by decide +kernel
theorem dX10_cut_26 : decode cX10_cut 26 = .ok (.getfield 12, 3) := by decide +kernel
theorem dX10_cut_29 : decode cX10_cut 29 = .ok (.iload_n 1, 1) := by decide +kernel
theorem dX10_cut_30 : decode cX10_cut 30 = .ok (.iload_n 2, 1) := by decide +kernel
theorem dX10_cut_31 : decode cX10_cut 31 = .ok (.invokevirtual 114, 3) := by decide +kernel
theorem dX10_cut_34 : decode cX10_cut 34 = .ok (.ireturn, 1) := by decide +kernel
theorem dX10_join_0 : decode cX10_join 0 = .ok (.aload_n 0, 1) := by decide +kernel
theorem dX10_join_1 : decode cX10_join 1 = .ok (.getfield 12, 3) := by decide +kernel
theorem dX10_join_4 : decode cX10_join 4 = .ok (.iload_n 1, 1) := by decide +kernel
theorem dX10_join_5 : decode cX10_join 5 = .ok (.iload_n 2, 1) := by decide +kernel
theorem dX10_join_6 : decode cX10_join 6 = .ok (.invokevirtual 117, 3) := by decide +kernel
theorem dX10_join_9 : decode cX10_join 9 = .ok (.ifCond .ne 5, 3) := by decide +kernel
theorem dX10_join_12 : decode cX10_join 12 = .ok (.iconst (-1), 1) := by decide +kernel
theorem dX10_join_13 : decode cX10_join 13 = .ok (.ireturn, 1) := by decide +kernel
theorem dX10_join_14 : decode cX10_join 14 = .ok (.aload_n 0, 1) := by decide +kernel
theorem dX10_join_15 : decode cX10_join 15 = .ok (.getfield 35, 3) := by decide +kernel
theorem dX10_join_18 : decode cX10_join 18 = .ok (.aload_n 0, 1) := by decide +kernel
theorem dX10_join_19 : decode cX10_join 19 = .ok (.getfield 12, 3) := by decide +kernel
theorem dX10_join_22 : decode cX10_join 22 = .ok (.invokevirtual 97, 3) := by decide +kernel
theorem dX10_join_25 : decode cX10_join 25 = .ok (.aload_n 0, 1) := by decide +kernel
theorem dX10_join_26 : decode cX10_join 26 = .ok (.getfield 12, 3) := by decide +kernel
theorem dX10_join_29 : decode cX10_join 29 = .ok (.iload_n 1, 1) := by decide +kernel
theorem dX10_join_30 : decode cX10_join 30 = .ok (.iload_n 2, 1) := by decide +kernel
theorem dX10_join_31 : decode cX10_join 31 = .ok (.invokevirtual 120, 3) := by decide +kernel
theorem dX10_join_34 : decode cX10_join 34 = .ok (.ireturn, 1) := by decide +kernel
theorem dX10_sell_0 : decode cX10_sell 0 = .ok (.aload_n 0, 1) := by decide +kernel
theorem dX10_sell_1 : decode cX10_sell 1 = .ok (.getfield 12, 3) := by decide +kernel
theorem dX10_sell_4 : decode cX10_sell 4 = .ok (.getfield 123, 3) := by decide +kernel
theorem dX10_sell_7 : decode cX10_sell 7 = .ok (.iload_n 1, 1) := by decide +kernel
theorem dX10_sell_8 : decode cX10_sell 8 = .ok (.invokevirtual 127, 3) := by decide +kernel
theorem dX10_sell_11 : decode cX10_sell 11 = .ok (.ifCond .ne 5, 3) := by decide +kernel
theorem dX10_sell_14 : decode cX10_sell 14 = .ok (.iconst (-1), 1) := by decide +kernel
theorem dX10_sell_15 : decode cX10_sell 15 = .ok (.ireturn, 1) := by decide +kernel
theorem dX10_sell_16 : decode cX10_sell 16 = .ok (.aload_n 0, 1) := by decide +kernel
theorem dX10_sell_17 : decode cX10_sell 17 = .ok (.getfield 35, 3) := by decide +kernel
theorem dX10_sell_20 : decode cX10_sell 20 = .ok (.aload_n 0, 1) := by decide +kernel
theorem dX10_sell_21 : decode cX10_sell 21 = .ok (.getfield 12, 3) := by decide +kernel
theorem dX10_sell_24 : decode cX10_sell 24 = .ok (.invokevirtual 97, 3) := by decide +kernel
theorem dX10_sell_27 : decode cX10_sell 27 = .ok (.aload_n 0, 1) := by decide +kernel
theorem dX10_sell_28 : decode cX10_sell 28 = .ok (.getfield 12, 3) := by decide +kernel
theorem dX10_sell_31 : decode cX10_sell 31 = .ok (.iload_n 1, 1) := by decide +kernel
theorem dX10_sell_32 : decode cX10_sell 32 = .ok (.invokevirtual 133, 3) := by decide +kernel
theorem dX10_sell_35 : decode cX10_sell 35 = .ok (.ireturn, 1) := by decide +kernel
theorem dX10_days_0 : decode cX10_days 0 = .ok (.iload_n 1, 1) := by decide +kernel
theorem dX10_days_1 : decode cX10_days 1 = .ok (.iconst 1, 1) := by decide +kernel
theorem dX10_days_2 : decode cX10_days 2 = .ok (.bipush 60, 2) := by decide +kernel
theorem dX10_days_4 : decode cX10_days 4 = .ok (.invokestatic 80, 3) := by decide +kernel
theorem dX10_days_7 : decode cX10_days 7 = .ok (.ifCond .eq 18, 3) := by decide +kernel
theorem dX10_days_10 : decode cX10_days 10 = .ok (.aload_n 0, 1) := by decide +kernel
theorem dX10_days_11 : decode cX10_days 11 = .ok (.getfield 12, 3) := by decide +kernel
theorem dX10_days_14 : decode cX10_days 14 = .ok (.getfield 137, 3) := by decide +kernel
theorem dX10_days_17 : decode cX10_days 17 = .ok (.sipush 9999, 3) := by decide +kernel
theorem dX10_days_20 : decode cX10_days 20 = .ok (.iload_n 1, 1) := by decide +kernel
theorem dX10_days_21 : decode cX10_days 21 = .ok (.isub, 1) := by decide +kernel
theorem dX10_days_22 : decode cX10_days 22 = .ok (.if_icmp .le 5, 3) := by decide +kernel
theorem dX10_days_25 : decode cX10_days 25 = .ok (.iconst (-1), 1) := by decide +kernel
theorem dX10_days_26 : decode cX10_days 26 = .ok (.ireturn, 1) := by decide +kernel
theorem dX10_days_27 : decode cX10_days 27 = .ok (.iconst 0, 1) := by decide +kernel
theorem dX10_days_28 : decode cX10_days 28 = .ok (.istore_n 2, 1) := by decide +kernel
theorem dX10_days_29 : decode cX10_days 29 = .ok (.iconst 0, 1) := by decide +kernel
theorem dX10_days_30 : decode cX10_days 30 = .ok (.istore_n 3, 1) := by decide +kernel
theorem dX10_days_31 : decode cX10_days 31 = .ok (.iload_n 3, 1) := by decide +kernel
theorem dX10_days_32 : decode cX10_days 32 = .ok (.iload_n 1, 1) := by decide +kernel
theorem dX10_days_33 : decode cX10_days 33 = .ok (.if_icmp .ge 38, 3) := by decide +kernel
theorem dX10_days_36 : decode cX10_days 36 = .ok (.aload_n 0, 1) := by decide +kernel
theorem dX10_days_37 : decode cX10_days 37 = .ok (.getfield 35, 3) := by decide +kernel
theorem dX10_days_40 : decode cX10_days 40 = .ok (.aload_n 0, 1) := by decide +kernel
theorem dX10_days_41 : decode cX10_days 41 = .ok (.getfield 12, 3) := by decide +kernel
theorem dX10_days_44 : decode cX10_days 44 = .ok (.invokevirtual 97, 3) := by decide +kernel
theorem dX10_days_47 : decode cX10_days 47 = .ok (.iload_n 2, 1) := by decide +kernel
theorem dX10_days_48 : decode cX10_days 48 = .ok (.aload_n 0, 1) := by decide +kernel
theorem dX10_days_49 : decode cX10_days 49 = .ok (.getfield 12, 3) := by decide +kernel
theorem dX10_days_52 : decode cX10_days 52 = .ok (.invokevirtual 140, 3) := by decide +kernel
theorem dX10_days_55 : decode cX10_days 55 = .ok (.iadd, 1) := by decide +kernel
theorem dX10_days_56 : decode cX10_days 56 = .ok (.istore_n 2, 1) := by decide +kernel
theorem dX10_days_57 : decode cX10_days 57 = .ok (.aload_n 0, 1) := by decide +kernel
theorem dX10_days_58 : decode cX10_days 58 = .ok (.getfield 12, 3) := by decide +kernel
theorem dX10_days_61 : decode cX10_days 61 = .ok (.iconst 0, 1) := by decide +kernel
theorem dX10_days_62 : decode cX10_days 62 = .ok (.invokevirtual 144, 3) := by decide +kernel
theorem dX10_days_65 : decode cX10_days 65 = .ok (.iinc 3 1, 3) := by decide +kernel
theorem dX10_days_68 : decode cX10_days 68 = .ok (.goto (-37), 3) := by decide +kernel
theorem dX10_days_71 : decode cX10_days 71 = .ok (.iload_n 2, 1) := by decide +kernel
theorem dX10_days_72 : decode cX10_days 72 = .ok (.ireturn, 1) := by decide +kernel
theorem dX10_feed_0 : decode cX10_feed 0 = .ok (.aload_n 0, 1) := by decide +kernel
theorem dX10_feed_1 : decode cX10_feed 1 = .ok (.getfield 42, 3) := by decide +kernel
theorem dX10_feed_4 : decode cX10_feed 4 = .ok (.bipush 20, 2) := by decide +kernel
theorem dX10_feed_6 : decode cX10_feed 6 = .ok (.invokevirtual 148, 3) := by decide +kernel
theorem dX10_feed_9 : decode cX10_feed 9 = .ok (.ifCond .ne 5, 3) := by decide +kernel
theorem dX10_feed_12 : decode cX10_feed 12 = .ok (.iconst (-1), 1) := by decide +kernel
theorem dX10_feed_13 : decode cX10_feed 13 = .ok (.ireturn, 1) := by decide +kernel
theorem dX10_feed_14 : decode cX10_feed 14 = .ok (.aload_n 0, 1) := by decide +kernel
theorem dX10_feed_15 : decode cX10_feed 15 = .ok (.getfield 42, 3) := by decide +kernel
theorem dX10_feed_18 : decode cX10_feed 18 = .ok (.iload_n 1, 1) := by decide +kernel
theorem dX10_feed_19 : decode cX10_feed 19 = .ok (.invokevirtual 151, 3) := by decide +kernel
theorem dX10_feed_22 : decode cX10_feed 22 = .ok (.aload_n 0, 1) := by decide +kernel
theorem dX10_feed_23 : decode cX10_feed 23 = .ok (.getfield 42, 3) := by decide +kernel
theorem dX10_feed_26 : decode cX10_feed 26 = .ok (.iload_n 2, 1) := by decide +kernel
theorem dX10_feed_27 : decode cX10_feed 27 = .ok (.invokevirtual 151, 3) := by decide +kernel
theorem dX10_feed_30 : decode cX10_feed 30 = .ok (.aload_n 0, 1) := by decide +kernel
theorem dX10_feed_31 : decode cX10_feed 31 = .ok (.getfield 42, 3) := by decide +kernel
theorem dX10_feed_34 : decode cX10_feed 34 = .ok (.iload_n 3, 1) := by decide +kernel
theorem dX10_feed_35 : decode cX10_feed 35 = .ok (.invokevirtual 151, 3) := by decide +kernel
theorem dX10_feed_38 : decode cX10_feed 38 = .ok (.aload_n 0, 1) := by decide +kernel
theorem dX10_feed_39 : decode cX10_feed 39 = .ok (.getfield 42, 3) := by decide +kernel
theorem dX10_feed_42 : decode cX10_feed 42 = .ok (.iload 4, 2) := by decide +kernel
theorem dX10_feed_44 : decode cX10_feed 44 = .ok (.invokevirtual 151, 3) := by decide +kernel
theorem dX10_feed_47 : decode cX10_feed 47 = .ok (.aload_n 0, 1) := by decide +kernel
theorem dX10_feed_48 : decode cX10_feed 48 = .ok (.getfield 42, 3) := by decide +kernel
theorem dX10_feed_51 : decode cX10_feed 51 = .ok (.iload 5, 2) := by decide +kernel
theorem dX10_feed_53 : decode cX10_feed 53 = .ok (.invokevirtual 151, 3) := by decide +kernel
theorem dX10_feed_56 : decode cX10_feed 56 = .ok (.aload_n 0, 1) := by decide +kernel
theorem dX10_feed_57 : decode cX10_feed 57 = .ok (.getfield 42, 3) := by decide +kernel
theorem dX10_feed_60 : decode cX10_feed 60 = .ok (.getfield 155, 3) := by decide +kernel
theorem dX10_feed_63 : decode cX10_feed 63 = .ok (.ireturn, 1) := by decide +kernel
theorem dX10_end_0 : decode cX10_end 0 = .ok (.iload_n 1, 1) := by decide +kernel
theorem dX10_end_1 : decode cX10_end 1 = .ok (.ifCond .lt 14, 3) := by decide +kernel
theorem dX10_end_4 : decode cX10_end 4 = .ok (.iload_n 1, 1) := by decide +kernel
theorem dX10_end_5 : decode cX10_end 5 = .ok (.aload_n 0, 1) := by decide +kernel
theorem dX10_end_6 : decode cX10_end 6 = .ok (.getfield 42, 3) := by decide +kernel
theorem dX10_end_9 : decode cX10_end 9 = .ok (.getfield 155, 3) := by decide +kernel
theorem dX10_end_12 : decode cX10_end 12 = .ok (.if_icmp .le 5, 3) := by decide +kernel
theorem dX10_end_15 : decode cX10_end 15 = .ok (.iconst 0, 1) := by decide +kernel
theorem dX10_end_16 : decode cX10_end 16 = .ok (.ireturn, 1) := by decide +kernel
theorem dX10_end_17 : decode cX10_end 17 = .ok (.aload_n 0, 1) := by decide +kernel
theorem dX10_end_18 : decode cX10_end 18 = .ok (.getfield 42, 3) := by decide +kernel
theorem dX10_end_21 : decode cX10_end 21 = .ok (.iload_n 1, 1) := by decide +kernel
theorem dX10_end_22 : decode cX10_end 22 = .ok (.putfield 155, 3) := by decide +kernel
theorem dX10_end_25 : decode cX10_end 25 = .ok (.iconst 1, 1) := by decide +kernel
theorem dX10_end_26 : decode cX10_end 26 = .ok (.ireturn, 1) := by decide +kernel
theorem dX10_text_0 : decode cX10_text 0 = .ok (.aload_n 0, 1) := by decide +kernel
theorem dX10_text_1 : decode cX10_text 1 = .ok (.getfield 42, 3) := by decide +kernel
theorem dX10_text_4 : decode cX10_text 4 = .ok (.invokevirtual 158, 3) := by decide +kernel
theorem dX10_text_7 : decode cX10_text 7 = .ok (.iload_n 1, 1) := by decide +kernel
theorem dX10_text_8 : decode cX10_text 8 = .ok (.iconst 1, 1) := by decide +kernel
theorem dX10_text_9 : decode cX10_text 9 = .ok (.if_icmp .ne 18, 3) := by decide +kernel
theorem dX10_text_12 : decode cX10_text 12 = .ok (.aload_n 0, 1) := by decide +kernel
theorem dX10_text_13 : decode cX10_text 13 = .ok (.getfield 58, 3) := by decide +kernel
theorem dX10_text_16 : decode cX10_text 16 = .ok (.aload_n 0, 1) := by decide +kernel
theorem dX10_text_17 : decode cX10_text 17 = .ok (.getfield 12, 3) := by decide +kernel
theorem dX10_text_20 : decode cX10_text 20 = .ok (.getfield 161, 3) := by decide +kernel
theorem dX10_text_23 : decode cX10_text 23 = .ok (.invokevirtual 165, 3) := by decide +kernel
theorem dX10_text_26 : decode cX10_text 26 = .ok (.ireturn, 1) := by decide +kernel
theorem dX10_text_27 : decode cX10_text 27 = .ok (.iload_n 1, 1) := by decide +kernel
theorem dX10_text_28 : decode cX10_text 28 = .ok (.iconst 0, 1) := by decide +kernel
theorem dX10_text_29 : decode cX10_text 29 = .ok (.iconst 4, 1) := by decide +kernel
theorem dX10_text_30 : decode cX10_text 30 = .ok (.invokestatic 80, 3) := by decide +kernel
theorem dX10_text_33 : decode cX10_text 33 = .ok (.ifCond .eq 32, 3) := by decide +kernel
theorem dX10_text_36 : decode cX10_text 36 = .ok (.aload_n 0, 1) := by decide +kernel
theorem dX10_text_37 : decode cX10_text 37 = .ok (.getfield 51, 3) := by decide +kernel
theorem dX10_text_40 : decode cX10_text 40 = .ok (.iload_n 1, 1) := by decide +kernel
theorem dX10_text_41 : decode cX10_text 41 = .ok (.aload_n 0, 1) := by decide +kernel
theorem dX10_text_42 : decode cX10_text 42 = .ok (.getfield 19, 3) := by decide +kernel
theorem dX10_text_45 : decode cX10_text 45 = .ok (.iload_n 1, 1) := by decide +kernel
theorem dX10_text_46 : decode cX10_text 46 = .ok (.invokevirtual 169, 3) := by decide +kernel
theorem dX10_text_49 : decode cX10_text 49 = .ok (.aload_n 0, 1) := by decide +kernel
theorem dX10_text_50 : decode cX10_text 50 = .ok (.getfield 12, 3) := by decide +kernel
theorem dX10_text_53 : decode cX10_text 53 = .ok (.getfield 173, 3) := by decide +kernel
theorem dX10_text_56 : decode cX10_text 56 = .ok (.getfield 176, 3) := by decide +kernel
theorem dX10_text_59 : decode cX10_text 59 = .ok (.invokevirtual 179, 3) := by decide +kernel
theorem dX10_text_62 : decode cX10_text 62 = .ok (.ifCond .ne 5, 3) := by decide +kernel
theorem dX10_text_65 : decode cX10_text 65 = .ok (.iconst (-1), 1) := by decide +kernel
theorem dX10_text_66 : decode cX10_text 66 = .ok (.ireturn, 1) := by decide +kernel
theorem dX10_text_67 : decode cX10_text 67 = .ok (.aload_n 0, 1) := by decide +kernel
theorem dX10_text_68 : decode cX10_text 68 = .ok (.iload_n 1, 1) := by decide +kernel
theorem dX10_text_69 : decode cX10_text 69 = .ok (.aload_n 0, 1) := by decide +kernel
theorem dX10_text_70 : decode cX10_text 70 = .ok (.getfield 19, 3) := by decide +kernel
theorem dX10_text_73 : decode cX10_text 73 = .ok (.iload_n 1, 1) := by decide +kernel
theorem dX10_text_74 : decode cX10_text 74 = .ok (.invokevirtual 169, 3) := by decide +kernel
theorem dX10_text_77 : decode cX10_text 77 = .ok (.invokevirtual 183, 3) := by decide +kernel
theorem dX10_text_80 : decode cX10_text 80 = .ok (.ireturn, 1) := by decide +kernel
theorem dX10_fault_0 : decode cX10_fault 0 = .ok (.iload_n 1, 1) := by decide +kernel
theorem dX10_fault_1 : decode cX10_fault 1 = .ok (.ifCond .ne 11, 3) := by decide +kernel
theorem dX10_fault_4 : decode cX10_fault 4 = .ok (.aload_n 0, 1) := by decide +kernel
theorem dX10_fault_5 : decode cX10_fault 5 = .ok (.getfield 42, 3) := by decide +kernel
theorem dX10_fault_8 : decode cX10_fault 8 = .ok (.getfield 187, 3) := by decide +kernel
theorem dX10_fault_11 : decode cX10_fault 11 = .ok (.ireturn, 1) := by decide +kernel
theorem dX10_fault_12 : decode cX10_fault 12 = .ok (.iload_n 1, 1) := by decide +kernel
theorem dX10_fault_13 : decode cX10_fault 13 = .ok (.iconst 1, 1) := by decide +kernel
theorem dX10_fault_14 : decode cX10_fault 14 = .ok (.if_icmp .ne 13, 3) := by decide +kernel
theorem dX10_fault_17 : decode cX10_fault 17 = .ok (.aload_n 0, 1) := by decide +kernel
theorem dX10_fault_18 : decode cX10_fault 18 = .ok (.getfield 42, 3) := by decide +kernel
theorem dX10_fault_21 : decode cX10_fault 21 = .ok (.getfield 190, 3) := by decide +kernel
theorem dX10_fault_24 : decode cX10_fault 24 = .ok (.goto 4, 3) := by decide +kernel
theorem dX10_fault_27 : decode cX10_fault 27 = .ok (.iconst (-1), 1) := by decide +kernel
theorem dX10_fault_28 : decode cX10_fault 28 = .ok (.ireturn, 1) := by decide +kernel
theorem dX10_remain_0 : decode cX10_remain 0 = .ok (.aload_n 0, 1) := by decide +kernel
theorem dX10_remain_1 : decode cX10_remain 1 = .ok (.getfield 12, 3) := by decide +kernel
theorem dX10_remain_4 : decode cX10_remain 4 = .ok (.getfield 123, 3) := by decide +kernel
theorem dX10_remain_7 : decode cX10_remain 7 = .ok (.iload_n 1, 1) := by decide +kernel
theorem dX10_remain_8 : decode cX10_remain 8 = .ok (.invokevirtual 127, 3) := by decide +kernel
theorem dX10_remain_11 : decode cX10_remain 11 = .ok (.ifCond .ne 5, 3) := by decide +kernel
theorem dX10_remain_14 : decode cX10_remain 14 = .ok (.iconst (-1), 1) := by decide +kernel
theorem dX10_remain_15 : decode cX10_remain 15 = .ok (.ireturn, 1) := by decide +kernel
theorem dX10_remain_16 : decode cX10_remain 16 = .ok (.iload_n 2, 1) := by decide +kernel
theorem dX10_remain_17 : decode cX10_remain 17 = .ok (.iconst 5, 1) := by decide +kernel
theorem dX10_remain_18 : decode cX10_remain 18 = .ok (.if_icmp .ne 13, 3) := by decide +kernel
theorem dX10_remain_21 : decode cX10_remain 21 = .ok (.aload_n 0, 1) := by decide +kernel
theorem dX10_remain_22 : decode cX10_remain 22 = .ok (.getfield 12, 3) := by decide +kernel
theorem dX10_remain_25 : decode cX10_remain 25 = .ok (.iload_n 1, 1) := by decide +kernel
theorem dX10_remain_26 : decode cX10_remain 26 = .ok (.iconst 0, 1) := by decide +kernel
theorem dX10_remain_27 : decode cX10_remain 27 = .ok (.invokevirtual 193, 3) := by decide +kernel
theorem dX10_remain_30 : decode cX10_remain 30 = .ok (.ireturn, 1) := by decide +kernel
theorem dX10_remain_31 : decode cX10_remain 31 = .ok (.iload_n 2, 1) := by decide +kernel
theorem dX10_remain_32 : decode cX10_remain 32 = .ok (.bipush 6, 2) := by decide +kernel
theorem dX10_remain_34 : decode cX10_remain 34 = .ok (.if_icmp .ne 14, 3) := by decide +kernel
theorem dX10_remain_37 : decode cX10_remain 37 = .ok (.aload_n 0, 1) := by decide +kernel
theorem dX10_remain_38 : decode cX10_remain 38 = .ok (.getfield 12, 3) := by decide +kernel
theorem dX10_remain_41 : decode cX10_remain 41 = .ok (.iload_n 1, 1) := by decide +kernel
theorem dX10_remain_42 : decode cX10_remain 42 = .ok (.invokevirtual 196, 3) := by decide +kernel
theorem dX10_remain_45 : decode cX10_remain 45 = .ok (.goto 15, 3) := by decide +kernel
theorem dX10_remain_48 : decode cX10_remain 48 = .ok (.aload_n 0, 1) := by decide +kernel
theorem dX10_remain_49 : decode cX10_remain 49 = .ok (.getfield 12, 3) := by decide +kernel
theorem dX10_remain_52 : decode cX10_remain 52 = .ok (.getfield 123, 3) := by decide +kernel
theorem dX10_remain_55 : decode cX10_remain 55 = .ok (.iload_n 1, 1) := by decide +kernel
theorem dX10_remain_56 : decode cX10_remain 56 = .ok (.iload_n 2, 1) := by decide +kernel
theorem dX10_remain_57 : decode cX10_remain 57 = .ok (.invokevirtual 199, 3) := by decide +kernel
theorem dX10_remain_60 : decode cX10_remain 60 = .ok (.ireturn, 1) := by decide +kernel
theorem dX10_kind_0 : decode cX10_kind 0 = .ok (.aload_n 0, 1) := by decide +kernel
theorem dX10_kind_1 : decode cX10_kind 1 = .ok (.getfield 12, 3) := by decide +kernel
theorem dX10_kind_4 : decode cX10_kind 4 = .ok (.getfield 173, 3) := by decide +kernel
theorem dX10_kind_7 : decode cX10_kind 7 = .ok (.iload_n 1, 1) := by decide +kernel
theorem dX10_kind_8 : decode cX10_kind 8 = .ok (.invokevirtual 127, 3) := by decide +kernel
theorem dX10_kind_11 : decode cX10_kind 11 = .ok (.ifCond .ne 5, 3) := by decide +kernel
theorem dX10_kind_14 : decode cX10_kind 14 = .ok (.iconst (-1), 1) := by decide +kernel
theorem dX10_kind_15 : decode cX10_kind 15 = .ok (.ireturn, 1) := by decide +kernel
theorem dX10_kind_16 : decode cX10_kind 16 = .ok (.iload_n 2, 1) := by decide +kernel
theorem dX10_kind_17 : decode cX10_kind 17 = .ok (.iconst 2, 1) := by decide +kernel
theorem dX10_kind_18 : decode cX10_kind 18 = .ok (.if_icmp .ne 12, 3) := by decide +kernel
theorem dX10_kind_21 : decode cX10_kind 21 = .ok (.aload_n 0, 1) := by decide +kernel
theorem dX10_kind_22 : decode cX10_kind 22 = .ok (.getfield 12, 3) := by decide +kernel
theorem dX10_kind_25 : decode cX10_kind 25 = .ok (.iload_n 1, 1) := by decide +kernel
theorem dX10_kind_26 : decode cX10_kind 26 = .ok (.invokevirtual 202, 3) := by decide +kernel
theorem dX10_kind_29 : decode cX10_kind 29 = .ok (.ireturn, 1) := by decide +kernel
theorem dX10_kind_30 : decode cX10_kind 30 = .ok (.iload_n 2, 1) := by decide +kernel
theorem dX10_kind_31 : decode cX10_kind 31 = .ok (.iconst 3, 1) := by decide +kernel
theorem dX10_kind_32 : decode cX10_kind 32 = .ok (.if_icmp .ne 14, 3) := by decide +kernel
theorem dX10_kind_35 : decode cX10_kind 35 = .ok (.aload_n 0, 1) := by decide +kernel
theorem dX10_kind_36 : decode cX10_kind 36 = .ok (.getfield 12, 3) := by decide +kernel
theorem dX10_kind_39 : decode cX10_kind 39 = .ok (.iload_n 1, 1) := by decide +kernel
theorem dX10_kind_40 : decode cX10_kind 40 = .ok (.invokevirtual 205, 3) := by decide +kernel
theorem dX10_kind_43 : decode cX10_kind 43 = .ok (.goto 15, 3) := by decide +kernel
theorem dX10_kind_46 : decode cX10_kind 46 = .ok (.aload_n 0, 1) := by decide +kernel
theorem dX10_kind_47 : decode cX10_kind 47 = .ok (.getfield 12, 3) := by decide +kernel
theorem dX10_kind_50 : decode cX10_kind 50 = .ok (.getfield 173, 3) := by decide +kernel
theorem dX10_kind_53 : decode cX10_kind 53 = .ok (.iload_n 1, 1) := by decide +kernel
theorem dX10_kind_54 : decode cX10_kind 54 = .ok (.iload_n 2, 1) := by decide +kernel
theorem dX10_kind_55 : decode cX10_kind 55 = .ok (.invokevirtual 199, 3) := by decide +kernel
theorem dX10_kind_58 : decode cX10_kind 58 = .ok (.ireturn, 1) := by decide +kernel
theorem dX10_left_0 : decode cX10_left 0 = .ok (.aload_n 0, 1) := by decide +kernel
theorem dX10_left_1 : decode cX10_left 1 = .ok (.getfield 12, 3) := by decide +kernel
theorem dX10_left_4 : decode cX10_left 4 = .ok (.iload_n 1, 1) := by decide +kernel
theorem dX10_left_5 : decode cX10_left 5 = .ok (.iload_n 2, 1) := by decide +kernel
theorem dX10_left_6 : decode cX10_left 6 = .ok (.invokevirtual 93, 3) := by decide +kernel
theorem dX10_left_9 : decode cX10_left 9 = .ok (.ifCond .ne 5, 3) := by decide +kernel
theorem dX10_left_12 : decode cX10_left 12 = .ok (.iconst (-1), 1) := by decide +kernel
theorem dX10_left_13 : decode cX10_left 13 = .ok (.ireturn, 1) := by decide +kernel
theorem dX10_left_14 : decode cX10_left 14 = .ok (.iload_n 3, 1) := by decide +kernel
theorem dX10_left_15 : decode cX10_left 15 = .ok (.ifCond .eq 15, 3) := by decide +kernel
theorem dX10_left_18 : decode cX10_left 18 = .ok (.aload_n 0, 1) := by decide +kernel
theorem dX10_left_19 : decode cX10_left 19 = .ok (.getfield 12, 3) := by decide +kernel
theorem dX10_left_22 : decode cX10_left 22 = .ok (.iload_n 1, 1) := by decide +kernel
theorem dX10_left_23 : decode cX10_left 23 = .ok (.iload_n 2, 1) := by decide +kernel
theorem dX10_left_24 : decode cX10_left 24 = .ok (.invokevirtual 208, 3) := by decide +kernel
theorem dX10_left_27 : decode cX10_left 27 = .ok (.goto 12, 3) := by decide +kernel
theorem dX10_left_30 : decode cX10_left 30 = .ok (.aload_n 0, 1) := by decide +kernel
theorem dX10_left_31 : decode cX10_left 31 = .ok (.getfield 12, 3) := by decide +kernel
theorem dX10_left_34 : decode cX10_left 34 = .ok (.iload_n 1, 1) := by decide +kernel
theorem dX10_left_35 : decode cX10_left 35 = .ok (.iload_n 2, 1) := by decide +kernel
theorem dX10_left_36 : decode cX10_left 36 = .ok (.invokevirtual 211, 3) := by decide +kernel
theorem dX10_left_39 : decode cX10_left 39 = .ok (.ireturn, 1) := by decide +kernel
theorem dX10_want_0 : decode cX10_want 0 = .ok (.aload_n 0, 1) := by decide +kernel
theorem dX10_want_1 : decode cX10_want 1 = .ok (.getfield 12, 3) := by decide +kernel
theorem dX10_want_4 : decode cX10_want 4 = .ok (.getfield 214, 3) := by decide +kernel
theorem dX10_want_7 : decode cX10_want 7 = .ok (.iload_n 1, 1) := by decide +kernel
theorem dX10_want_8 : decode cX10_want 8 = .ok (.iload_n 2, 1) := by decide +kernel
theorem dX10_want_9 : decode cX10_want 9 = .ok (.invokevirtual 199, 3) := by decide +kernel
theorem dX10_want_12 : decode cX10_want 12 = .ok (.ireturn, 1) := by decide +kernel
theorem dX10_book_0 : decode cX10_book 0 = .ok (.aload_n 0, 1) := by decide +kernel
theorem dX10_book_1 : decode cX10_book 1 = .ok (.getfield 12, 3) := by decide +kernel
theorem dX10_book_4 : decode cX10_book 4 = .ok (.getfield 217, 3) := by decide +kernel
theorem dX10_book_7 : decode cX10_book 7 = .ok (.iload_n 1, 1) := by decide +kernel
theorem dX10_book_8 : decode cX10_book 8 = .ok (.iload_n 2, 1) := by decide +kernel
theorem dX10_book_9 : decode cX10_book 9 = .ok (.invokevirtual 199, 3) := by decide +kernel
theorem dX10_book_12 : decode cX10_book 12 = .ok (.ireturn, 1) := by decide +kernel
theorem dX10_goes_0 : decode cX10_goes 0 = .ok (.iload_n 1, 1) := by decide +kernel
theorem dX10_goes_1 : decode cX10_goes 1 = .ok (.iconst 1, 1) := by decide +kernel
theorem dX10_goes_2 : decode cX10_goes 2 = .ok (.bipush 60, 2) := by decide +kernel
theorem dX10_goes_4 : decode cX10_goes 4 = .ok (.invokestatic 80, 3) := by decide +kernel
theorem dX10_goes_7 : decode cX10_goes 7 = .ok (.ifCond .eq 12, 3) := by decide +kernel
theorem dX10_goes_10 : decode cX10_goes 10 = .ok (.iload_n 2, 1) := by decide +kernel
theorem dX10_goes_11 : decode cX10_goes 11 = .ok (.iconst 0, 1) := by decide +kernel
theorem dX10_goes_12 : decode cX10_goes 12 = .ok (.iconst 3, 1) := by decide +kernel
theorem dX10_goes_13 : decode cX10_goes 13 = .ok (.invokestatic 80, 3) := by decide +kernel
theorem dX10_goes_16 : decode cX10_goes 16 = .ok (.ifCond .ne 6, 3) := by decide +kernel
theorem dX10_goes_19 : decode cX10_goes 19 = .ok (.ldc 220, 2) := by decide +kernel
theorem dX10_goes_21 : decode cX10_goes 21 = .ok (.ireturn, 1) := by decide +kernel
theorem dX10_goes_22 : decode cX10_goes 22 = .ok (.aload_n 0, 1) := by decide +kernel
theorem dX10_goes_23 : decode cX10_goes 23 = .ok (.getfield 19, 3) := by decide +kernel
theorem dX10_goes_26 : decode cX10_goes 26 = .ok (.aload_n 0, 1) := by decide +kernel
theorem dX10_goes_27 : decode cX10_goes 27 = .ok (.getfield 12, 3) := by decide +kernel
theorem dX10_goes_30 : decode cX10_goes 30 = .ok (.invokevirtual 221, 3) := by decide +kernel
theorem dX10_goes_33 : decode cX10_goes 33 = .ok (.iconst (-1), 1) := by decide +kernel
theorem dX10_goes_34 : decode cX10_goes 34 = .ok (.istore_n 3, 1) := by decide +kernel
theorem dX10_goes_35 : decode cX10_goes 35 = .ok (.iconst 0, 1) := by decide +kernel
theorem dX10_goes_36 : decode cX10_goes 36 = .ok (.istore 4, 2) := by decide +kernel
theorem dX10_goes_38 : decode cX10_goes 38 = .ok (.iload 4, 2) := by decide +kernel
theorem dX10_goes_40 : decode cX10_goes 40 = .ok (.iload_n 1, 1) := by decide +kernel
theorem dX10_goes_41 : decode cX10_goes 41 = .ok (.if_icmp .ge 38, 3) := by decide +kernel
theorem dX10_goes_44 : decode cX10_goes 44 = .ok (.aload_n 0, 1) := by decide +kernel
theorem dX10_goes_45 : decode cX10_goes 45 = .ok (.getfield 19, 3) := by decide +kernel
theorem dX10_goes_48 : decode cX10_goes 48 = .ok (.invokevirtual 140, 3) := by decide +kernel
theorem dX10_goes_51 : decode cX10_goes 51 = .ok (.pop, 1) := by decide +kernel
theorem dX10_goes_52 : decode cX10_goes 52 = .ok (.iload_n 3, 1) := by decide +kernel
theorem dX10_goes_53 : decode cX10_goes 53 = .ok (.iconst (-1), 1) := by decide +kernel
theorem dX10_goes_54 : decode cX10_goes 54 = .ok (.if_icmp .ne 11, 3) := by decide +kernel
theorem dX10_goes_57 : decode cX10_goes 57 = .ok (.aload_n 0, 1) := by decide +kernel
theorem dX10_goes_58 : decode cX10_goes 58 = .ok (.getfield 19, 3) := by decide +kernel
theorem dX10_goes_61 : decode cX10_goes 61 = .ok (.invokevirtual 224, 3) := by decide +kernel
theorem dX10_goes_64 : decode cX10_goes 64 = .ok (.istore_n 3, 1) := by decide +kernel
theorem dX10_goes_65 : decode cX10_goes 65 = .ok (.aload_n 0, 1) := by decide +kernel
theorem dX10_goes_66 : decode cX10_goes 66 = .ok (.getfield 19, 3) := by decide +kernel
theorem dX10_goes_69 : decode cX10_goes 69 = .ok (.iconst 1, 1) := by decide +kernel
theorem dX10_goes_70 : decode cX10_goes 70 = .ok (.invokevirtual 144, 3) := by decide +kernel
theorem dX10_goes_73 : decode cX10_goes 73 = .ok (.iinc 4 1, 3) := by decide +kernel
theorem dX10_goes_76 : decode cX10_goes 76 = .ok (.goto (-38), 3) := by decide +kernel
theorem dX10_goes_79 : decode cX10_goes 79 = .ok (.iload_n 2, 1) := by decide +kernel
theorem dX10_goes_80 : decode cX10_goes 80 = .ok (.tableswitch 58 0 2 #[28, 36, 47], 28) := by decide +kernel
theorem dX10_goes_108 : decode cX10_goes 108 = .ok (.aload_n 0, 1) := by decide +kernel
theorem dX10_goes_109 : decode cX10_goes 109 = .ok (.getfield 19, 3) := by decide +kernel
theorem dX10_goes_112 : decode cX10_goes 112 = .ok (.getfield 84, 3) := by decide +kernel
theorem dX10_goes_115 : decode cX10_goes 115 = .ok (.ireturn, 1) := by decide +kernel
theorem dX10_goes_116 : decode cX10_goes 116 = .ok (.aload_n 0, 1) := by decide +kernel
theorem dX10_goes_117 : decode cX10_goes 117 = .ok (.getfield 19, 3) := by decide +kernel
theorem dX10_goes_120 : decode cX10_goes 120 = .ok (.invokevirtual 227, 3) := by decide +kernel
theorem dX10_goes_123 : decode cX10_goes 123 = .ok (.invokestatic 230, 3) := by decide +kernel
theorem dX10_goes_126 : decode cX10_goes 126 = .ok (.ireturn, 1) := by decide +kernel
theorem dX10_goes_127 : decode cX10_goes 127 = .ok (.aload_n 0, 1) := by decide +kernel
theorem dX10_goes_128 : decode cX10_goes 128 = .ok (.getfield 19, 3) := by decide +kernel
theorem dX10_goes_131 : decode cX10_goes 131 = .ok (.getfield 123, 3) := by decide +kernel
theorem dX10_goes_134 : decode cX10_goes 134 = .ok (.getfield 176, 3) := by decide +kernel
theorem dX10_goes_137 : decode cX10_goes 137 = .ok (.ireturn, 1) := by decide +kernel
theorem dX10_goes_138 : decode cX10_goes 138 = .ok (.iload_n 3, 1) := by decide +kernel
theorem dX10_goes_139 : decode cX10_goes 139 = .ok (.ireturn, 1) := by decide +kernel
theorem dX10_joins_0 : decode cX10_joins 0 = .ok (.aload_n 0, 1) := by decide +kernel
theorem dX10_joins_1 : decode cX10_joins 1 = .ok (.getfield 12, 3) := by decide +kernel
theorem dX10_joins_4 : decode cX10_joins 4 = .ok (.getfield 173, 3) := by decide +kernel
theorem dX10_joins_7 : decode cX10_joins 7 = .ok (.iload_n 1, 1) := by decide +kernel
theorem dX10_joins_8 : decode cX10_joins 8 = .ok (.invokevirtual 127, 3) := by decide +kernel
theorem dX10_joins_11 : decode cX10_joins 11 = .ok (.ifCond .eq 22, 3) := by decide +kernel
theorem dX10_joins_14 : decode cX10_joins 14 = .ok (.iload_n 2, 1) := by decide +kernel
theorem dX10_joins_15 : decode cX10_joins 15 = .ok (.iconst 1, 1) := by decide +kernel
theorem dX10_joins_16 : decode cX10_joins 16 = .ok (.bipush 99, 2) := by decide +kernel
theorem dX10_joins_18 : decode cX10_joins 18 = .ok (.invokestatic 80, 3) := by decide +kernel
theorem dX10_joins_21 : decode cX10_joins 21 = .ok (.ifCond .eq 12, 3) := by decide +kernel
theorem dX10_joins_24 : decode cX10_joins 24 = .ok (.iload_n 3, 1) := by decide +kernel
theorem dX10_joins_25 : decode cX10_joins 25 = .ok (.iconst 0, 1) := by decide +kernel
theorem dX10_joins_26 : decode cX10_joins 26 = .ok (.iconst 1, 1) := by decide +kernel
theorem dX10_joins_27 : decode cX10_joins 27 = .ok (.invokestatic 80, 3) := by decide +kernel
theorem dX10_joins_30 : decode cX10_joins 30 = .ok (.ifCond .ne 5, 3) := by decide +kernel
theorem dX10_joins_33 : decode cX10_joins 33 = .ok (.iconst (-1), 1) := by decide +kernel
theorem dX10_joins_34 : decode cX10_joins 34 = .ok (.ireturn, 1) := by decide +kernel
theorem dX10_joins_35 : decode cX10_joins 35 = .ok (.aload_n 0, 1) := by decide +kernel
theorem dX10_joins_36 : decode cX10_joins 36 = .ok (.getfield 12, 3) := by decide +kernel
theorem dX10_joins_39 : decode cX10_joins 39 = .ok (.getfield 235, 3) := by decide +kernel
theorem dX10_joins_42 : decode cX10_joins 42 = .ok (.aload_n 0, 1) := by decide +kernel
theorem dX10_joins_43 : decode cX10_joins 43 = .ok (.getfield 12, 3) := by decide +kernel
theorem dX10_joins_46 : decode cX10_joins 46 = .ok (.getfield 123, 3) := by decide +kernel
theorem dX10_joins_49 : decode cX10_joins 49 = .ok (.iload_n 1, 1) := by decide +kernel
theorem dX10_joins_50 : decode cX10_joins 50 = .ok (.iload_n 2, 1) := by decide +kernel
theorem dX10_joins_51 : decode cX10_joins 51 = .ok (.invokevirtual 239, 3) := by decide +kernel
theorem dX10_joins_54 : decode cX10_joins 54 = .ok (.istore 4, 2) := by decide +kernel
theorem dX10_joins_56 : decode cX10_joins 56 = .ok (.iload 4, 2) := by decide +kernel
theorem dX10_joins_58 : decode cX10_joins 58 = .ok (.ifCond .ne 5, 3) := by decide +kernel
theorem dX10_joins_61 : decode cX10_joins 61 = .ok (.iconst (-1), 1) := by decide +kernel
theorem dX10_joins_62 : decode cX10_joins 62 = .ok (.ireturn, 1) := by decide +kernel
theorem dX10_joins_63 : decode cX10_joins 63 = .ok (.iload_n 3, 1) := by decide +kernel
theorem dX10_joins_64 : decode cX10_joins 64 = .ok (.ifCond .ne 11, 3) := by decide +kernel
theorem dX10_joins_67 : decode cX10_joins 67 = .ok (.iload 4, 2) := by decide +kernel
theorem dX10_joins_69 : decode cX10_joins 69 = .ok (.invokestatic 230, 3) := by decide +kernel
theorem dX10_joins_72 : decode cX10_joins 72 = .ok (.goto 5, 3) := by decide +kernel
theorem dX10_joins_75 : decode cX10_joins 75 = .ok (.iload 4, 2) := by decide +kernel
theorem dX10_joins_77 : decode cX10_joins 77 = .ok (.ireturn, 1) := by decide +kernel
theorem dX10_most_0 : decode cX10_most 0 = .ok (.aload_n 0, 1) := by decide +kernel
theorem dX10_most_1 : decode cX10_most 1 = .ok (.getfield 12, 3) := by decide +kernel
theorem dX10_most_4 : decode cX10_most 4 = .ok (.getfield 173, 3) := by decide +kernel
theorem dX10_most_7 : decode cX10_most 7 = .ok (.iload_n 1, 1) := by decide +kernel
theorem dX10_most_8 : decode cX10_most 8 = .ok (.invokevirtual 127, 3) := by decide +kernel
theorem dX10_most_11 : decode cX10_most 11 = .ok (.ifCond .eq 12, 3) := by decide +kernel
theorem dX10_most_14 : decode cX10_most 14 = .ok (.iload_n 3, 1) := by decide +kernel
theorem dX10_most_15 : decode cX10_most 15 = .ok (.iconst 0, 1) := by decide +kernel
theorem dX10_most_16 : decode cX10_most 16 = .ok (.iconst 2, 1) := by decide +kernel
theorem dX10_most_17 : decode cX10_most 17 = .ok (.invokestatic 80, 3) := by decide +kernel
theorem dX10_most_20 : decode cX10_most 20 = .ok (.ifCond .ne 5, 3) := by decide +kernel
theorem dX10_most_23 : decode cX10_most 23 = .ok (.iconst (-1), 1) := by decide +kernel
theorem dX10_most_24 : decode cX10_most 24 = .ok (.ireturn, 1) := by decide +kernel
theorem dX10_most_25 : decode cX10_most 25 = .ok (.aload_n 0, 1) := by decide +kernel
theorem dX10_most_26 : decode cX10_most 26 = .ok (.getfield 12, 3) := by decide +kernel
theorem dX10_most_29 : decode cX10_most 29 = .ok (.iload_n 1, 1) := by decide +kernel
theorem dX10_most_30 : decode cX10_most 30 = .ok (.invokevirtual 245, 3) := by decide +kernel
theorem dX10_most_33 : decode cX10_most 33 = .ok (.istore 4, 2) := by decide +kernel
theorem dX10_most_35 : decode cX10_most 35 = .ok (.iload_n 3, 1) := by decide +kernel
theorem dX10_most_36 : decode cX10_most 36 = .ok (.ifCond .ne 6, 3) := by decide +kernel
theorem dX10_most_39 : decode cX10_most 39 = .ok (.iload 4, 2) := by decide +kernel
theorem dX10_most_41 : decode cX10_most 41 = .ok (.ireturn, 1) := by decide +kernel
theorem dX10_most_42 : decode cX10_most 42 = .ok (.aload_n 0, 1) := by decide +kernel
theorem dX10_most_43 : decode cX10_most 43 = .ok (.getfield 12, 3) := by decide +kernel
theorem dX10_most_46 : decode cX10_most 46 = .ok (.iload_n 1, 1) := by decide +kernel
theorem dX10_most_47 : decode cX10_most 47 = .ok (.iload 4, 2) := by decide +kernel
theorem dX10_most_49 : decode cX10_most 49 = .ok (.invokevirtual 211, 3) := by decide +kernel
theorem dX10_most_52 : decode cX10_most 52 = .ok (.istore 5, 2) := by decide +kernel
theorem dX10_most_54 : decode cX10_most 54 = .ok (.iload_n 3, 1) := by decide +kernel
theorem dX10_most_55 : decode cX10_most 55 = .ok (.iconst 1, 1) := by decide +kernel
theorem dX10_most_56 : decode cX10_most 56 = .ok (.if_icmp .ne 8, 3) := by decide +kernel
theorem dX10_most_59 : decode cX10_most 59 = .ok (.iload 5, 2) := by decide +kernel
theorem dX10_most_61 : decode cX10_most 61 = .ok (.goto 9, 3) := by decide +kernel
theorem dX10_most_64 : decode cX10_most 64 = .ok (.iload 5, 2) := by decide +kernel
theorem dX10_most_66 : decode cX10_most 66 = .ok (.iload_n 2, 1) := by decide +kernel
theorem dX10_most_67 : decode cX10_most 67 = .ok (.invokestatic 248, 3) := by decide +kernel
theorem dX10_most_70 : decode cX10_most 70 = .ok (.ireturn, 1) := by decide +kernel
theorem dX10_piece_0 : decode cX10_piece 0 = .ok (.iload_n 1, 1) := by decide +kernel
theorem dX10_piece_1 : decode cX10_piece 1 = .ok (.iconst (-1), 1) := by decide +kernel
theorem dX10_piece_2 : decode cX10_piece 2 = .ok (.if_icmp .ne 14, 3) := by decide +kernel
theorem dX10_piece_5 : decode cX10_piece 5 = .ok (.aload_n 0, 1) := by decide +kernel
theorem dX10_piece_6 : decode cX10_piece 6 = .ok (.getfield 25, 3) := by decide +kernel
theorem dX10_piece_9 : decode cX10_piece 9 = .ok (.getfield 251, 3) := by decide +kernel
theorem dX10_piece_12 : decode cX10_piece 12 = .ok (.invokevirtual 254, 3) := by decide +kernel
theorem dX10_piece_15 : decode cX10_piece 15 = .ok (.ireturn, 1) := by decide +kernel
theorem dX10_piece_16 : decode cX10_piece 16 = .ok (.iload_n 1, 1) := by decide +kernel
theorem dX10_piece_17 : decode cX10_piece 17 = .ok (.iconst 1, 1) := by decide +kernel
theorem dX10_piece_18 : decode cX10_piece 18 = .ok (.bipush 30, 2) := by decide +kernel
theorem dX10_piece_20 : decode cX10_piece 20 = .ok (.invokestatic 80, 3) := by decide +kernel
theorem dX10_piece_23 : decode cX10_piece 23 = .ok (.ifCond .eq 13, 3) := by decide +kernel
theorem dX10_piece_26 : decode cX10_piece 26 = .ok (.iload_n 2, 1) := by decide +kernel
theorem dX10_piece_27 : decode cX10_piece 27 = .ok (.iconst 1, 1) := by decide +kernel
theorem dX10_piece_28 : decode cX10_piece 28 = .ok (.bipush 99, 2) := by decide +kernel
theorem dX10_piece_30 : decode cX10_piece 30 = .ok (.invokestatic 80, 3) := by decide +kernel
theorem dX10_piece_33 : decode cX10_piece 33 = .ok (.ifCond .ne 5, 3) := by decide +kernel
theorem dX10_piece_36 : decode cX10_piece 36 = .ok (.iconst (-1), 1) := by decide +kernel
theorem dX10_piece_37 : decode cX10_piece 37 = .ok (.ireturn, 1) := by decide +kernel
theorem dX10_piece_38 : decode cX10_piece 38 = .ok (.aload_n 0, 1) := by decide +kernel
theorem dX10_piece_39 : decode cX10_piece 39 = .ok (.getfield 25, 3) := by decide +kernel
theorem dX10_piece_42 : decode cX10_piece 42 = .ok (.getfield 251, 3) := by decide +kernel
theorem dX10_piece_45 : decode cX10_piece 45 = .ok (.iload_n 1, 1) := by decide +kernel
theorem dX10_piece_46 : decode cX10_piece 46 = .ok (.iload_n 2, 1) := by decide +kernel
theorem dX10_piece_47 : decode cX10_piece 47 = .ok (.iconst 0, 1) := by decide +kernel
theorem dX10_piece_48 : decode cX10_piece 48 = .ok (.iconst 0, 1) := by decide +kernel
theorem dX10_piece_49 : decode cX10_piece 49 = .ok (.invokevirtual 257, 3) := by decide +kernel
theorem dX10_piece_52 : decode cX10_piece 52 = .ok (.ireturn, 1) := by decide +kernel
theorem dX10_cuts_0 : decode cX10_cuts 0 = .ok (.iload_n 2, 1) := by decide +kernel
theorem dX10_cuts_1 : decode cX10_cuts 1 = .ok (.bipush 10, 2) := by decide +kernel
theorem dX10_cuts_3 : decode cX10_cuts 3 = .ok (.isub, 1) := by decide +kernel
theorem dX10_cuts_4 : decode cX10_cuts 4 = .ok (.istore_n 3, 1) := by decide +kernel
theorem dX10_cuts_5 : decode cX10_cuts 5 = .ok (.iload_n 1, 1) := by decide +kernel
theorem dX10_cuts_6 : decode cX10_cuts 6 = .ok (.iconst 0, 1) := by decide +kernel
theorem dX10_cuts_7 : decode cX10_cuts 7 = .ok (.bipush 99, 2) := by decide +kernel
theorem dX10_cuts_9 : decode cX10_cuts 9 = .ok (.invokestatic 80, 3) := by decide +kernel
theorem dX10_cuts_12 : decode cX10_cuts 12 = .ok (.ifCond .eq 27, 3) := by decide +kernel
theorem dX10_cuts_15 : decode cX10_cuts 15 = .ok (.iload_n 2, 1) := by decide +kernel
theorem dX10_cuts_16 : decode cX10_cuts 16 = .ok (.ifCond .eq 25, 3) := by decide +kernel
theorem dX10_cuts_19 : decode cX10_cuts 19 = .ok (.iload_n 2, 1) := by decide +kernel
theorem dX10_cuts_20 : decode cX10_cuts 20 = .ok (.bipush 10, 2) := by decide +kernel
theorem dX10_cuts_22 : decode cX10_cuts 22 = .ok (.if_icmp .lt 17, 3) := by decide +kernel
theorem dX10_cuts_25 : decode cX10_cuts 25 = .ok (.aload_n 0, 1) := by decide +kernel
theorem dX10_cuts_26 : decode cX10_cuts 26 = .ok (.getfield 25, 3) := by decide +kernel
theorem dX10_cuts_29 : decode cX10_cuts 29 = .ok (.getfield 251, 3) := by decide +kernel
theorem dX10_cuts_32 : decode cX10_cuts 32 = .ok (.iload_n 3, 1) := by decide +kernel
theorem dX10_cuts_33 : decode cX10_cuts 33 = .ok (.invokevirtual 127, 3) := by decide +kernel
theorem dX10_cuts_36 : decode cX10_cuts 36 = .ok (.ifCond .ne 5, 3) := by decide +kernel
theorem dX10_cuts_39 : decode cX10_cuts 39 = .ok (.iconst (-1), 1) := by decide +kernel
theorem dX10_cuts_40 : decode cX10_cuts 40 = .ok (.ireturn, 1) := by decide +kernel
theorem dX10_cuts_41 : decode cX10_cuts 41 = .ok (.aload_n 0, 1) := by decide +kernel
theorem dX10_cuts_42 : decode cX10_cuts 42 = .ok (.getfield 25, 3) := by decide +kernel
theorem dX10_cuts_45 : decode cX10_cuts 45 = .ok (.iload_n 1, 1) := by decide +kernel
theorem dX10_cuts_46 : decode cX10_cuts 46 = .ok (.invokevirtual 261, 3) := by decide +kernel
theorem dX10_cuts_49 : decode cX10_cuts 49 = .ok (.iload_n 2, 1) := by decide +kernel
theorem dX10_cuts_50 : decode cX10_cuts 50 = .ok (.ifCond .ne 14, 3) := by decide +kernel
theorem dX10_cuts_53 : decode cX10_cuts 53 = .ok (.aload_n 0, 1) := by decide +kernel
theorem dX10_cuts_54 : decode cX10_cuts 54 = .ok (.getfield 25, 3) := by decide +kernel
theorem dX10_cuts_57 : decode cX10_cuts 57 = .ok (.iload_n 1, 1) := by decide +kernel
theorem dX10_cuts_58 : decode cX10_cuts 58 = .ok (.invokevirtual 264, 3) := by decide +kernel
theorem dX10_cuts_61 : decode cX10_cuts 61 = .ok (.goto 12, 3) := by decide +kernel
theorem dX10_cuts_64 : decode cX10_cuts 64 = .ok (.aload_n 0, 1) := by decide +kernel
theorem dX10_cuts_65 : decode cX10_cuts 65 = .ok (.getfield 25, 3) := by decide +kernel
theorem dX10_cuts_68 : decode cX10_cuts 68 = .ok (.iload_n 1, 1) := by decide +kernel
theorem dX10_cuts_69 : decode cX10_cuts 69 = .ok (.iload_n 3, 1) := by decide +kernel
theorem dX10_cuts_70 : decode cX10_cuts 70 = .ok (.invokevirtual 267, 3) := by decide +kernel
theorem dX10_cuts_73 : decode cX10_cuts 73 = .ok (.ireturn, 1) := by decide +kernel
theorem dX10_stalls_0 : decode cX10_stalls 0 = .ok (.iload_n 1, 1) := by decide +kernel
theorem dX10_stalls_1 : decode cX10_stalls 1 = .ok (.iconst 1, 1) := by decide +kernel
theorem dX10_stalls_2 : decode cX10_stalls 2 = .ok (.bipush 99, 2) := by decide +kernel
theorem dX10_stalls_4 : decode cX10_stalls 4 = .ok (.invokestatic 80, 3) := by decide +kernel
theorem dX10_stalls_7 : decode cX10_stalls 7 = .ok (.ifCond .eq 21, 3) := by decide +kernel
theorem dX10_stalls_10 : decode cX10_stalls 10 = .ok (.aload_n 0, 1) := by decide +kernel
theorem dX10_stalls_11 : decode cX10_stalls 11 = .ok (.getfield 65, 3) := by decide +kernel
theorem dX10_stalls_14 : decode cX10_stalls 14 = .ok (.aload_n 0, 1) := by decide +kernel
theorem dX10_stalls_15 : decode cX10_stalls 15 = .ok (.getfield 12, 3) := by decide +kernel
theorem dX10_stalls_18 : decode cX10_stalls 18 = .ok (.getfield 123, 3) := by decide +kernel
theorem dX10_stalls_21 : decode cX10_stalls 21 = .ok (.iload_n 1, 1) := by decide +kernel
theorem dX10_stalls_22 : decode cX10_stalls 22 = .ok (.invokevirtual 270, 3) := by decide +kernel
theorem dX10_stalls_25 : decode cX10_stalls 25 = .ok (.goto 4, 3) := by decide +kernel
theorem dX10_stalls_28 : decode cX10_stalls 28 = .ok (.iconst (-1), 1) := by decide +kernel
theorem dX10_stalls_29 : decode cX10_stalls 29 = .ok (.ireturn, 1) := by decide +kernel
theorem dX10_test_0 : decode cX10_test 0 = .ok (.iload_n 1, 1) := by decide +kernel
theorem dX10_test_1 : decode cX10_test 1 = .ok (.iconst (-1), 1) := by decide +kernel
theorem dX10_test_2 : decode cX10_test 2 = .ok (.if_icmp .ne 14, 3) := by decide +kernel
theorem dX10_test_5 : decode cX10_test 5 = .ok (.aload_n 0, 1) := by decide +kernel
theorem dX10_test_6 : decode cX10_test 6 = .ok (.getfield 25, 3) := by decide +kernel
theorem dX10_test_9 : decode cX10_test 9 = .ok (.getfield 274, 3) := by decide +kernel
theorem dX10_test_12 : decode cX10_test 12 = .ok (.invokevirtual 254, 3) := by decide +kernel
theorem dX10_test_15 : decode cX10_test 15 = .ok (.ireturn, 1) := by decide +kernel
theorem dX10_test_16 : decode cX10_test 16 = .ok (.iload_n 1, 1) := by decide +kernel
theorem dX10_test_17 : decode cX10_test 17 = .ok (.iconst 1, 1) := by decide +kernel
theorem dX10_test_18 : decode cX10_test 18 = .ok (.sipush 999, 3) := by decide +kernel
theorem dX10_test_21 : decode cX10_test 21 = .ok (.invokestatic 80, 3) := by decide +kernel
theorem dX10_test_24 : decode cX10_test 24 = .ok (.ifCond .eq 14, 3) := by decide +kernel
theorem dX10_test_27 : decode cX10_test 27 = .ok (.iload_n 2, 1) := by decide +kernel
theorem dX10_test_28 : decode cX10_test 28 = .ok (.iconst 1, 1) := by decide +kernel
theorem dX10_test_29 : decode cX10_test 29 = .ok (.sipush 999, 3) := by decide +kernel
theorem dX10_test_32 : decode cX10_test 32 = .ok (.invokestatic 80, 3) := by decide +kernel
theorem dX10_test_35 : decode cX10_test 35 = .ok (.ifCond .ne 5, 3) := by decide +kernel
theorem dX10_test_38 : decode cX10_test 38 = .ok (.iconst (-1), 1) := by decide +kernel
theorem dX10_test_39 : decode cX10_test 39 = .ok (.ireturn, 1) := by decide +kernel
theorem dX10_test_40 : decode cX10_test 40 = .ok (.aload_n 0, 1) := by decide +kernel
theorem dX10_test_41 : decode cX10_test 41 = .ok (.getfield 25, 3) := by decide +kernel
theorem dX10_test_44 : decode cX10_test 44 = .ok (.getfield 274, 3) := by decide +kernel
theorem dX10_test_47 : decode cX10_test 47 = .ok (.iload_n 1, 1) := by decide +kernel
theorem dX10_test_48 : decode cX10_test 48 = .ok (.iload_n 2, 1) := by decide +kernel
theorem dX10_test_49 : decode cX10_test 49 = .ok (.iconst 0, 1) := by decide +kernel
theorem dX10_test_50 : decode cX10_test 50 = .ok (.iconst 0, 1) := by decide +kernel
theorem dX10_test_51 : decode cX10_test 51 = .ok (.invokevirtual 257, 3) := by decide +kernel
theorem dX10_test_54 : decode cX10_test 54 = .ok (.ireturn, 1) := by decide +kernel
theorem dX10_forged_0 : decode cX10_forged 0 = .ok (.iconst 1, 1) := by decide +kernel
theorem dX10_forged_1 : decode cX10_forged 1 = .ok (.aload_n 0, 1) := by decide +kernel
theorem dX10_forged_2 : decode cX10_forged 2 = .ok (.getfield 25, 3) := by decide +kernel
theorem dX10_forged_5 : decode cX10_forged 5 = .ok (.getfield 274, 3) := by decide +kernel
theorem dX10_forged_8 : decode cX10_forged 8 = .ok (.getfield 176, 3) := by decide +kernel
theorem dX10_forged_11 : decode cX10_forged 11 = .ok (.ishl, 1) := by decide +kernel
theorem dX10_forged_12 : decode cX10_forged 12 = .ok (.iconst 1, 1) := by decide +kernel
theorem dX10_forged_13 : decode cX10_forged 13 = .ok (.isub, 1) := by decide +kernel
theorem dX10_forged_14 : decode cX10_forged 14 = .ok (.istore 4, 2) := by decide +kernel
theorem dX10_forged_16 : decode cX10_forged 16 = .ok (.iload_n 1, 1) := by decide +kernel
theorem dX10_forged_17 : decode cX10_forged 17 = .ok (.iconst 0, 1) := by decide +kernel
theorem dX10_forged_18 : decode cX10_forged 18 = .ok (.sipush 1000, 3) := by decide +kernel
theorem dX10_forged_21 : decode cX10_forged 21 = .ok (.invokestatic 80, 3) := by decide +kernel
theorem dX10_forged_24 : decode cX10_forged 24 = .ok (.ifCond .eq 29, 3) := by decide +kernel
theorem dX10_forged_27 : decode cX10_forged 27 = .ok (.iload_n 2, 1) := by decide +kernel
theorem dX10_forged_28 : decode cX10_forged 28 = .ok (.iconst 0, 1) := by decide +kernel
theorem dX10_forged_29 : decode cX10_forged 29 = .ok (.iload 4, 2) := by decide +kernel
theorem dX10_forged_31 : decode cX10_forged 31 = .ok (.invokestatic 80, 3) := by decide +kernel
theorem dX10_forged_34 : decode cX10_forged 34 = .ok (.ifCond .eq 19, 3) := by decide +kernel
theorem dX10_forged_37 : decode cX10_forged 37 = .ok (.iload_n 3, 1) := by decide +kernel
theorem dX10_forged_38 : decode cX10_forged 38 = .ok (.iconst 0, 1) := by decide +kernel
theorem dX10_forged_39 : decode cX10_forged 39 = .ok (.iload 4, 2) := by decide +kernel
theorem dX10_forged_41 : decode cX10_forged 41 = .ok (.invokestatic 80, 3) := by decide +kernel
theorem dX10_forged_44 : decode cX10_forged 44 = .ok (.ifCond .eq 9, 3) := by decide +kernel
theorem dX10_forged_47 : decode cX10_forged 47 = .ok (.iload_n 2, 1) := by decide +kernel
theorem dX10_forged_48 : decode cX10_forged 48 = .ok (.iload_n 3, 1) := by decide +kernel
theorem dX10_forged_49 : decode cX10_forged 49 = .ok (.iand, 1) := by decide +kernel
theorem dX10_forged_50 : decode cX10_forged 50 = .ok (.ifCond .eq 5, 3) := by decide +kernel
theorem dX10_forged_53 : decode cX10_forged 53 = .ok (.iconst (-1), 1) := by decide +kernel
theorem dX10_forged_54 : decode cX10_forged 54 = .ok (.ireturn, 1) := by decide +kernel
theorem dX10_forged_55 : decode cX10_forged 55 = .ok (.aload_n 0, 1) := by decide +kernel
theorem dX10_forged_56 : decode cX10_forged 56 = .ok (.getfield 25, 3) := by decide +kernel
theorem dX10_forged_59 : decode cX10_forged 59 = .ok (.iload_n 1, 1) := by decide +kernel
theorem dX10_forged_60 : decode cX10_forged 60 = .ok (.iload_n 2, 1) := by decide +kernel
theorem dX10_forged_61 : decode cX10_forged 61 = .ok (.iload_n 3, 1) := by decide +kernel
theorem dX10_forged_62 : decode cX10_forged 62 = .ok (.invokevirtual 277, 3) := by decide +kernel
theorem dX10_forged_65 : decode cX10_forged 65 = .ok (.ireturn, 1) := by decide +kernel
theorem dX10_lookAt_0 : decode cX10_lookAt 0 = .ok (.iload_n 1, 1) := by decide +kernel
theorem dX10_lookAt_1 : decode cX10_lookAt 1 = .ok (.iconst 0, 1) := by decide +kernel
theorem dX10_lookAt_2 : decode cX10_lookAt 2 = .ok (.sipush 1000, 3) := by decide +kernel
theorem dX10_lookAt_5 : decode cX10_lookAt 5 = .ok (.invokestatic 80, 3) := by decide +kernel
theorem dX10_lookAt_8 : decode cX10_lookAt 8 = .ok (.ifCond .eq 14, 3) := by decide +kernel
theorem dX10_lookAt_11 : decode cX10_lookAt 11 = .ok (.aload_n 0, 1) := by decide +kernel
theorem dX10_lookAt_12 : decode cX10_lookAt 12 = .ok (.getfield 25, 3) := by decide +kernel
theorem dX10_lookAt_15 : decode cX10_lookAt 15 = .ok (.iload_n 1, 1) := by decide +kernel
theorem dX10_lookAt_16 : decode cX10_lookAt 16 = .ok (.invokevirtual 281, 3) := by decide +kernel
theorem dX10_lookAt_19 : decode cX10_lookAt 19 = .ok (.goto 4, 3) := by decide +kernel
theorem dX10_lookAt_22 : decode cX10_lookAt 22 = .ok (.iconst (-1), 1) := by decide +kernel
theorem dX10_lookAt_23 : decode cX10_lookAt 23 = .ok (.ireturn, 1) := by decide +kernel
theorem dX10_crumbs_0 : decode cX10_crumbs 0 = .ok (.iload_n 1, 1) := by decide +kernel
theorem dX10_crumbs_1 : decode cX10_crumbs 1 = .ok (.iconst 0, 1) := by decide +kernel
theorem dX10_crumbs_2 : decode cX10_crumbs 2 = .ok (.bipush 99, 2) := by decide +kernel
theorem dX10_crumbs_4 : decode cX10_crumbs 4 = .ok (.invokestatic 80, 3) := by decide +kernel
theorem dX10_crumbs_7 : decode cX10_crumbs 7 = .ok (.ifCond .eq 12, 3) := by decide +kernel
theorem dX10_crumbs_10 : decode cX10_crumbs 10 = .ok (.iload_n 2, 1) := by decide +kernel
theorem dX10_crumbs_11 : decode cX10_crumbs 11 = .ok (.iconst 0, 1) := by decide +kernel
theorem dX10_crumbs_12 : decode cX10_crumbs 12 = .ok (.iconst 1, 1) := by decide +kernel
theorem dX10_crumbs_13 : decode cX10_crumbs 13 = .ok (.invokestatic 80, 3) := by decide +kernel
theorem dX10_crumbs_16 : decode cX10_crumbs 16 = .ok (.ifCond .ne 5, 3) := by decide +kernel
theorem dX10_crumbs_19 : decode cX10_crumbs 19 = .ok (.iconst (-1), 1) := by decide +kernel
theorem dX10_crumbs_20 : decode cX10_crumbs 20 = .ok (.ireturn, 1) := by decide +kernel
theorem dX10_crumbs_21 : decode cX10_crumbs 21 = .ok (.aload_n 0, 1) := by decide +kernel
theorem dX10_crumbs_22 : decode cX10_crumbs 22 = .ok (.getfield 12, 3) := by decide +kernel
theorem dX10_crumbs_25 : decode cX10_crumbs 25 = .ok (.iload_n 1, 1) := by decide +kernel
theorem dX10_crumbs_26 : decode cX10_crumbs 26 = .ok (.invokevirtual 284, 3) := by decide +kernel
theorem dX10_crumbs_29 : decode cX10_crumbs 29 = .ok (.istore_n 3, 1) := by decide +kernel
theorem dX10_crumbs_30 : decode cX10_crumbs 30 = .ok (.iload_n 2, 1) := by decide +kernel
theorem dX10_crumbs_31 : decode cX10_crumbs 31 = .ok (.ifCond .ne 7, 3) := by decide +kernel
theorem dX10_crumbs_34 : decode cX10_crumbs 34 = .ok (.iload_n 3, 1) := by decide +kernel
theorem dX10_crumbs_35 : decode cX10_crumbs 35 = .ok (.goto 11, 3) := by decide +kernel
theorem dX10_crumbs_38 : decode cX10_crumbs 38 = .ok (.aload_n 0, 1) := by decide +kernel
theorem dX10_crumbs_39 : decode cX10_crumbs 39 = .ok (.getfield 12, 3) := by decide +kernel
theorem dX10_crumbs_42 : decode cX10_crumbs 42 = .ok (.iload_n 3, 1) := by decide +kernel
theorem dX10_crumbs_43 : decode cX10_crumbs 43 = .ok (.invokevirtual 287, 3) := by decide +kernel
theorem dX10_crumbs_46 : decode cX10_crumbs 46 = .ok (.ireturn, 1) := by decide +kernel
theorem dX10_cooks_0 : decode cX10_cooks 0 = .ok (.iload_n 1, 1) := by decide +kernel
theorem dX10_cooks_1 : decode cX10_cooks 1 = .ok (.iconst 0, 1) := by decide +kernel
theorem dX10_cooks_2 : decode cX10_cooks 2 = .ok (.iconst 1, 1) := by decide +kernel
theorem dX10_cooks_3 : decode cX10_cooks 3 = .ok (.invokestatic 80, 3) := by decide +kernel
theorem dX10_cooks_6 : decode cX10_cooks 6 = .ok (.ifCond .ne 5, 3) := by decide +kernel
theorem dX10_cooks_9 : decode cX10_cooks 9 = .ok (.iconst (-1), 1) := by decide +kernel
theorem dX10_cooks_10 : decode cX10_cooks 10 = .ok (.ireturn, 1) := by decide +kernel
theorem dX10_cooks_11 : decode cX10_cooks 11 = .ok (.aload_n 0, 1) := by decide +kernel
theorem dX10_cooks_12 : decode cX10_cooks 12 = .ok (.getfield 65, 3) := by decide +kernel
theorem dX10_cooks_15 : decode cX10_cooks 15 = .ok (.aload_n 0, 1) := by decide +kernel
theorem dX10_cooks_16 : decode cX10_cooks 16 = .ok (.getfield 12, 3) := by decide +kernel
theorem dX10_cooks_19 : decode cX10_cooks 19 = .ok (.invokevirtual 290, 3) := by decide +kernel
theorem dX10_cooks_22 : decode cX10_cooks 22 = .ok (.iload_n 1, 1) := by decide +kernel
theorem dX10_cooks_23 : decode cX10_cooks 23 = .ok (.ifCond .ne 13, 3) := by decide +kernel
theorem dX10_cooks_26 : decode cX10_cooks 26 = .ok (.aload_n 0, 1) := by decide +kernel
theorem dX10_cooks_27 : decode cX10_cooks 27 = .ok (.getfield 65, 3) := by decide +kernel
theorem dX10_cooks_30 : decode cX10_cooks 30 = .ok (.getfield 293, 3) := by decide +kernel
theorem dX10_cooks_33 : decode cX10_cooks 33 = .ok (.goto 10, 3) := by decide +kernel
theorem dX10_cooks_36 : decode cX10_cooks 36 = .ok (.aload_n 0, 1) := by decide +kernel
theorem dX10_cooks_37 : decode cX10_cooks 37 = .ok (.getfield 65, 3) := by decide +kernel
theorem dX10_cooks_40 : decode cX10_cooks 40 = .ok (.getfield 296, 3) := by decide +kernel
theorem dX10_cooks_43 : decode cX10_cooks 43 = .ok (.ireturn, 1) := by decide +kernel
theorem dX10_waits_0 : decode cX10_waits 0 = .ok (.aload_n 0, 1) := by decide +kernel
theorem dX10_waits_1 : decode cX10_waits 1 = .ok (.getfield 12, 3) := by decide +kernel
theorem dX10_waits_4 : decode cX10_waits 4 = .ok (.getfield 123, 3) := by decide +kernel
theorem dX10_waits_7 : decode cX10_waits 7 = .ok (.iload_n 1, 1) := by decide +kernel
theorem dX10_waits_8 : decode cX10_waits 8 = .ok (.invokevirtual 127, 3) := by decide +kernel
theorem dX10_waits_11 : decode cX10_waits 11 = .ok (.ifCond .eq 24, 3) := by decide +kernel
theorem dX10_waits_14 : decode cX10_waits 14 = .ok (.aload_n 0, 1) := by decide +kernel
theorem dX10_waits_15 : decode cX10_waits 15 = .ok (.getfield 12, 3) := by decide +kernel
theorem dX10_waits_18 : decode cX10_waits 18 = .ok (.iload_n 1, 1) := by decide +kernel
theorem dX10_waits_19 : decode cX10_waits 19 = .ok (.iconst 0, 1) := by decide +kernel
theorem dX10_waits_20 : decode cX10_waits 20 = .ok (.invokevirtual 299, 3) := by decide +kernel
theorem dX10_waits_23 : decode cX10_waits 23 = .ok (.ifCond .ne 12, 3) := by decide +kernel
theorem dX10_waits_26 : decode cX10_waits 26 = .ok (.iload_n 2, 1) := by decide +kernel
theorem dX10_waits_27 : decode cX10_waits 27 = .ok (.iconst 0, 1) := by decide +kernel
theorem dX10_waits_28 : decode cX10_waits 28 = .ok (.iconst 1, 1) := by decide +kernel
theorem dX10_waits_29 : decode cX10_waits 29 = .ok (.invokestatic 80, 3) := by decide +kernel
theorem dX10_waits_32 : decode cX10_waits 32 = .ok (.ifCond .ne 5, 3) := by decide +kernel
theorem dX10_waits_35 : decode cX10_waits 35 = .ok (.iconst (-1), 1) := by decide +kernel
theorem dX10_waits_36 : decode cX10_waits 36 = .ok (.ireturn, 1) := by decide +kernel
theorem dX10_waits_37 : decode cX10_waits 37 = .ok (.aload_n 0, 1) := by decide +kernel
theorem dX10_waits_38 : decode cX10_waits 38 = .ok (.getfield 12, 3) := by decide +kernel
theorem dX10_waits_41 : decode cX10_waits 41 = .ok (.iload_n 1, 1) := by decide +kernel
theorem dX10_waits_42 : decode cX10_waits 42 = .ok (.invokevirtual 302, 3) := by decide +kernel
theorem dX10_waits_45 : decode cX10_waits 45 = .ok (.istore_n 3, 1) := by decide +kernel
theorem dX10_waits_46 : decode cX10_waits 46 = .ok (.iload_n 2, 1) := by decide +kernel
theorem dX10_waits_47 : decode cX10_waits 47 = .ok (.ifCond .ne 7, 3) := by decide +kernel
theorem dX10_waits_50 : decode cX10_waits 50 = .ok (.iload_n 3, 1) := by decide +kernel
theorem dX10_waits_51 : decode cX10_waits 51 = .ok (.goto 12, 3) := by decide +kernel
theorem dX10_waits_54 : decode cX10_waits 54 = .ok (.aload_n 0, 1) := by decide +kernel
theorem dX10_waits_55 : decode cX10_waits 55 = .ok (.getfield 12, 3) := by decide +kernel
theorem dX10_waits_58 : decode cX10_waits 58 = .ok (.iload_n 1, 1) := by decide +kernel
theorem dX10_waits_59 : decode cX10_waits 59 = .ok (.iload_n 3, 1) := by decide +kernel
theorem dX10_waits_60 : decode cX10_waits 60 = .ok (.invokevirtual 193, 3) := by decide +kernel
theorem dX10_waits_63 : decode cX10_waits 63 = .ok (.ireturn, 1) := by decide +kernel
theorem dX10_limit_0 : decode cX10_limit 0 = .ok (.iload_n 1, 1) := by decide +kernel
theorem dX10_limit_1 : decode cX10_limit 1 = .ok (.iconst (-1), 1) := by decide +kernel
theorem dX10_limit_2 : decode cX10_limit 2 = .ok (.if_icmp .ne 14, 3) := by decide +kernel
theorem dX10_limit_5 : decode cX10_limit 5 = .ok (.aload_n 0, 1) := by decide +kernel
theorem dX10_limit_6 : decode cX10_limit 6 = .ok (.getfield 25, 3) := by decide +kernel
theorem dX10_limit_9 : decode cX10_limit 9 = .ok (.getfield 305, 3) := by decide +kernel
theorem dX10_limit_12 : decode cX10_limit 12 = .ok (.invokevirtual 254, 3) := by decide +kernel
theorem dX10_limit_15 : decode cX10_limit 15 = .ok (.ireturn, 1) := by decide +kernel
theorem dX10_limit_16 : decode cX10_limit 16 = .ok (.iload_n 1, 1) := by decide +kernel
theorem dX10_limit_17 : decode cX10_limit 17 = .ok (.iconst 1, 1) := by decide +kernel
theorem dX10_limit_18 : decode cX10_limit 18 = .ok (.sipush 999, 3) := by decide +kernel
theorem dX10_limit_21 : decode cX10_limit 21 = .ok (.invokestatic 80, 3) := by decide +kernel
theorem dX10_limit_24 : decode cX10_limit 24 = .ok (.ifCond .eq 20, 3) := by decide +kernel
theorem dX10_limit_27 : decode cX10_limit 27 = .ok (.aload_n 0, 1) := by decide +kernel
theorem dX10_limit_28 : decode cX10_limit 28 = .ok (.getfield 25, 3) := by decide +kernel
theorem dX10_limit_31 : decode cX10_limit 31 = .ok (.getfield 305, 3) := by decide +kernel
theorem dX10_limit_34 : decode cX10_limit 34 = .ok (.iload_n 1, 1) := by decide +kernel
theorem dX10_limit_35 : decode cX10_limit 35 = .ok (.iconst 0, 1) := by decide +kernel
theorem dX10_limit_36 : decode cX10_limit 36 = .ok (.iconst 0, 1) := by decide +kernel
theorem dX10_limit_37 : decode cX10_limit 37 = .ok (.iconst 0, 1) := by decide +kernel
theorem dX10_limit_38 : decode cX10_limit 38 = .ok (.invokevirtual 257, 3) := by decide +kernel
theorem dX10_limit_41 : decode cX10_limit 41 = .ok (.goto 4, 3) := by decide +kernel
theorem dX10_limit_44 : decode cX10_limit 44 = .ok (.iconst (-1), 1) := by decide +kernel
theorem dX10_limit_45 : decode cX10_limit 45 = .ok (.ireturn, 1) := by decide +kernel
theorem dX10_dusk_0 : decode cX10_dusk 0 = .ok (.iload_n 1, 1) := by decide +kernel
theorem dX10_dusk_1 : decode cX10_dusk 1 = .ok (.iconst 1, 1) := by decide +kernel
theorem dX10_dusk_2 : decode cX10_dusk 2 = .ok (.sipush 999, 3) := by decide +kernel
theorem dX10_dusk_5 : decode cX10_dusk 5 = .ok (.invokestatic 80, 3) := by decide +kernel
theorem dX10_dusk_8 : decode cX10_dusk 8 = .ok (.ifCond .eq 22, 3) := by decide +kernel
theorem dX10_dusk_11 : decode cX10_dusk 11 = .ok (.iload_n 2, 1) := by decide +kernel
theorem dX10_dusk_12 : decode cX10_dusk 12 = .ok (.iconst 1, 1) := by decide +kernel
theorem dX10_dusk_13 : decode cX10_dusk 13 = .ok (.bipush 99, 2) := by decide +kernel
theorem dX10_dusk_15 : decode cX10_dusk 15 = .ok (.invokestatic 80, 3) := by decide +kernel
theorem dX10_dusk_18 : decode cX10_dusk 18 = .ok (.ifCond .eq 12, 3) := by decide +kernel
theorem dX10_dusk_21 : decode cX10_dusk 21 = .ok (.iload_n 3, 1) := by decide +kernel
theorem dX10_dusk_22 : decode cX10_dusk 22 = .ok (.iconst 0, 1) := by decide +kernel
theorem dX10_dusk_23 : decode cX10_dusk 23 = .ok (.iconst 1, 1) := by decide +kernel
theorem dX10_dusk_24 : decode cX10_dusk 24 = .ok (.invokestatic 80, 3) := by decide +kernel
theorem dX10_dusk_27 : decode cX10_dusk 27 = .ok (.ifCond .ne 5, 3) := by decide +kernel
theorem dX10_dusk_30 : decode cX10_dusk 30 = .ok (.iconst (-1), 1) := by decide +kernel
theorem dX10_dusk_31 : decode cX10_dusk 31 = .ok (.ireturn, 1) := by decide +kernel
theorem dX10_dusk_32 : decode cX10_dusk 32 = .ok (.aload_n 0, 1) := by decide +kernel
theorem dX10_dusk_33 : decode cX10_dusk 33 = .ok (.getfield 25, 3) := by decide +kernel
theorem dX10_dusk_36 : decode cX10_dusk 36 = .ok (.iload_n 1, 1) := by decide +kernel
theorem dX10_dusk_37 : decode cX10_dusk 37 = .ok (.iload_n 2, 1) := by decide +kernel
theorem dX10_dusk_38 : decode cX10_dusk 38 = .ok (.invokevirtual 308, 3) := by decide +kernel
theorem dX10_dusk_41 : decode cX10_dusk 41 = .ok (.istore 4, 2) := by decide +kernel
theorem dX10_dusk_43 : decode cX10_dusk 43 = .ok (.iload_n 3, 1) := by decide +kernel
theorem dX10_dusk_44 : decode cX10_dusk 44 = .ok (.ifCond .ne 15, 3) := by decide +kernel
theorem dX10_dusk_47 : decode cX10_dusk 47 = .ok (.aload_n 0, 1) := by decide +kernel
theorem dX10_dusk_48 : decode cX10_dusk 48 = .ok (.getfield 25, 3) := by decide +kernel
theorem dX10_dusk_51 : decode cX10_dusk 51 = .ok (.iload 4, 2) := by decide +kernel
theorem dX10_dusk_53 : decode cX10_dusk 53 = .ok (.invokevirtual 311, 3) := by decide +kernel
theorem dX10_dusk_56 : decode cX10_dusk 56 = .ok (.goto 5, 3) := by decide +kernel
theorem dX10_dusk_59 : decode cX10_dusk 59 = .ok (.iload 4, 2) := by decide +kernel
theorem dX10_dusk_61 : decode cX10_dusk 61 = .ok (.ireturn, 1) := by decide +kernel
theorem dX10_trade_0 : decode cX10_trade 0 = .ok (.iload_n 1, 1) := by decide +kernel
theorem dX10_trade_1 : decode cX10_trade 1 = .ok (.iconst (-1), 1) := by decide +kernel
theorem dX10_trade_2 : decode cX10_trade 2 = .ok (.if_icmp .ne 14, 3) := by decide +kernel
theorem dX10_trade_5 : decode cX10_trade 5 = .ok (.aload_n 0, 1) := by decide +kernel
theorem dX10_trade_6 : decode cX10_trade 6 = .ok (.getfield 25, 3) := by decide +kernel
theorem dX10_trade_9 : decode cX10_trade 9 = .ok (.getfield 314, 3) := by decide +kernel
theorem dX10_trade_12 : decode cX10_trade 12 = .ok (.invokevirtual 254, 3) := by decide +kernel
theorem dX10_trade_15 : decode cX10_trade 15 = .ok (.ireturn, 1) := by decide +kernel
theorem dX10_trade_16 : decode cX10_trade 16 = .ok (.iload_n 1, 1) := by decide +kernel
theorem dX10_trade_17 : decode cX10_trade 17 = .ok (.invokestatic 317, 3) := by decide +kernel
theorem dX10_trade_20 : decode cX10_trade 20 = .ok (.ifCond .eq 19, 3) := by decide +kernel
theorem dX10_trade_23 : decode cX10_trade 23 = .ok (.iload_n 2, 1) := by decide +kernel
theorem dX10_trade_24 : decode cX10_trade 24 = .ok (.invokestatic 317, 3) := by decide +kernel
theorem dX10_trade_27 : decode cX10_trade 27 = .ok (.ifCond .eq 12, 3) := by decide +kernel
theorem dX10_trade_30 : decode cX10_trade 30 = .ok (.iload_n 1, 1) := by decide +kernel
theorem dX10_trade_31 : decode cX10_trade 31 = .ok (.iload_n 2, 1) := by decide +kernel
theorem dX10_trade_32 : decode cX10_trade 32 = .ok (.if_icmp .eq 7, 3) := by decide +kernel
theorem dX10_trade_35 : decode cX10_trade 35 = .ok (.iconst 1, 1) := by decide +kernel
theorem dX10_trade_36 : decode cX10_trade 36 = .ok (.goto 4, 3) := by decide +kernel
theorem dX10_trade_39 : decode cX10_trade 39 = .ok (.iconst 0, 1) := by decide +kernel
theorem dX10_trade_40 : decode cX10_trade 40 = .ok (.istore 5, 2) := by decide +kernel
theorem dX10_trade_42 : decode cX10_trade 42 = .ok (.iload 5, 2) := by decide +kernel
theorem dX10_trade_44 : decode cX10_trade 44 = .ok (.ifCond .eq 24, 3) := by decide +kernel
theorem dX10_trade_47 : decode cX10_trade 47 = .ok (.iload_n 3, 1) := by decide +kernel
theorem dX10_trade_48 : decode cX10_trade 48 = .ok (.iconst 1, 1) := by decide +kernel
theorem dX10_trade_49 : decode cX10_trade 49 = .ok (.bipush 9, 2) := by decide +kernel
theorem dX10_trade_51 : decode cX10_trade 51 = .ok (.invokestatic 80, 3) := by decide +kernel
theorem dX10_trade_54 : decode cX10_trade 54 = .ok (.ifCond .eq 14, 3) := by decide +kernel
theorem dX10_trade_57 : decode cX10_trade 57 = .ok (.iload 4, 2) := by decide +kernel
theorem dX10_trade_59 : decode cX10_trade 59 = .ok (.iconst 1, 1) := by decide +kernel
theorem dX10_trade_60 : decode cX10_trade 60 = .ok (.bipush 9, 2) := by decide +kernel
theorem dX10_trade_62 : decode cX10_trade 62 = .ok (.invokestatic 80, 3) := by decide +kernel
theorem dX10_trade_65 : decode cX10_trade 65 = .ok (.ifCond .ne 5, 3) := by decide +kernel
theorem dX10_trade_68 : decode cX10_trade 68 = .ok (.iconst (-1), 1) := by decide +kernel
theorem dX10_trade_69 : decode cX10_trade 69 = .ok (.ireturn, 1) := by decide +kernel
theorem dX10_trade_70 : decode cX10_trade 70 = .ok (.aload_n 0, 1) := by decide +kernel
theorem dX10_trade_71 : decode cX10_trade 71 = .ok (.getfield 25, 3) := by decide +kernel
theorem dX10_trade_74 : decode cX10_trade 74 = .ok (.getfield 314, 3) := by decide +kernel
theorem dX10_trade_77 : decode cX10_trade 77 = .ok (.iload_n 1, 1) := by decide +kernel
theorem dX10_trade_78 : decode cX10_trade 78 = .ok (.iload_n 2, 1) := by decide +kernel
theorem dX10_trade_79 : decode cX10_trade 79 = .ok (.iload_n 3, 1) := by decide +kernel
theorem dX10_trade_80 : decode cX10_trade 80 = .ok (.iload 4, 2) := by decide +kernel
theorem dX10_trade_82 : decode cX10_trade 82 = .ok (.invokevirtual 257, 3) := by decide +kernel
theorem dX10_trade_85 : decode cX10_trade 85 = .ok (.ireturn, 1) := by decide +kernel
theorem dX10_ring_0 : decode cX10_ring 0 = .ok (.iload_n 1, 1) := by decide +kernel
theorem dX10_ring_1 : decode cX10_ring 1 = .ok (.invokestatic 317, 3) := by decide +kernel
theorem dX10_ring_4 : decode cX10_ring 4 = .ok (.ifCond .eq 22, 3) := by decide +kernel
theorem dX10_ring_7 : decode cX10_ring 7 = .ok (.iload_n 2, 1) := by decide +kernel
theorem dX10_ring_8 : decode cX10_ring 8 = .ok (.invokestatic 317, 3) := by decide +kernel
theorem dX10_ring_11 : decode cX10_ring 11 = .ok (.ifCond .eq 15, 3) := by decide +kernel
theorem dX10_ring_14 : decode cX10_ring 14 = .ok (.aload_n 0, 1) := by decide +kernel
theorem dX10_ring_15 : decode cX10_ring 15 = .ok (.getfield 25, 3) := by decide +kernel
theorem dX10_ring_18 : decode cX10_ring 18 = .ok (.iload_n 1, 1) := by decide +kernel
theorem dX10_ring_19 : decode cX10_ring 19 = .ok (.iload_n 2, 1) := by decide +kernel
theorem dX10_ring_20 : decode cX10_ring 20 = .ok (.invokevirtual 320, 3) := by decide +kernel
theorem dX10_ring_23 : decode cX10_ring 23 = .ok (.goto 4, 3) := by decide +kernel
theorem dX10_ring_26 : decode cX10_ring 26 = .ok (.iconst (-1), 1) := by decide +kernel
theorem dX10_ring_27 : decode cX10_ring 27 = .ok (.ireturn, 1) := by decide +kernel
theorem dX10_back_0 : decode cX10_back 0 = .ok (.iload_n 1, 1) := by decide +kernel
theorem dX10_back_1 : decode cX10_back 1 = .ok (.invokestatic 317, 3) := by decide +kernel
theorem dX10_back_4 : decode cX10_back 4 = .ok (.ifCond .eq 14, 3) := by decide +kernel
theorem dX10_back_7 : decode cX10_back 7 = .ok (.aload_n 0, 1) := by decide +kernel
theorem dX10_back_8 : decode cX10_back 8 = .ok (.getfield 25, 3) := by decide +kernel
theorem dX10_back_11 : decode cX10_back 11 = .ok (.iload_n 1, 1) := by decide +kernel
theorem dX10_back_12 : decode cX10_back 12 = .ok (.invokevirtual 323, 3) := by decide +kernel
theorem dX10_back_15 : decode cX10_back 15 = .ok (.goto 4, 3) := by decide +kernel
theorem dX10_back_18 : decode cX10_back 18 = .ok (.iconst (-1), 1) := by decide +kernel
theorem dX10_back_19 : decode cX10_back 19 = .ok (.ireturn, 1) := by decide +kernel
theorem dX10_undo_0 : decode cX10_undo 0 = .ok (.aload_n 0, 1) := by decide +kernel
theorem dX10_undo_1 : decode cX10_undo 1 = .ok (.getfield 35, 3) := by decide +kernel
theorem dX10_undo_4 : decode cX10_undo 4 = .ok (.aload_n 0, 1) := by decide +kernel
theorem dX10_undo_5 : decode cX10_undo 5 = .ok (.getfield 12, 3) := by decide +kernel
theorem dX10_undo_8 : decode cX10_undo 8 = .ok (.invokevirtual 326, 3) := by decide +kernel
theorem dX10_undo_11 : decode cX10_undo 11 = .ok (.ireturn, 1) := by decide +kernel
theorem dX10_image_0 : decode cX10_image 0 = .ok (.iload_n 1, 1) := by decide +kernel
theorem dX10_image_1 : decode cX10_image 1 = .ok (.ifCond .eq 33, 3) := by decide +kernel
theorem dX10_image_4 : decode cX10_image 4 = .ok (.aload_n 0, 1) := by decide +kernel
theorem dX10_image_5 : decode cX10_image 5 = .ok (.getfield 16, 3) := by decide +kernel
theorem dX10_image_8 : decode cX10_image 8 = .ok (.aload_n 0, 1) := by decide +kernel
theorem dX10_image_9 : decode cX10_image 9 = .ok (.getfield 12, 3) := by decide +kernel
theorem dX10_image_12 : decode cX10_image 12 = .ok (.invokevirtual 221, 3) := by decide +kernel
theorem dX10_image_15 : decode cX10_image 15 = .ok (.aload_n 0, 1) := by decide +kernel
theorem dX10_image_16 : decode cX10_image 16 = .ok (.getfield 29, 3) := by decide +kernel
theorem dX10_image_19 : decode cX10_image 19 = .ok (.aload_n 0, 1) := by decide +kernel
theorem dX10_image_20 : decode cX10_image 20 = .ok (.getfield 25, 3) := by decide +kernel
theorem dX10_image_23 : decode cX10_image 23 = .ok (.invokevirtual 330, 3) := by decide +kernel
theorem dX10_image_26 : decode cX10_image 26 = .ok (.aload_n 0, 1) := by decide +kernel
theorem dX10_image_27 : decode cX10_image 27 = .ok (.iconst 1, 1) := by decide +kernel
theorem dX10_image_28 : decode cX10_image 28 = .ok (.putfield 69, 3) := by decide +kernel
theorem dX10_image_31 : decode cX10_image 31 = .ok (.goto 39, 3) := by decide +kernel
theorem dX10_image_34 : decode cX10_image 34 = .ok (.aload_n 0, 1) := by decide +kernel
theorem dX10_image_35 : decode cX10_image 35 = .ok (.getfield 69, 3) := by decide +kernel
theorem dX10_image_38 : decode cX10_image 38 = .ok (.ifCond .eq 32, 3) := by decide +kernel
theorem dX10_image_41 : decode cX10_image 41 = .ok (.aload_n 0, 1) := by decide +kernel
theorem dX10_image_42 : decode cX10_image 42 = .ok (.getfield 12, 3) := by decide +kernel
theorem dX10_image_45 : decode cX10_image 45 = .ok (.aload_n 0, 1) := by decide +kernel
theorem dX10_image_46 : decode cX10_image 46 = .ok (.getfield 16, 3) := by decide +kernel
theorem dX10_image_49 : decode cX10_image 49 = .ok (.invokevirtual 221, 3) := by decide +kernel
theorem dX10_image_52 : decode cX10_image 52 = .ok (.aload_n 0, 1) := by decide +kernel
theorem dX10_image_53 : decode cX10_image 53 = .ok (.getfield 25, 3) := by decide +kernel
theorem dX10_image_56 : decode cX10_image 56 = .ok (.aload_n 0, 1) := by decide +kernel
theorem dX10_image_57 : decode cX10_image 57 = .ok (.getfield 29, 3) := by decide +kernel
theorem dX10_image_60 : decode cX10_image 60 = .ok (.invokevirtual 330, 3) := by decide +kernel
theorem dX10_image_63 : decode cX10_image 63 = .ok (.aload_n 0, 1) := by decide +kernel
theorem dX10_image_64 : decode cX10_image 64 = .ok (.getfield 35, 3) := by decide +kernel
theorem dX10_image_67 : decode cX10_image 67 = .ok (.invokevirtual 77, 3) := by decide +kernel
theorem dX10_image_70 : decode cX10_image 70 = .ok (.aload_n 0, 1) := by decide +kernel
theorem dX10_image_71 : decode cX10_image 71 = .ok (.getfield 69, 3) := by decide +kernel
theorem dX10_image_74 : decode cX10_image 74 = .ok (.ireturn, 1) := by decide +kernel
theorem dX10_look_0 : decode cX10_look 0 = .ok (.iload_n 1, 1) := by decide +kernel
theorem dX10_look_1 : decode cX10_look 1 = .ok (.tableswitch 144 0 9 #[55, 66, 74, 85, 93, 101, 109, 117, 125, 136], 55) := by decide +kernel
theorem dX10_look_56 : decode cX10_look 56 = .ok (.aload_n 0, 1) := by decide +kernel
theorem dX10_look_57 : decode cX10_look 57 = .ok (.getfield 12, 3) := by decide +kernel
theorem dX10_look_60 : decode cX10_look 60 = .ok (.getfield 173, 3) := by decide +kernel
theorem dX10_look_63 : decode cX10_look 63 = .ok (.getfield 176, 3) := by decide +kernel
theorem dX10_look_66 : decode cX10_look 66 = .ok (.ireturn, 1) := by decide +kernel
theorem dX10_look_67 : decode cX10_look 67 = .ok (.aload_n 0, 1) := by decide +kernel
theorem dX10_look_68 : decode cX10_look 68 = .ok (.getfield 12, 3) := by decide +kernel
theorem dX10_look_71 : decode cX10_look 71 = .ok (.getfield 137, 3) := by decide +kernel
theorem dX10_look_74 : decode cX10_look 74 = .ok (.ireturn, 1) := by decide +kernel
theorem dX10_look_75 : decode cX10_look 75 = .ok (.aload_n 0, 1) := by decide +kernel
theorem dX10_look_76 : decode cX10_look 76 = .ok (.getfield 12, 3) := by decide +kernel
theorem dX10_look_79 : decode cX10_look 79 = .ok (.getfield 123, 3) := by decide +kernel
theorem dX10_look_82 : decode cX10_look 82 = .ok (.getfield 176, 3) := by decide +kernel
theorem dX10_look_85 : decode cX10_look 85 = .ok (.ireturn, 1) := by decide +kernel
theorem dX10_look_86 : decode cX10_look 86 = .ok (.aload_n 0, 1) := by decide +kernel
theorem dX10_look_87 : decode cX10_look 87 = .ok (.getfield 12, 3) := by decide +kernel
theorem dX10_look_90 : decode cX10_look 90 = .ok (.getfield 84, 3) := by decide +kernel
theorem dX10_look_93 : decode cX10_look 93 = .ok (.ireturn, 1) := by decide +kernel
theorem dX10_look_94 : decode cX10_look 94 = .ok (.aload_n 0, 1) := by decide +kernel
theorem dX10_look_95 : decode cX10_look 95 = .ok (.getfield 12, 3) := by decide +kernel
theorem dX10_look_98 : decode cX10_look 98 = .ok (.getfield 333, 3) := by decide +kernel
theorem dX10_look_101 : decode cX10_look 101 = .ok (.ireturn, 1) := by decide +kernel
theorem dX10_look_102 : decode cX10_look 102 = .ok (.aload_n 0, 1) := by decide +kernel
theorem dX10_look_103 : decode cX10_look 103 = .ok (.getfield 12, 3) := by decide +kernel
theorem dX10_look_106 : decode cX10_look 106 = .ok (.getfield 336, 3) := by decide +kernel
theorem dX10_look_109 : decode cX10_look 109 = .ok (.ireturn, 1) := by decide +kernel
theorem dX10_look_110 : decode cX10_look 110 = .ok (.aload_n 0, 1) := by decide +kernel
theorem dX10_look_111 : decode cX10_look 111 = .ok (.getfield 12, 3) := by decide +kernel
theorem dX10_look_114 : decode cX10_look 114 = .ok (.getfield 87, 3) := by decide +kernel
theorem dX10_look_117 : decode cX10_look 117 = .ok (.ireturn, 1) := by decide +kernel
theorem dX10_look_118 : decode cX10_look 118 = .ok (.aload_n 0, 1) := by decide +kernel
theorem dX10_look_119 : decode cX10_look 119 = .ok (.getfield 12, 3) := by decide +kernel
theorem dX10_look_122 : decode cX10_look 122 = .ok (.getfield 90, 3) := by decide +kernel
theorem dX10_look_125 : decode cX10_look 125 = .ok (.ireturn, 1) := by decide +kernel
theorem dX10_look_126 : decode cX10_look 126 = .ok (.aload_n 0, 1) := by decide +kernel
theorem dX10_look_127 : decode cX10_look 127 = .ok (.getfield 12, 3) := by decide +kernel
theorem dX10_look_130 : decode cX10_look 130 = .ok (.getfield 217, 3) := by decide +kernel
theorem dX10_look_133 : decode cX10_look 133 = .ok (.getfield 176, 3) := by decide +kernel
theorem dX10_look_136 : decode cX10_look 136 = .ok (.ireturn, 1) := by decide +kernel
theorem dX10_look_137 : decode cX10_look 137 = .ok (.aload_n 0, 1) := by decide +kernel
theorem dX10_look_138 : decode cX10_look 138 = .ok (.getfield 12, 3) := by decide +kernel
theorem dX10_look_141 : decode cX10_look 141 = .ok (.getfield 73, 3) := by decide +kernel
theorem dX10_look_144 : decode cX10_look 144 = .ok (.ireturn, 1) := by decide +kernel
theorem dX10_look_145 : decode cX10_look 145 = .ok (.aload_n 0, 1) := by decide +kernel
theorem dX10_look_146 : decode cX10_look 146 = .ok (.iload_n 1, 1) := by decide +kernel
theorem dX10_look_147 : decode cX10_look 147 = .ok (.invokevirtual 339, 3) := by decide +kernel
theorem dX10_look_150 : decode cX10_look 150 = .ok (.ireturn, 1) := by decide +kernel
theorem dX10_lookAtTold_0 : decode cX10_lookAtTold 0 = .ok (.iload_n 1, 1) := by decide +kernel
theorem dX10_lookAtTold_1 : decode cX10_lookAtTold 1 = .ok (.tableswitch 147 10 18 #[51, 62, 73, 84, 95, 103, 114, 125, 136], 51) := by decide +kernel
theorem dX10_lookAtTold_52 : decode cX10_lookAtTold 52 = .ok (.aload_n 0, 1) := by decide +kernel
theorem dX10_lookAtTold_53 : decode cX10_lookAtTold 53 = .ok (.getfield 12, 3) := by decide +kernel
theorem dX10_lookAtTold_56 : decode cX10_lookAtTold 56 = .ok (.getfield 161, 3) := by decide +kernel
theorem dX10_lookAtTold_59 : decode cX10_lookAtTold 59 = .ok (.getfield 342, 3) := by decide +kernel
theorem dX10_lookAtTold_62 : decode cX10_lookAtTold 62 = .ok (.ireturn, 1) := by decide +kernel
theorem dX10_lookAtTold_63 : decode cX10_lookAtTold 63 = .ok (.aload_n 0, 1) := by decide +kernel
theorem dX10_lookAtTold_64 : decode cX10_lookAtTold 64 = .ok (.getfield 12, 3) := by decide +kernel
theorem dX10_lookAtTold_67 : decode cX10_lookAtTold 67 = .ok (.getfield 347, 3) := by decide +kernel
theorem dX10_lookAtTold_70 : decode cX10_lookAtTold 70 = .ok (.getfield 176, 3) := by decide +kernel
theorem dX10_lookAtTold_73 : decode cX10_lookAtTold 73 = .ok (.ireturn, 1) := by decide +kernel
theorem dX10_lookAtTold_74 : decode cX10_lookAtTold 74 = .ok (.aload_n 0, 1) := by decide +kernel
theorem dX10_lookAtTold_75 : decode cX10_lookAtTold 75 = .ok (.getfield 12, 3) := by decide +kernel
theorem dX10_lookAtTold_78 : decode cX10_lookAtTold 78 = .ok (.getfield 214, 3) := by decide +kernel
theorem dX10_lookAtTold_81 : decode cX10_lookAtTold 81 = .ok (.getfield 176, 3) := by decide +kernel
theorem dX10_lookAtTold_84 : decode cX10_lookAtTold 84 = .ok (.ireturn, 1) := by decide +kernel
theorem dX10_lookAtTold_85 : decode cX10_lookAtTold 85 = .ok (.aload_n 0, 1) := by decide +kernel
theorem dX10_lookAtTold_86 : decode cX10_lookAtTold 86 = .ok (.getfield 12, 3) := by decide +kernel
theorem dX10_lookAtTold_89 : decode cX10_lookAtTold 89 = .ok (.getfield 350, 3) := by decide +kernel
theorem dX10_lookAtTold_92 : decode cX10_lookAtTold 92 = .ok (.getfield 176, 3) := by decide +kernel
theorem dX10_lookAtTold_95 : decode cX10_lookAtTold 95 = .ok (.ireturn, 1) := by decide +kernel
theorem dX10_lookAtTold_96 : decode cX10_lookAtTold 96 = .ok (.aload_n 0, 1) := by decide +kernel
theorem dX10_lookAtTold_97 : decode cX10_lookAtTold 97 = .ok (.getfield 35, 3) := by decide +kernel
theorem dX10_lookAtTold_100 : decode cX10_lookAtTold 100 = .ok (.getfield 353, 3) := by decide +kernel
theorem dX10_lookAtTold_103 : decode cX10_lookAtTold 103 = .ok (.ireturn, 1) := by decide +kernel
theorem dX10_lookAtTold_104 : decode cX10_lookAtTold 104 = .ok (.aload_n 0, 1) := by decide +kernel
theorem dX10_lookAtTold_105 : decode cX10_lookAtTold 105 = .ok (.getfield 25, 3) := by decide +kernel
theorem dX10_lookAtTold_108 : decode cX10_lookAtTold 108 = .ok (.getfield 251, 3) := by decide +kernel
theorem dX10_lookAtTold_111 : decode cX10_lookAtTold 111 = .ok (.getfield 176, 3) := by decide +kernel
theorem dX10_lookAtTold_114 : decode cX10_lookAtTold 114 = .ok (.ireturn, 1) := by decide +kernel
theorem dX10_lookAtTold_115 : decode cX10_lookAtTold 115 = .ok (.aload_n 0, 1) := by decide +kernel
theorem dX10_lookAtTold_116 : decode cX10_lookAtTold 116 = .ok (.getfield 25, 3) := by decide +kernel
theorem dX10_lookAtTold_119 : decode cX10_lookAtTold 119 = .ok (.getfield 274, 3) := by decide +kernel
theorem dX10_lookAtTold_122 : decode cX10_lookAtTold 122 = .ok (.getfield 176, 3) := by decide +kernel
theorem dX10_lookAtTold_125 : decode cX10_lookAtTold 125 = .ok (.ireturn, 1) := by decide +kernel
theorem dX10_lookAtTold_126 : decode cX10_lookAtTold 126 = .ok (.aload_n 0, 1) := by decide +kernel
theorem dX10_lookAtTold_127 : decode cX10_lookAtTold 127 = .ok (.getfield 25, 3) := by decide +kernel
theorem dX10_lookAtTold_130 : decode cX10_lookAtTold 130 = .ok (.getfield 305, 3) := by decide +kernel
theorem dX10_lookAtTold_133 : decode cX10_lookAtTold 133 = .ok (.getfield 176, 3) := by decide +kernel
theorem dX10_lookAtTold_136 : decode cX10_lookAtTold 136 = .ok (.ireturn, 1) := by decide +kernel
theorem dX10_lookAtTold_137 : decode cX10_lookAtTold 137 = .ok (.aload_n 0, 1) := by decide +kernel
theorem dX10_lookAtTold_138 : decode cX10_lookAtTold 138 = .ok (.getfield 25, 3) := by decide +kernel
theorem dX10_lookAtTold_141 : decode cX10_lookAtTold 141 = .ok (.getfield 314, 3) := by decide +kernel
theorem dX10_lookAtTold_144 : decode cX10_lookAtTold 144 = .ok (.getfield 176, 3) := by decide +kernel
theorem dX10_lookAtTold_147 : decode cX10_lookAtTold 147 = .ok (.ireturn, 1) := by decide +kernel
theorem dX10_lookAtTold_148 : decode cX10_lookAtTold 148 = .ok (.ldc_w 356, 3) := by decide +kernel
theorem dX10_lookAtTold_151 : decode cX10_lookAtTold 151 = .ok (.ireturn, 1) := by decide +kernel
theorem dX10_tellLines_0 : decode cX10_tellLines 0 = .ok (.aload_n 0, 1) := by decide +kernel
theorem dX10_tellLines_1 : decode cX10_tellLines 1 = .ok (.getfield 12, 3) := by decide +kernel
theorem dX10_tellLines_4 : decode cX10_tellLines 4 = .ok (.iload_n 1, 1) := by decide +kernel
theorem dX10_tellLines_5 : decode cX10_tellLines 5 = .ok (.invokevirtual 169, 3) := by decide +kernel
theorem dX10_tellLines_8 : decode cX10_tellLines 8 = .ok (.astore_n 3, 1) := by decide +kernel
theorem dX10_tellLines_9 : decode cX10_tellLines 9 = .ok (.aload_n 3, 1) := by decide +kernel
theorem dX10_tellLines_10 : decode cX10_tellLines 10 = .ok (.aload_n 2, 1) := by decide +kernel
theorem dX10_tellLines_11 : decode cX10_tellLines 11 = .ok (.invokevirtual 357, 3) := by decide +kernel
theorem dX10_tellLines_14 : decode cX10_tellLines 14 = .ok (.iload_n 1, 1) := by decide +kernel
theorem dX10_tellLines_15 : decode cX10_tellLines 15 = .ok (.ifCond .ne 47, 3) := by decide +kernel
theorem dX10_tellLines_18 : decode cX10_tellLines 18 = .ok (.aload_n 0, 1) := by decide +kernel
theorem dX10_tellLines_19 : decode cX10_tellLines 19 = .ok (.getfield 12, 3) := by decide +kernel
theorem dX10_tellLines_22 : decode cX10_tellLines 22 = .ok (.getfield 123, 3) := by decide +kernel
theorem dX10_tellLines_25 : decode cX10_tellLines 25 = .ok (.invokevirtual 254, 3) := by decide +kernel
theorem dX10_tellLines_28 : decode cX10_tellLines 28 = .ok (.pop, 1) := by decide +kernel
theorem dX10_tellLines_29 : decode cX10_tellLines 29 = .ok (.aload_n 0, 1) := by decide +kernel
theorem dX10_tellLines_30 : decode cX10_tellLines 30 = .ok (.getfield 12, 3) := by decide +kernel
theorem dX10_tellLines_33 : decode cX10_tellLines 33 = .ok (.getfield 347, 3) := by decide +kernel
theorem dX10_tellLines_36 : decode cX10_tellLines 36 = .ok (.invokevirtual 254, 3) := by decide +kernel
theorem dX10_tellLines_39 : decode cX10_tellLines 39 = .ok (.pop, 1) := by decide +kernel
theorem dX10_tellLines_40 : decode cX10_tellLines 40 = .ok (.aload_n 0, 1) := by decide +kernel
theorem dX10_tellLines_41 : decode cX10_tellLines 41 = .ok (.getfield 12, 3) := by decide +kernel
theorem dX10_tellLines_44 : decode cX10_tellLines 44 = .ok (.getfield 214, 3) := by decide +kernel
theorem dX10_tellLines_47 : decode cX10_tellLines 47 = .ok (.invokevirtual 254, 3) := by decide +kernel
theorem dX10_tellLines_50 : decode cX10_tellLines 50 = .ok (.pop, 1) := by decide +kernel
theorem dX10_tellLines_51 : decode cX10_tellLines 51 = .ok (.aload_n 0, 1) := by decide +kernel
theorem dX10_tellLines_52 : decode cX10_tellLines 52 = .ok (.getfield 12, 3) := by decide +kernel
theorem dX10_tellLines_55 : decode cX10_tellLines 55 = .ok (.getfield 350, 3) := by decide +kernel
theorem dX10_tellLines_58 : decode cX10_tellLines 58 = .ok (.invokevirtual 254, 3) := by decide +kernel
theorem dX10_tellLines_61 : decode cX10_tellLines 61 = .ok (.pop, 1) := by decide +kernel
theorem dX10_tellLines_62 : decode cX10_tellLines 62 = .ok (.iload_n 1, 1) := by decide +kernel
theorem dX10_tellLines_63 : decode cX10_tellLines 63 = .ok (.iconst 4, 1) := by decide +kernel
theorem dX10_tellLines_64 : decode cX10_tellLines 64 = .ok (.if_icmp .eq 10, 3) := by decide +kernel
theorem dX10_tellLines_67 : decode cX10_tellLines 67 = .ok (.aload_n 0, 1) := by decide +kernel
theorem dX10_tellLines_68 : decode cX10_tellLines 68 = .ok (.getfield 35, 3) := by decide +kernel
theorem dX10_tellLines_71 : decode cX10_tellLines 71 = .ok (.invokevirtual 77, 3) := by decide +kernel
theorem dX10_tellLines_74 : decode cX10_tellLines 74 = .ok (.aload_n 3, 1) := by decide +kernel
theorem dX10_tellLines_75 : decode cX10_tellLines 75 = .ok (.getfield 176, 3) := by decide +kernel
theorem dX10_tellLines_78 : decode cX10_tellLines 78 = .ok (.ireturn, 1) := by decide +kernel
theorem dX10_within_0 : decode cX10_within 0 = .ok (.iload_n 0, 1) := by decide +kernel
theorem dX10_within_1 : decode cX10_within 1 = .ok (.iload_n 1, 1) := by decide +kernel
theorem dX10_within_2 : decode cX10_within 2 = .ok (.if_icmp .lt 12, 3) := by decide +kernel
theorem dX10_within_5 : decode cX10_within 5 = .ok (.iload_n 0, 1) := by decide +kernel
theorem dX10_within_6 : decode cX10_within 6 = .ok (.iload_n 2, 1) := by decide +kernel
theorem dX10_within_7 : decode cX10_within 7 = .ok (.if_icmp .gt 7, 3) := by decide +kernel
theorem dX10_within_10 : decode cX10_within 10 = .ok (.iconst 1, 1) := by decide +kernel
theorem dX10_within_11 : decode cX10_within 11 = .ok (.goto 4, 3) := by decide +kernel
theorem dX10_within_14 : decode cX10_within 14 = .ok (.iconst 0, 1) := by decide +kernel
theorem dX10_within_15 : decode cX10_within 15 = .ok (.ireturn, 1) := by decide +kernel
theorem dX10_held_0 : decode cX10_held 0 = .ok (.iload_n 1, 1) := by decide +kernel
theorem dX10_held_1 : decode cX10_held 1 = .ok (.iload_n 2, 1) := by decide +kernel
theorem dX10_held_2 : decode cX10_held 2 = .ok (.iload_n 0, 1) := by decide +kernel
theorem dX10_held_3 : decode cX10_held 3 = .ok (.invokestatic 360, 3) := by decide +kernel
theorem dX10_held_6 : decode cX10_held 6 = .ok (.invokestatic 365, 3) := by decide +kernel
theorem dX10_held_9 : decode cX10_held 9 = .ok (.ireturn, 1) := by decide +kernel
theorem dX10_isTradeKind_0 : decode cX10_isTradeKind 0 = .ok (.iload_n 0, 1) := by decide +kernel
theorem dX10_isTradeKind_1 : decode cX10_isTradeKind 1 = .ok (.iconst 0, 1) := by decide +kernel
theorem dX10_isTradeKind_2 : decode cX10_isTradeKind 2 = .ok (.iconst 5, 1) := by decide +kernel
theorem dX10_isTradeKind_3 : decode cX10_isTradeKind 3 = .ok (.invokestatic 80, 3) := by decide +kernel
theorem dX10_isTradeKind_6 : decode cX10_isTradeKind 6 = .ok (.ireturn, 1) := by decide +kernel
theorem dX10_feastsHeld_0 : decode cX10_feastsHeld 0 = .ok (.iload_n 1, 1) := by decide +kernel
theorem dX10_feastsHeld_1 : decode cX10_feastsHeld 1 = .ok (.iconst 1, 1) := by decide +kernel
theorem dX10_feastsHeld_2 : decode cX10_feastsHeld 2 = .ok (.sipush 999, 3) := by decide +kernel
theorem dX10_feastsHeld_5 : decode cX10_feastsHeld 5 = .ok (.invokestatic 80, 3) := by decide +kernel
theorem dX10_feastsHeld_8 : decode cX10_feastsHeld 8 = .ok (.ifCond .ne 5, 3) := by decide +kernel
theorem dX10_feastsHeld_11 : decode cX10_feastsHeld 11 = .ok (.iconst (-1), 1) := by decide +kernel
theorem dX10_feastsHeld_12 : decode cX10_feastsHeld 12 = .ok (.ireturn, 1) := by decide +kernel
theorem dX10_feastsHeld_13 : decode cX10_feastsHeld 13 = .ok (.iload_n 0, 1) := by decide +kernel
theorem dX10_feastsHeld_14 : decode cX10_feastsHeld 14 = .ok (.iload_n 1, 1) := by decide +kernel
theorem dX10_feastsHeld_15 : decode cX10_feastsHeld 15 = .ok (.if_icmp .lt 5, 3) := by decide +kernel
theorem dX10_feastsHeld_18 : decode cX10_feastsHeld 18 = .ok (.iconst 1, 1) := by decide +kernel
theorem dX10_feastsHeld_19 : decode cX10_feastsHeld 19 = .ok (.ireturn, 1) := by decide +kernel
theorem dX10_feastsHeld_20 : decode cX10_feastsHeld 20 = .ok (.iconst 2, 1) := by decide +kernel
theorem dX10_feastsHeld_21 : decode cX10_feastsHeld 21 = .ok (.istore_n 2, 1) := by decide +kernel
theorem dX10_feastsHeld_22 : decode cX10_feastsHeld 22 = .ok (.iload_n 2, 1) := by decide +kernel
theorem dX10_feastsHeld_23 : decode cX10_feastsHeld 23 = .ok (.bipush 20, 2) := by decide +kernel
theorem dX10_feastsHeld_25 : decode cX10_feastsHeld 25 = .ok (.if_icmp .gt 24, 3) := by decide +kernel
theorem dX10_feastsHeld_28 : decode cX10_feastsHeld 28 = .ok (.iload_n 2, 1) := by decide +kernel
theorem dX10_feastsHeld_29 : decode cX10_feastsHeld 29 = .ok (.iload_n 0, 1) := by decide +kernel
theorem dX10_feastsHeld_30 : decode cX10_feastsHeld 30 = .ok (.imul, 1) := by decide +kernel
theorem dX10_feastsHeld_31 : decode cX10_feastsHeld 31 = .ok (.bipush 9, 2) := by decide +kernel
theorem dX10_feastsHeld_33 : decode cX10_feastsHeld 33 = .ok (.imul, 1) := by decide +kernel
theorem dX10_feastsHeld_34 : decode cX10_feastsHeld 34 = .ok (.bipush 10, 2) := by decide +kernel
theorem dX10_feastsHeld_36 : decode cX10_feastsHeld 36 = .ok (.idiv, 1) := by decide +kernel
theorem dX10_feastsHeld_37 : decode cX10_feastsHeld 37 = .ok (.iload_n 1, 1) := by decide +kernel
theorem dX10_feastsHeld_38 : decode cX10_feastsHeld 38 = .ok (.if_icmp .lt 5, 3) := by decide +kernel
theorem dX10_feastsHeld_41 : decode cX10_feastsHeld 41 = .ok (.iload_n 2, 1) := by decide +kernel
theorem dX10_feastsHeld_42 : decode cX10_feastsHeld 42 = .ok (.ireturn, 1) := by decide +kernel
theorem dX10_feastsHeld_43 : decode cX10_feastsHeld 43 = .ok (.iinc 2 1, 3) := by decide +kernel
theorem dX10_feastsHeld_46 : decode cX10_feastsHeld 46 = .ok (.goto (-24), 3) := by decide +kernel
theorem dX10_feastsHeld_49 : decode cX10_feastsHeld 49 = .ok (.iconst (-1), 1) := by decide +kernel
theorem dX10_feastsHeld_50 : decode cX10_feastsHeld 50 = .ok (.ireturn, 1) := by decide +kernel
theorem dX10_isIn_0 : decode cX10_isIn 0 = .ok (.iload_n 0, 1) := by decide +kernel
theorem dX10_isIn_1 : decode cX10_isIn 1 = .ok (.iload_n 1, 1) := by decide +kernel
theorem dX10_isIn_2 : decode cX10_isIn 2 = .ok (.ishr, 1) := by decide +kernel
theorem dX10_isIn_3 : decode cX10_isIn 3 = .ok (.iconst 1, 1) := by decide +kernel
theorem dX10_isIn_4 : decode cX10_isIn 4 = .ok (.iand, 1) := by decide +kernel
theorem dX10_isIn_5 : decode cX10_isIn 5 = .ok (.iconst 1, 1) := by decide +kernel
theorem dX10_isIn_6 : decode cX10_isIn 6 = .ok (.if_icmp .ne 7, 3) := by decide +kernel
theorem dX10_isIn_9 : decode cX10_isIn 9 = .ok (.iconst 1, 1) := by decide +kernel
theorem dX10_isIn_10 : decode cX10_isIn 10 = .ok (.goto 4, 3) := by decide +kernel
theorem dX10_isIn_13 : decode cX10_isIn 13 = .ok (.iconst 0, 1) := by decide +kernel
theorem dX10_isIn_14 : decode cX10_isIn 14 = .ok (.ireturn, 1) := by decide +kernel
