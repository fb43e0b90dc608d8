theorem dX0_init_0 : decode cX0_init 0 = .ok (.aload_n 0, 1) := by decide +kernel
theorem dX0_init_1 : decode cX0_init 1 = .ok (.invokespecial 3, 3) := by decide +kernel
theorem dX0_init_4 : decode cX0_init 4 = .ok (.aload_n 0, 1) := by decide +kernel
theorem dX0_init_5 : decode cX0_init 5 = .ok (.sipush 1024, 3) := by decide +kernel
theorem dX0_init_8 : decode cX0_init 8 = .ok (.newarray .int, 2) := by decide +kernel
theorem dX0_init_10 : decode cX0_init 10 = .ok (.putfield 11, 3) := by decide +kernel
theorem dX0_init_13 : decode cX0_init 13 = .ok (.aload_n 0, 1) := by decide +kernel
theorem dX0_init_14 : decode cX0_init 14 = .ok (.sipush 1024, 3) := by decide +kernel
theorem dX0_init_17 : decode cX0_init 17 = .ok (.newarray .int, 2) := by decide +kernel
theorem dX0_init_19 : decode cX0_init 19 = .ok (.putfield 15, 3) := by decide +kernel
theorem dX0_init_22 : decode cX0_init 22 = .ok (.aload_n 0, 1) := by decide +kernel
theorem dX0_init_23 : decode cX0_init 23 = .ok (.bipush 6, 2) := by decide +kernel
theorem dX0_init_25 : decode cX0_init 25 = .ok (.newarray .int, 2) := by decide +kernel
theorem dX0_init_27 : decode cX0_init 27 = .ok (.putfield 18, 3) := by decide +kernel
theorem dX0_init_30 : decode cX0_init 30 = .ok (.return_, 1) := by decide +kernel
theorem dX0_fewestStalls_0 : decode cX0_fewestStalls 0 = .ok (.aload_n 1, 1) := by decide +kernel
theorem dX0_fewestStalls_1 : decode cX0_fewestStalls 1 = .ok (.getfield 21, 3) := by decide +kernel
theorem dX0_fewestStalls_4 : decode cX0_fewestStalls 4 = .ok (.istore_n 3, 1) := by decide +kernel
theorem dX0_fewestStalls_5 : decode cX0_fewestStalls 5 = .ok (.iload_n 3, 1) := by decide +kernel
theorem dX0_fewestStalls_6 : decode cX0_fewestStalls 6 = .ok (.bipush 10, 2) := by decide +kernel
theorem dX0_fewestStalls_8 : decode cX0_fewestStalls 8 = .ok (.if_icmp .le 5, 3) := by decide +kernel
theorem dX0_fewestStalls_11 : decode cX0_fewestStalls 11 = .ok (.iconst (-1), 1) := by decide +kernel
theorem dX0_fewestStalls_12 : decode cX0_fewestStalls 12 = .ok (.ireturn, 1) := by decide +kernel
theorem dX0_fewestStalls_13 : decode cX0_fewestStalls 13 = .ok (.iconst 0, 1) := by decide +kernel
theorem dX0_fewestStalls_14 : decode cX0_fewestStalls 14 = .ok (.istore 4, 2) := by decide +kernel
theorem dX0_fewestStalls_16 : decode cX0_fewestStalls 16 = .ok (.iload 4, 2) := by decide +kernel
theorem dX0_fewestStalls_18 : decode cX0_fewestStalls 18 = .ok (.iload_n 3, 1) := by decide +kernel
theorem dX0_fewestStalls_19 : decode cX0_fewestStalls 19 = .ok (.if_icmp .ge 22, 3) := by decide +kernel
theorem dX0_fewestStalls_22 : decode cX0_fewestStalls 22 = .ok (.aload_n 1, 1) := by decide +kernel
theorem dX0_fewestStalls_23 : decode cX0_fewestStalls 23 = .ok (.iload 4, 2) := by decide +kernel
theorem dX0_fewestStalls_25 : decode cX0_fewestStalls 25 = .ok (.iconst 1, 1) := by decide +kernel
theorem dX0_fewestStalls_26 : decode cX0_fewestStalls 26 = .ok (.invokevirtual 27, 3) := by decide +kernel
theorem dX0_fewestStalls_29 : decode cX0_fewestStalls 29 = .ok (.iload_n 2, 1) := by decide +kernel
theorem dX0_fewestStalls_30 : decode cX0_fewestStalls 30 = .ok (.if_icmp .le 5, 3) := by decide +kernel
theorem dX0_fewestStalls_33 : decode cX0_fewestStalls 33 = .ok (.iconst (-1), 1) := by decide +kernel
theorem dX0_fewestStalls_34 : decode cX0_fewestStalls 34 = .ok (.ireturn, 1) := by decide +kernel
theorem dX0_fewestStalls_35 : decode cX0_fewestStalls 35 = .ok (.iinc 4 1, 3) := by decide +kernel
theorem dX0_fewestStalls_38 : decode cX0_fewestStalls 38 = .ok (.goto (-22), 3) := by decide +kernel
theorem dX0_fewestStalls_41 : decode cX0_fewestStalls 41 = .ok (.iconst 1, 1) := by decide +kernel
theorem dX0_fewestStalls_42 : decode cX0_fewestStalls 42 = .ok (.iload_n 3, 1) := by decide +kernel
theorem dX0_fewestStalls_43 : decode cX0_fewestStalls 43 = .ok (.ishl, 1) := by decide +kernel
theorem dX0_fewestStalls_44 : decode cX0_fewestStalls 44 = .ok (.aload_n 0, 1) := by decide +kernel
theorem dX0_fewestStalls_45 : decode cX0_fewestStalls 45 = .ok (.getfield 11, 3) := by decide +kernel
theorem dX0_fewestStalls_48 : decode cX0_fewestStalls 48 = .ok (.arraylength, 1) := by decide +kernel
theorem dX0_fewestStalls_49 : decode cX0_fewestStalls 49 = .ok (.invokestatic 31, 3) := by decide +kernel
theorem dX0_fewestStalls_52 : decode cX0_fewestStalls 52 = .ok (.istore 4, 2) := by decide +kernel
theorem dX0_fewestStalls_54 : decode cX0_fewestStalls 54 = .ok (.aload_n 0, 1) := by decide +kernel
theorem dX0_fewestStalls_55 : decode cX0_fewestStalls 55 = .ok (.getfield 11, 3) := by decide +kernel
theorem dX0_fewestStalls_58 : decode cX0_fewestStalls 58 = .ok (.iconst 0, 1) := by decide +kernel
theorem dX0_fewestStalls_59 : decode cX0_fewestStalls 59 = .ok (.iconst 0, 1) := by decide +kernel
theorem dX0_fewestStalls_60 : decode cX0_fewestStalls 60 = .ok (.iastore, 1) := by decide +kernel
theorem dX0_fewestStalls_61 : decode cX0_fewestStalls 61 = .ok (.aload_n 0, 1) := by decide +kernel
theorem dX0_fewestStalls_62 : decode cX0_fewestStalls 62 = .ok (.getfield 15, 3) := by decide +kernel
theorem dX0_fewestStalls_65 : decode cX0_fewestStalls 65 = .ok (.iconst 0, 1) := by decide +kernel
theorem dX0_fewestStalls_66 : decode cX0_fewestStalls 66 = .ok (.iload_n 2, 1) := by decide +kernel
theorem dX0_fewestStalls_67 : decode cX0_fewestStalls 67 = .ok (.iastore, 1) := by decide +kernel
theorem dX0_fewestStalls_68 : decode cX0_fewestStalls 68 = .ok (.iconst 1, 1) := by decide +kernel
theorem dX0_fewestStalls_69 : decode cX0_fewestStalls 69 = .ok (.istore 5, 2) := by decide +kernel
theorem dX0_fewestStalls_71 : decode cX0_fewestStalls 71 = .ok (.iload 5, 2) := by decide +kernel
theorem dX0_fewestStalls_73 : decode cX0_fewestStalls 73 = .ok (.iload 4, 2) := by decide +kernel
theorem dX0_fewestStalls_75 : decode cX0_fewestStalls 75 = .ok (.if_icmp .ge 64, 3) := by decide +kernel
theorem dX0_fewestStalls_78 : decode cX0_fewestStalls 78 = .ok (.aload_n 0, 1) := by decide +kernel
theorem dX0_fewestStalls_79 : decode cX0_fewestStalls 79 = .ok (.getfield 11, 3) := by decide +kernel
theorem dX0_fewestStalls_82 : decode cX0_fewestStalls 82 = .ok (.iload 5, 2) := by decide +kernel
theorem dX0_fewestStalls_84 : decode cX0_fewestStalls 84 = .ok (.ldc 36, 2) := by decide +kernel
theorem dX0_fewestStalls_86 : decode cX0_fewestStalls 86 = .ok (.iastore, 1) := by decide +kernel
theorem dX0_fewestStalls_87 : decode cX0_fewestStalls 87 = .ok (.iconst 0, 1) := by decide +kernel
theorem dX0_fewestStalls_88 : decode cX0_fewestStalls 88 = .ok (.istore 6, 2) := by decide +kernel
theorem dX0_fewestStalls_90 : decode cX0_fewestStalls 90 = .ok (.iload 6, 2) := by decide +kernel
theorem dX0_fewestStalls_92 : decode cX0_fewestStalls 92 = .ok (.iload_n 3, 1) := by decide +kernel
theorem dX0_fewestStalls_93 : decode cX0_fewestStalls 93 = .ok (.if_icmp .ge 40, 3) := by decide +kernel
theorem dX0_fewestStalls_96 : decode cX0_fewestStalls 96 = .ok (.iload 5, 2) := by decide +kernel
theorem dX0_fewestStalls_98 : decode cX0_fewestStalls 98 = .ok (.iload 6, 2) := by decide +kernel
theorem dX0_fewestStalls_100 : decode cX0_fewestStalls 100 = .ok (.invokestatic 37, 3) := by decide +kernel
theorem dX0_fewestStalls_103 : decode cX0_fewestStalls 103 = .ok (.ifCond .eq 24, 3) := by decide +kernel
theorem dX0_fewestStalls_106 : decode cX0_fewestStalls 106 = .ok (.aload_n 0, 1) := by decide +kernel
theorem dX0_fewestStalls_107 : decode cX0_fewestStalls 107 = .ok (.iload 5, 2) := by decide +kernel
theorem dX0_fewestStalls_109 : decode cX0_fewestStalls 109 = .ok (.iload 5, 2) := by decide +kernel
theorem dX0_fewestStalls_111 : decode cX0_fewestStalls 111 = .ok (.iconst 1, 1) := by decide +kernel
theorem dX0_fewestStalls_112 : decode cX0_fewestStalls 112 = .ok (.iload 6, 2) := by decide +kernel
theorem dX0_fewestStalls_114 : decode cX0_fewestStalls 114 = .ok (.ishl, 1) := by decide +kernel
theorem dX0_fewestStalls_115 : decode cX0_fewestStalls 115 = .ok (.ixor, 1) := by decide +kernel
theorem dX0_fewestStalls_116 : decode cX0_fewestStalls 116 = .ok (.aload_n 1, 1) := by decide +kernel
theorem dX0_fewestStalls_117 : decode cX0_fewestStalls 117 = .ok (.iload 6, 2) := by decide +kernel
theorem dX0_fewestStalls_119 : decode cX0_fewestStalls 119 = .ok (.iconst 1, 1) := by decide +kernel
theorem dX0_fewestStalls_120 : decode cX0_fewestStalls 120 = .ok (.invokevirtual 27, 3) := by decide +kernel
theorem dX0_fewestStalls_123 : decode cX0_fewestStalls 123 = .ok (.iload_n 2, 1) := by decide +kernel
theorem dX0_fewestStalls_124 : decode cX0_fewestStalls 124 = .ok (.invokevirtual 41, 3) := by decide +kernel
theorem dX0_fewestStalls_127 : decode cX0_fewestStalls 127 = .ok (.iinc 6 1, 3) := by decide +kernel
theorem dX0_fewestStalls_130 : decode cX0_fewestStalls 130 = .ok (.goto (-40), 3) := by decide +kernel
theorem dX0_fewestStalls_133 : decode cX0_fewestStalls 133 = .ok (.iinc 5 1, 3) := by decide +kernel
theorem dX0_fewestStalls_136 : decode cX0_fewestStalls 136 = .ok (.goto (-65), 3) := by decide +kernel
theorem dX0_fewestStalls_139 : decode cX0_fewestStalls 139 = .ok (.aload_n 0, 1) := by decide +kernel
theorem dX0_fewestStalls_140 : decode cX0_fewestStalls 140 = .ok (.getfield 11, 3) := by decide +kernel
theorem dX0_fewestStalls_143 : decode cX0_fewestStalls 143 = .ok (.iload 4, 2) := by decide +kernel
theorem dX0_fewestStalls_145 : decode cX0_fewestStalls 145 = .ok (.iconst 1, 1) := by decide +kernel
theorem dX0_fewestStalls_146 : decode cX0_fewestStalls 146 = .ok (.isub, 1) := by decide +kernel
theorem dX0_fewestStalls_147 : decode cX0_fewestStalls 147 = .ok (.iaload, 1) := by decide +kernel
theorem dX0_fewestStalls_148 : decode cX0_fewestStalls 148 = .ok (.ireturn, 1) := by decide +kernel
theorem dX0_layLast_0 : decode cX0_layLast 0 = .ok (.iload_n 1, 1) := by decide +kernel
theorem dX0_layLast_1 : decode cX0_layLast 1 = .ok (.ifCond .lt 25, 3) := by decide +kernel
theorem dX0_layLast_4 : decode cX0_layLast 4 = .ok (.iload_n 1, 1) := by decide +kernel
theorem dX0_layLast_5 : decode cX0_layLast 5 = .ok (.aload_n 0, 1) := by decide +kernel
theorem dX0_layLast_6 : decode cX0_layLast 6 = .ok (.getfield 11, 3) := by decide +kernel
theorem dX0_layLast_9 : decode cX0_layLast 9 = .ok (.arraylength, 1) := by decide +kernel
theorem dX0_layLast_10 : decode cX0_layLast 10 = .ok (.if_icmp .ge 16, 3) := by decide +kernel
theorem dX0_layLast_13 : decode cX0_layLast 13 = .ok (.iload_n 2, 1) := by decide +kernel
theorem dX0_layLast_14 : decode cX0_layLast 14 = .ok (.ifCond .lt 12, 3) := by decide +kernel
theorem dX0_layLast_17 : decode cX0_layLast 17 = .ok (.iload_n 2, 1) := by decide +kernel
theorem dX0_layLast_18 : decode cX0_layLast 18 = .ok (.aload_n 0, 1) := by decide +kernel
theorem dX0_layLast_19 : decode cX0_layLast 19 = .ok (.getfield 11, 3) := by decide +kernel
theorem dX0_layLast_22 : decode cX0_layLast 22 = .ok (.arraylength, 1) := by decide +kernel
theorem dX0_layLast_23 : decode cX0_layLast 23 = .ok (.if_icmp .lt 4, 3) := by decide +kernel
theorem dX0_layLast_26 : decode cX0_layLast 26 = .ok (.return_, 1) := by decide +kernel
theorem dX0_layLast_27 : decode cX0_layLast 27 = .ok (.aload_n 0, 1) := by decide +kernel
theorem dX0_layLast_28 : decode cX0_layLast 28 = .ok (.getfield 15, 3) := by decide +kernel
theorem dX0_layLast_31 : decode cX0_layLast 31 = .ok (.iload_n 2, 1) := by decide +kernel
theorem dX0_layLast_32 : decode cX0_layLast 32 = .ok (.iaload, 1) := by decide +kernel
theorem dX0_layLast_33 : decode cX0_layLast 33 = .ok (.iload_n 3, 1) := by decide +kernel
theorem dX0_layLast_34 : decode cX0_layLast 34 = .ok (.iadd, 1) := by decide +kernel
theorem dX0_layLast_35 : decode cX0_layLast 35 = .ok (.iload 4, 2) := by decide +kernel
theorem dX0_layLast_37 : decode cX0_layLast 37 = .ok (.if_icmp .gt 7, 3) := by decide +kernel
theorem dX0_layLast_40 : decode cX0_layLast 40 = .ok (.iconst 1, 1) := by decide +kernel
theorem dX0_layLast_41 : decode cX0_layLast 41 = .ok (.goto 4, 3) := by decide +kernel
theorem dX0_layLast_44 : decode cX0_layLast 44 = .ok (.iconst 0, 1) := by decide +kernel
theorem dX0_layLast_45 : decode cX0_layLast 45 = .ok (.istore 5, 2) := by decide +kernel
theorem dX0_layLast_47 : decode cX0_layLast 47 = .ok (.iload 5, 2) := by decide +kernel
theorem dX0_layLast_49 : decode cX0_layLast 49 = .ok (.ifCond .eq 12, 3) := by decide +kernel
theorem dX0_layLast_52 : decode cX0_layLast 52 = .ok (.aload_n 0, 1) := by decide +kernel
theorem dX0_layLast_53 : decode cX0_layLast 53 = .ok (.getfield 11, 3) := by decide +kernel
theorem dX0_layLast_56 : decode cX0_layLast 56 = .ok (.iload_n 2, 1) := by decide +kernel
theorem dX0_layLast_57 : decode cX0_layLast 57 = .ok (.iaload, 1) := by decide +kernel
theorem dX0_layLast_58 : decode cX0_layLast 58 = .ok (.goto 11, 3) := by decide +kernel
theorem dX0_layLast_61 : decode cX0_layLast 61 = .ok (.aload_n 0, 1) := by decide +kernel
theorem dX0_layLast_62 : decode cX0_layLast 62 = .ok (.getfield 11, 3) := by decide +kernel
theorem dX0_layLast_65 : decode cX0_layLast 65 = .ok (.iload_n 2, 1) := by decide +kernel
theorem dX0_layLast_66 : decode cX0_layLast 66 = .ok (.iaload, 1) := by decide +kernel
theorem dX0_layLast_67 : decode cX0_layLast 67 = .ok (.iconst 1, 1) := by decide +kernel
theorem dX0_layLast_68 : decode cX0_layLast 68 = .ok (.iadd, 1) := by decide +kernel
theorem dX0_layLast_69 : decode cX0_layLast 69 = .ok (.istore 6, 2) := by decide +kernel
theorem dX0_layLast_71 : decode cX0_layLast 71 = .ok (.iload 5, 2) := by decide +kernel
theorem dX0_layLast_73 : decode cX0_layLast 73 = .ok (.ifCond .eq 14, 3) := by decide +kernel
theorem dX0_layLast_76 : decode cX0_layLast 76 = .ok (.aload_n 0, 1) := by decide +kernel
theorem dX0_layLast_77 : decode cX0_layLast 77 = .ok (.getfield 15, 3) := by decide +kernel
theorem dX0_layLast_80 : decode cX0_layLast 80 = .ok (.iload_n 2, 1) := by decide +kernel
theorem dX0_layLast_81 : decode cX0_layLast 81 = .ok (.iaload, 1) := by decide +kernel
theorem dX0_layLast_82 : decode cX0_layLast 82 = .ok (.iload_n 3, 1) := by decide +kernel
theorem dX0_layLast_83 : decode cX0_layLast 83 = .ok (.iadd, 1) := by decide +kernel
theorem dX0_layLast_84 : decode cX0_layLast 84 = .ok (.goto 4, 3) := by decide +kernel
theorem dX0_layLast_87 : decode cX0_layLast 87 = .ok (.iload_n 3, 1) := by decide +kernel
theorem dX0_layLast_88 : decode cX0_layLast 88 = .ok (.istore 7, 2) := by decide +kernel
theorem dX0_layLast_90 : decode cX0_layLast 90 = .ok (.iload 6, 2) := by decide +kernel
theorem dX0_layLast_92 : decode cX0_layLast 92 = .ok (.aload_n 0, 1) := by decide +kernel
theorem dX0_layLast_93 : decode cX0_layLast 93 = .ok (.getfield 11, 3) := by decide +kernel
theorem dX0_layLast_96 : decode cX0_layLast 96 = .ok (.iload_n 1, 1) := by decide +kernel
theorem dX0_layLast_97 : decode cX0_layLast 97 = .ok (.iaload, 1) := by decide +kernel
theorem dX0_layLast_98 : decode cX0_layLast 98 = .ok (.if_icmp .lt 25, 3) := by decide +kernel
theorem dX0_layLast_101 : decode cX0_layLast 101 = .ok (.iload 6, 2) := by decide +kernel
theorem dX0_layLast_103 : decode cX0_layLast 103 = .ok (.aload_n 0, 1) := by decide +kernel
theorem dX0_layLast_104 : decode cX0_layLast 104 = .ok (.getfield 11, 3) := by decide +kernel
theorem dX0_layLast_107 : decode cX0_layLast 107 = .ok (.iload_n 1, 1) := by decide +kernel
theorem dX0_layLast_108 : decode cX0_layLast 108 = .ok (.iaload, 1) := by decide +kernel
theorem dX0_layLast_109 : decode cX0_layLast 109 = .ok (.if_icmp .ne 30, 3) := by decide +kernel
theorem dX0_layLast_112 : decode cX0_layLast 112 = .ok (.iload 7, 2) := by decide +kernel
theorem dX0_layLast_114 : decode cX0_layLast 114 = .ok (.aload_n 0, 1) := by decide +kernel
theorem dX0_layLast_115 : decode cX0_layLast 115 = .ok (.getfield 15, 3) := by decide +kernel
theorem dX0_layLast_118 : decode cX0_layLast 118 = .ok (.iload_n 1, 1) := by decide +kernel
theorem dX0_layLast_119 : decode cX0_layLast 119 = .ok (.iaload, 1) := by decide +kernel
theorem dX0_layLast_120 : decode cX0_layLast 120 = .ok (.if_icmp .ge 19, 3) := by decide +kernel
theorem dX0_layLast_123 : decode cX0_layLast 123 = .ok (.aload_n 0, 1) := by decide +kernel
theorem dX0_layLast_124 : decode cX0_layLast 124 = .ok (.getfield 11, 3) := by decide +kernel
theorem dX0_layLast_127 : decode cX0_layLast 127 = .ok (.iload_n 1, 1) := by decide +kernel
theorem dX0_layLast_128 : decode cX0_layLast 128 = .ok (.iload 6, 2) := by decide +kernel
theorem dX0_layLast_130 : decode cX0_layLast 130 = .ok (.iastore, 1) := by decide +kernel
theorem dX0_layLast_131 : decode cX0_layLast 131 = .ok (.aload_n 0, 1) := by decide +kernel
theorem dX0_layLast_132 : decode cX0_layLast 132 = .ok (.getfield 15, 3) := by decide +kernel
theorem dX0_layLast_135 : decode cX0_layLast 135 = .ok (.iload_n 1, 1) := by decide +kernel
theorem dX0_layLast_136 : decode cX0_layLast 136 = .ok (.iload 7, 2) := by decide +kernel
theorem dX0_layLast_138 : decode cX0_layLast 138 = .ok (.iastore, 1) := by decide +kernel
theorem dX0_layLast_139 : decode cX0_layLast 139 = .ok (.return_, 1) := by decide +kernel
theorem dX0_cook_0 : decode cX0_cook 0 = .ok (.iconst 0, 1) := by decide +kernel
theorem dX0_cook_1 : decode cX0_cook 1 = .ok (.istore_n 2, 1) := by decide +kernel
theorem dX0_cook_2 : decode cX0_cook 2 = .ok (.iload_n 2, 1) := by decide +kernel
theorem dX0_cook_3 : decode cX0_cook 3 = .ok (.bipush 6, 2) := by decide +kernel
theorem dX0_cook_5 : decode cX0_cook 5 = .ok (.if_icmp .ge 20, 3) := by decide +kernel
theorem dX0_cook_8 : decode cX0_cook 8 = .ok (.aload_n 0, 1) := by decide +kernel
theorem dX0_cook_9 : decode cX0_cook 9 = .ok (.getfield 18, 3) := by decide +kernel
theorem dX0_cook_12 : decode cX0_cook 12 = .ok (.iload_n 2, 1) := by decide +kernel
theorem dX0_cook_13 : decode cX0_cook 13 = .ok (.aload_n 1, 1) := by decide +kernel
theorem dX0_cook_14 : decode cX0_cook 14 = .ok (.iload_n 2, 1) := by decide +kernel
theorem dX0_cook_15 : decode cX0_cook 15 = .ok (.invokevirtual 45, 3) := by decide +kernel
theorem dX0_cook_18 : decode cX0_cook 18 = .ok (.iastore, 1) := by decide +kernel
theorem dX0_cook_19 : decode cX0_cook 19 = .ok (.iinc 2 1, 3) := by decide +kernel
theorem dX0_cook_22 : decode cX0_cook 22 = .ok (.goto (-20), 3) := by decide +kernel
theorem dX0_cook_25 : decode cX0_cook 25 = .ok (.iconst 0, 1) := by decide +kernel
theorem dX0_cook_26 : decode cX0_cook 26 = .ok (.istore_n 2, 1) := by decide +kernel
theorem dX0_cook_27 : decode cX0_cook 27 = .ok (.iconst 0, 1) := by decide +kernel
theorem dX0_cook_28 : decode cX0_cook 28 = .ok (.istore_n 3, 1) := by decide +kernel
theorem dX0_cook_29 : decode cX0_cook 29 = .ok (.iload_n 3, 1) := by decide +kernel
theorem dX0_cook_30 : decode cX0_cook 30 = .ok (.aload_n 1, 1) := by decide +kernel
theorem dX0_cook_31 : decode cX0_cook 31 = .ok (.getfield 51, 3) := by decide +kernel
theorem dX0_cook_34 : decode cX0_cook 34 = .ok (.getfield 21, 3) := by decide +kernel
theorem dX0_cook_37 : decode cX0_cook 37 = .ok (.if_icmp .ge 21, 3) := by decide +kernel
theorem dX0_cook_40 : decode cX0_cook 40 = .ok (.iload_n 2, 1) := by decide +kernel
theorem dX0_cook_41 : decode cX0_cook 41 = .ok (.aload_n 1, 1) := by decide +kernel
theorem dX0_cook_42 : decode cX0_cook 42 = .ok (.getfield 51, 3) := by decide +kernel
theorem dX0_cook_45 : decode cX0_cook 45 = .ok (.iload_n 3, 1) := by decide +kernel
theorem dX0_cook_46 : decode cX0_cook 46 = .ok (.iconst 0, 1) := by decide +kernel
theorem dX0_cook_47 : decode cX0_cook 47 = .ok (.invokevirtual 27, 3) := by decide +kernel
theorem dX0_cook_50 : decode cX0_cook 50 = .ok (.iadd, 1) := by decide +kernel
theorem dX0_cook_51 : decode cX0_cook 51 = .ok (.istore_n 2, 1) := by decide +kernel
theorem dX0_cook_52 : decode cX0_cook 52 = .ok (.iinc 3 1, 3) := by decide +kernel
theorem dX0_cook_55 : decode cX0_cook 55 = .ok (.goto (-26), 3) := by decide +kernel
theorem dX0_cook_58 : decode cX0_cook 58 = .ok (.aload_n 0, 1) := by decide +kernel
theorem dX0_cook_59 : decode cX0_cook 59 = .ok (.iconst 0, 1) := by decide +kernel
theorem dX0_cook_60 : decode cX0_cook 60 = .ok (.putfield 55, 3) := by decide +kernel
theorem dX0_cook_63 : decode cX0_cook 63 = .ok (.aload_n 0, 1) := by decide +kernel
theorem dX0_cook_64 : decode cX0_cook 64 = .ok (.iconst 0, 1) := by decide +kernel
theorem dX0_cook_65 : decode cX0_cook 65 = .ok (.putfield 58, 3) := by decide +kernel
theorem dX0_cook_68 : decode cX0_cook 68 = .ok (.aload_n 0, 1) := by decide +kernel
theorem dX0_cook_69 : decode cX0_cook 69 = .ok (.aload_n 1, 1) := by decide +kernel
theorem dX0_cook_70 : decode cX0_cook 70 = .ok (.getfield 51, 3) := by decide +kernel
theorem dX0_cook_73 : decode cX0_cook 73 = .ok (.aload_n 1, 1) := by decide +kernel
theorem dX0_cook_74 : decode cX0_cook 74 = .ok (.getfield 51, 3) := by decide +kernel
theorem dX0_cook_77 : decode cX0_cook 77 = .ok (.getfield 21, 3) := by decide +kernel
theorem dX0_cook_80 : decode cX0_cook 80 = .ok (.iconst 1, 1) := by decide +kernel
theorem dX0_cook_81 : decode cX0_cook 81 = .ok (.isub, 1) := by decide +kernel
theorem dX0_cook_82 : decode cX0_cook 82 = .ok (.iload_n 2, 1) := by decide +kernel
theorem dX0_cook_83 : decode cX0_cook 83 = .ok (.iconst 0, 1) := by decide +kernel
theorem dX0_cook_84 : decode cX0_cook 84 = .ok (.iconst 0, 1) := by decide +kernel
theorem dX0_cook_85 : decode cX0_cook 85 = .ok (.invokevirtual 61, 3) := by decide +kernel
theorem dX0_cook_88 : decode cX0_cook 88 = .ok (.return_, 1) := by decide +kernel
theorem dX0_cookFrom_0 : decode cX0_cookFrom 0 = .ok (.iload 4, 2) := by decide +kernel
theorem dX0_cookFrom_2 : decode cX0_cookFrom 2 = .ok (.iload_n 3, 1) := by decide +kernel
theorem dX0_cookFrom_3 : decode cX0_cookFrom 3 = .ok (.iadd, 1) := by decide +kernel
theorem dX0_cookFrom_4 : decode cX0_cookFrom 4 = .ok (.aload_n 0, 1) := by decide +kernel
theorem dX0_cookFrom_5 : decode cX0_cookFrom 5 = .ok (.getfield 55, 3) := by decide +kernel
theorem dX0_cookFrom_8 : decode cX0_cookFrom 8 = .ok (.if_icmp .ge 4, 3) := by decide +kernel
theorem dX0_cookFrom_11 : decode cX0_cookFrom 11 = .ok (.return_, 1) := by decide +kernel
theorem dX0_cookFrom_12 : decode cX0_cookFrom 12 = .ok (.iload_n 2, 1) := by decide +kernel
theorem dX0_cookFrom_13 : decode cX0_cookFrom 13 = .ok (.ifCond .lt 9, 3) := by decide +kernel
theorem dX0_cookFrom_16 : decode cX0_cookFrom 16 = .ok (.iload_n 2, 1) := by decide +kernel
theorem dX0_cookFrom_17 : decode cX0_cookFrom 17 = .ok (.bipush 12, 2) := by decide +kernel
theorem dX0_cookFrom_19 : decode cX0_cookFrom 19 = .ok (.if_icmp .lt 16, 3) := by decide +kernel
theorem dX0_cookFrom_22 : decode cX0_cookFrom 22 = .ok (.aload_n 0, 1) := by decide +kernel
theorem dX0_cookFrom_23 : decode cX0_cookFrom 23 = .ok (.iload 4, 2) := by decide +kernel
theorem dX0_cookFrom_25 : decode cX0_cookFrom 25 = .ok (.putfield 55, 3) := by decide +kernel
theorem dX0_cookFrom_28 : decode cX0_cookFrom 28 = .ok (.aload_n 0, 1) := by decide +kernel
theorem dX0_cookFrom_29 : decode cX0_cookFrom 29 = .ok (.iload 5, 2) := by decide +kernel
theorem dX0_cookFrom_31 : decode cX0_cookFrom 31 = .ok (.putfield 58, 3) := by decide +kernel
theorem dX0_cookFrom_34 : decode cX0_cookFrom 34 = .ok (.return_, 1) := by decide +kernel
theorem dX0_cookFrom_35 : decode cX0_cookFrom 35 = .ok (.aload_n 1, 1) := by decide +kernel
theorem dX0_cookFrom_36 : decode cX0_cookFrom 36 = .ok (.iload_n 2, 1) := by decide +kernel
theorem dX0_cookFrom_37 : decode cX0_cookFrom 37 = .ok (.iconst 0, 1) := by decide +kernel
theorem dX0_cookFrom_38 : decode cX0_cookFrom 38 = .ok (.invokevirtual 27, 3) := by decide +kernel
theorem dX0_cookFrom_41 : decode cX0_cookFrom 41 = .ok (.istore 6, 2) := by decide +kernel
theorem dX0_cookFrom_43 : decode cX0_cookFrom 43 = .ok (.aload_n 0, 1) := by decide +kernel
theorem dX0_cookFrom_44 : decode cX0_cookFrom 44 = .ok (.aload_n 1, 1) := by decide +kernel
theorem dX0_cookFrom_45 : decode cX0_cookFrom 45 = .ok (.iload_n 2, 1) := by decide +kernel
theorem dX0_cookFrom_46 : decode cX0_cookFrom 46 = .ok (.invokevirtual 65, 3) := by decide +kernel
theorem dX0_cookFrom_49 : decode cX0_cookFrom 49 = .ok (.ifCond .eq 40, 3) := by decide +kernel
theorem dX0_cookFrom_52 : decode cX0_cookFrom 52 = .ok (.aload_n 0, 1) := by decide +kernel
theorem dX0_cookFrom_53 : decode cX0_cookFrom 53 = .ok (.aload_n 1, 1) := by decide +kernel
theorem dX0_cookFrom_54 : decode cX0_cookFrom 54 = .ok (.iload_n 2, 1) := by decide +kernel
theorem dX0_cookFrom_55 : decode cX0_cookFrom 55 = .ok (.iconst 1, 1) := by decide +kernel
theorem dX0_cookFrom_56 : decode cX0_cookFrom 56 = .ok (.invokevirtual 69, 3) := by decide +kernel
theorem dX0_cookFrom_59 : decode cX0_cookFrom 59 = .ok (.aload_n 0, 1) := by decide +kernel
theorem dX0_cookFrom_60 : decode cX0_cookFrom 60 = .ok (.aload_n 1, 1) := by decide +kernel
theorem dX0_cookFrom_61 : decode cX0_cookFrom 61 = .ok (.iload_n 2, 1) := by decide +kernel
theorem dX0_cookFrom_62 : decode cX0_cookFrom 62 = .ok (.iconst 1, 1) := by decide +kernel
theorem dX0_cookFrom_63 : decode cX0_cookFrom 63 = .ok (.isub, 1) := by decide +kernel
theorem dX0_cookFrom_64 : decode cX0_cookFrom 64 = .ok (.iload_n 3, 1) := by decide +kernel
theorem dX0_cookFrom_65 : decode cX0_cookFrom 65 = .ok (.iload 6, 2) := by decide +kernel
theorem dX0_cookFrom_67 : decode cX0_cookFrom 67 = .ok (.isub, 1) := by decide +kernel
theorem dX0_cookFrom_68 : decode cX0_cookFrom 68 = .ok (.iload 4, 2) := by decide +kernel
theorem dX0_cookFrom_70 : decode cX0_cookFrom 70 = .ok (.iload 6, 2) := by decide +kernel
theorem dX0_cookFrom_72 : decode cX0_cookFrom 72 = .ok (.iadd, 1) := by decide +kernel
theorem dX0_cookFrom_73 : decode cX0_cookFrom 73 = .ok (.iload 5, 2) := by decide +kernel
theorem dX0_cookFrom_75 : decode cX0_cookFrom 75 = .ok (.iconst 1, 1) := by decide +kernel
theorem dX0_cookFrom_76 : decode cX0_cookFrom 76 = .ok (.iload_n 2, 1) := by decide +kernel
theorem dX0_cookFrom_77 : decode cX0_cookFrom 77 = .ok (.ishl, 1) := by decide +kernel
theorem dX0_cookFrom_78 : decode cX0_cookFrom 78 = .ok (.ior, 1) := by decide +kernel
theorem dX0_cookFrom_79 : decode cX0_cookFrom 79 = .ok (.invokevirtual 61, 3) := by decide +kernel
theorem dX0_cookFrom_82 : decode cX0_cookFrom 82 = .ok (.aload_n 0, 1) := by decide +kernel
theorem dX0_cookFrom_83 : decode cX0_cookFrom 83 = .ok (.aload_n 1, 1) := by decide +kernel
theorem dX0_cookFrom_84 : decode cX0_cookFrom 84 = .ok (.iload_n 2, 1) := by decide +kernel
theorem dX0_cookFrom_85 : decode cX0_cookFrom 85 = .ok (.iconst (-1), 1) := by decide +kernel
theorem dX0_cookFrom_86 : decode cX0_cookFrom 86 = .ok (.invokevirtual 69, 3) := by decide +kernel
theorem dX0_cookFrom_89 : decode cX0_cookFrom 89 = .ok (.aload_n 0, 1) := by decide +kernel
theorem dX0_cookFrom_90 : decode cX0_cookFrom 90 = .ok (.aload_n 1, 1) := by decide +kernel
theorem dX0_cookFrom_91 : decode cX0_cookFrom 91 = .ok (.iload_n 2, 1) := by decide +kernel
theorem dX0_cookFrom_92 : decode cX0_cookFrom 92 = .ok (.iconst 1, 1) := by decide +kernel
theorem dX0_cookFrom_93 : decode cX0_cookFrom 93 = .ok (.isub, 1) := by decide +kernel
theorem dX0_cookFrom_94 : decode cX0_cookFrom 94 = .ok (.iload_n 3, 1) := by decide +kernel
theorem dX0_cookFrom_95 : decode cX0_cookFrom 95 = .ok (.iload 6, 2) := by decide +kernel
theorem dX0_cookFrom_97 : decode cX0_cookFrom 97 = .ok (.isub, 1) := by decide +kernel
theorem dX0_cookFrom_98 : decode cX0_cookFrom 98 = .ok (.iload 4, 2) := by decide +kernel
theorem dX0_cookFrom_100 : decode cX0_cookFrom 100 = .ok (.iload 5, 2) := by decide +kernel
theorem dX0_cookFrom_102 : decode cX0_cookFrom 102 = .ok (.invokevirtual 61, 3) := by decide +kernel
theorem dX0_cookFrom_105 : decode cX0_cookFrom 105 = .ok (.return_, 1) := by decide +kernel
theorem dX0_canCook_0 : decode cX0_canCook 0 = .ok (.iconst 0, 1) := by decide +kernel
theorem dX0_canCook_1 : decode cX0_canCook 1 = .ok (.istore_n 3, 1) := by decide +kernel
theorem dX0_canCook_2 : decode cX0_canCook 2 = .ok (.iload_n 3, 1) := by decide +kernel
theorem dX0_canCook_3 : decode cX0_canCook 3 = .ok (.bipush 6, 2) := by decide +kernel
theorem dX0_canCook_5 : decode cX0_canCook 5 = .ok (.if_icmp .ge 28, 3) := by decide +kernel
theorem dX0_canCook_8 : decode cX0_canCook 8 = .ok (.aload_n 1, 1) := by decide +kernel
theorem dX0_canCook_9 : decode cX0_canCook 9 = .ok (.iload_n 2, 1) := by decide +kernel
theorem dX0_canCook_10 : decode cX0_canCook 10 = .ok (.iconst 1, 1) := by decide +kernel
theorem dX0_canCook_11 : decode cX0_canCook 11 = .ok (.iload_n 3, 1) := by decide +kernel
theorem dX0_canCook_12 : decode cX0_canCook 12 = .ok (.iadd, 1) := by decide +kernel
theorem dX0_canCook_13 : decode cX0_canCook 13 = .ok (.invokevirtual 27, 3) := by decide +kernel
theorem dX0_canCook_16 : decode cX0_canCook 16 = .ok (.aload_n 0, 1) := by decide +kernel
theorem dX0_canCook_17 : decode cX0_canCook 17 = .ok (.getfield 18, 3) := by decide +kernel
theorem dX0_canCook_20 : decode cX0_canCook 20 = .ok (.iload_n 3, 1) := by decide +kernel
theorem dX0_canCook_21 : decode cX0_canCook 21 = .ok (.iaload, 1) := by decide +kernel
theorem dX0_canCook_22 : decode cX0_canCook 22 = .ok (.if_icmp .le 5, 3) := by decide +kernel
theorem dX0_canCook_25 : decode cX0_canCook 25 = .ok (.iconst 0, 1) := by decide +kernel
theorem dX0_canCook_26 : decode cX0_canCook 26 = .ok (.ireturn, 1) := by decide +kernel
theorem dX0_canCook_27 : decode cX0_canCook 27 = .ok (.iinc 3 1, 3) := by decide +kernel
theorem dX0_canCook_30 : decode cX0_canCook 30 = .ok (.goto (-28), 3) := by decide +kernel
theorem dX0_canCook_33 : decode cX0_canCook 33 = .ok (.iconst 1, 1) := by decide +kernel
theorem dX0_canCook_34 : decode cX0_canCook 34 = .ok (.ireturn, 1) := by decide +kernel
theorem dX0_use_0 : decode cX0_use 0 = .ok (.iconst 0, 1) := by decide +kernel
theorem dX0_use_1 : decode cX0_use 1 = .ok (.istore 4, 2) := by decide +kernel
theorem dX0_use_3 : decode cX0_use 3 = .ok (.iload 4, 2) := by decide +kernel
theorem dX0_use_5 : decode cX0_use 5 = .ok (.bipush 6, 2) := by decide +kernel
theorem dX0_use_7 : decode cX0_use 7 = .ok (.if_icmp .ge 30, 3) := by decide +kernel
theorem dX0_use_10 : decode cX0_use 10 = .ok (.aload_n 0, 1) := by decide +kernel
theorem dX0_use_11 : decode cX0_use 11 = .ok (.getfield 18, 3) := by decide +kernel
theorem dX0_use_14 : decode cX0_use 14 = .ok (.iload 4, 2) := by decide +kernel
theorem dX0_use_16 : decode cX0_use 16 = .ok (.dup2, 1) := by decide +kernel
theorem dX0_use_17 : decode cX0_use 17 = .ok (.iaload, 1) := by decide +kernel
theorem dX0_use_18 : decode cX0_use 18 = .ok (.iload_n 3, 1) := by decide +kernel
theorem dX0_use_19 : decode cX0_use 19 = .ok (.aload_n 1, 1) := by decide +kernel
theorem dX0_use_20 : decode cX0_use 20 = .ok (.iload_n 2, 1) := by decide +kernel
theorem dX0_use_21 : decode cX0_use 21 = .ok (.iconst 1, 1) := by decide +kernel
theorem dX0_use_22 : decode cX0_use 22 = .ok (.iload 4, 2) := by decide +kernel
theorem dX0_use_24 : decode cX0_use 24 = .ok (.iadd, 1) := by decide +kernel
theorem dX0_use_25 : decode cX0_use 25 = .ok (.invokevirtual 27, 3) := by decide +kernel
theorem dX0_use_28 : decode cX0_use 28 = .ok (.imul, 1) := by decide +kernel
theorem dX0_use_29 : decode cX0_use 29 = .ok (.isub, 1) := by decide +kernel
theorem dX0_use_30 : decode cX0_use 30 = .ok (.iastore, 1) := by decide +kernel
theorem dX0_use_31 : decode cX0_use 31 = .ok (.iinc 4 1, 3) := by decide +kernel
theorem dX0_use_34 : decode cX0_use 34 = .ok (.goto (-31), 3) := by decide +kernel
theorem dX0_use_37 : decode cX0_use 37 = .ok (.return_, 1) := by decide +kernel
theorem dX1_init_0 : decode cX1_init 0 = .ok (.aload_n 0, 1) := by decide +kernel
theorem dX1_init_1 : decode cX1_init 1 = .ok (.invokespecial 3, 3) := by decide +kernel
theorem dX1_init_4 : decode cX1_init 4 = .ok (.aload_n 0, 1) := by decide +kernel
theorem dX1_init_5 : decode cX1_init 5 = .ok (.bipush 14, 2) := by decide +kernel
theorem dX1_init_7 : decode cX1_init 7 = .ok (.newarray .int, 2) := by decide +kernel
theorem dX1_init_9 : decode cX1_init 9 = .ok (.putfield 9, 3) := by decide +kernel
theorem dX1_init_12 : decode cX1_init 12 = .ok (.aload_n 0, 1) := by decide +kernel
theorem dX1_init_13 : decode cX1_init 13 = .ok (.bipush 14, 2) := by decide +kernel
theorem dX1_init_15 : decode cX1_init 15 = .ok (.newarray .int, 2) := by decide +kernel
theorem dX1_init_17 : decode cX1_init 17 = .ok (.putfield 15, 3) := by decide +kernel
theorem dX1_init_20 : decode cX1_init 20 = .ok (.aload_n 0, 1) := by decide +kernel
theorem dX1_init_21 : decode cX1_init 21 = .ok (.bipush 14, 2) := by decide +kernel
theorem dX1_init_23 : decode cX1_init 23 = .ok (.newarray .int, 2) := by decide +kernel
theorem dX1_init_25 : decode cX1_init 25 = .ok (.putfield 18, 3) := by decide +kernel
theorem dX1_init_28 : decode cX1_init 28 = .ok (.return_, 1) := by decide +kernel
theorem dX1_fewest_0 : decode cX1_fewest 0 = .ok (.aload_n 0, 1) := by decide +kernel
theorem dX1_fewest_1 : decode cX1_fewest 1 = .ok (.aload_n 1, 1) := by decide +kernel
theorem dX1_fewest_2 : decode cX1_fewest 2 = .ok (.iload_n 2, 1) := by decide +kernel
theorem dX1_fewest_3 : decode cX1_fewest 3 = .ok (.invokevirtual 21, 3) := by decide +kernel
theorem dX1_fewest_6 : decode cX1_fewest 6 = .ok (.aload_n 0, 1) := by decide +kernel
theorem dX1_fewest_7 : decode cX1_fewest 7 = .ok (.iload_n 3, 1) := by decide +kernel
theorem dX1_fewest_8 : decode cX1_fewest 8 = .ok (.invokevirtual 25, 3) := by decide +kernel
theorem dX1_fewest_11 : decode cX1_fewest 11 = .ok (.istore 4, 2) := by decide +kernel
theorem dX1_fewest_13 : decode cX1_fewest 13 = .ok (.iload 4, 2) := by decide +kernel
theorem dX1_fewest_15 : decode cX1_fewest 15 = .ok (.iconst (-1), 1) := by decide +kernel
theorem dX1_fewest_16 : decode cX1_fewest 16 = .ok (.if_icmp .eq 8, 3) := by decide +kernel
theorem dX1_fewest_19 : decode cX1_fewest 19 = .ok (.iconst 1, 1) := by decide +kernel
theorem dX1_fewest_20 : decode cX1_fewest 20 = .ok (.iload 4, 2) := by decide +kernel
theorem dX1_fewest_22 : decode cX1_fewest 22 = .ok (.ishl, 1) := by decide +kernel
theorem dX1_fewest_23 : decode cX1_fewest 23 = .ok (.ireturn, 1) := by decide +kernel
theorem dX1_fewest_24 : decode cX1_fewest 24 = .ok (.aload_n 0, 1) := by decide +kernel
theorem dX1_fewest_25 : decode cX1_fewest 25 = .ok (.bipush 10, 2) := by decide +kernel
theorem dX1_fewest_27 : decode cX1_fewest 27 = .ok (.iload_n 3, 1) := by decide +kernel
theorem dX1_fewest_28 : decode cX1_fewest 28 = .ok (.imul, 1) := by decide +kernel
theorem dX1_fewest_29 : decode cX1_fewest 29 = .ok (.bipush 8, 2) := by decide +kernel
theorem dX1_fewest_31 : decode cX1_fewest 31 = .ok (.iadd, 1) := by decide +kernel
theorem dX1_fewest_32 : decode cX1_fewest 32 = .ok (.bipush 9, 2) := by decide +kernel
theorem dX1_fewest_34 : decode cX1_fewest 34 = .ok (.idiv, 1) := by decide +kernel
theorem dX1_fewest_35 : decode cX1_fewest 35 = .ok (.putfield 29, 3) := by decide +kernel
theorem dX1_fewest_38 : decode cX1_fewest 38 = .ok (.aload_n 0, 1) := by decide +kernel
theorem dX1_fewest_39 : decode cX1_fewest 39 = .ok (.invokevirtual 33, 3) := by decide +kernel
theorem dX1_fewest_42 : decode cX1_fewest 42 = .ok (.istore 5, 2) := by decide +kernel
theorem dX1_fewest_44 : decode cX1_fewest 44 = .ok (.iload 5, 2) := by decide +kernel
theorem dX1_fewest_46 : decode cX1_fewest 46 = .ok (.iconst (-1), 1) := by decide +kernel
theorem dX1_fewest_47 : decode cX1_fewest 47 = .ok (.if_icmp .ne 5, 3) := by decide +kernel
theorem dX1_fewest_50 : decode cX1_fewest 50 = .ok (.iconst 0, 1) := by decide +kernel
theorem dX1_fewest_51 : decode cX1_fewest 51 = .ok (.ireturn, 1) := by decide +kernel
theorem dX1_fewest_52 : decode cX1_fewest 52 = .ok (.aload_n 0, 1) := by decide +kernel
theorem dX1_fewest_53 : decode cX1_fewest 53 = .ok (.ldc 37, 2) := by decide +kernel
theorem dX1_fewest_55 : decode cX1_fewest 55 = .ok (.putfield 38, 3) := by decide +kernel
theorem dX1_fewest_58 : decode cX1_fewest 58 = .ok (.aload_n 0, 1) := by decide +kernel
theorem dX1_fewest_59 : decode cX1_fewest 59 = .ok (.iconst 0, 1) := by decide +kernel
theorem dX1_fewest_60 : decode cX1_fewest 60 = .ok (.putfield 41, 3) := by decide +kernel
theorem dX1_fewest_63 : decode cX1_fewest 63 = .ok (.aload_n 0, 1) := by decide +kernel
theorem dX1_fewest_64 : decode cX1_fewest 64 = .ok (.aload_n 0, 1) := by decide +kernel
theorem dX1_fewest_65 : decode cX1_fewest 65 = .ok (.getfield 44, 3) := by decide +kernel
theorem dX1_fewest_68 : decode cX1_fewest 68 = .ok (.iconst 1, 1) := by decide +kernel
theorem dX1_fewest_69 : decode cX1_fewest 69 = .ok (.isub, 1) := by decide +kernel
theorem dX1_fewest_70 : decode cX1_fewest 70 = .ok (.iload 5, 2) := by decide +kernel
theorem dX1_fewest_72 : decode cX1_fewest 72 = .ok (.iconst 0, 1) := by decide +kernel
theorem dX1_fewest_73 : decode cX1_fewest 73 = .ok (.iconst 0, 1) := by decide +kernel
theorem dX1_fewest_74 : decode cX1_fewest 74 = .ok (.invokevirtual 47, 3) := by decide +kernel
theorem dX1_fewest_77 : decode cX1_fewest 77 = .ok (.aload_n 0, 1) := by decide +kernel
theorem dX1_fewest_78 : decode cX1_fewest 78 = .ok (.getfield 41, 3) := by decide +kernel
theorem dX1_fewest_81 : decode cX1_fewest 81 = .ok (.ireturn, 1) := by decide +kernel
theorem dX1_gather_0 : decode cX1_gather 0 = .ok (.aload_n 0, 1) := by decide +kernel
theorem dX1_gather_1 : decode cX1_gather 1 = .ok (.iconst 0, 1) := by decide +kernel
theorem dX1_gather_2 : decode cX1_gather 2 = .ok (.putfield 44, 3) := by decide +kernel
theorem dX1_gather_5 : decode cX1_gather 5 = .ok (.iconst 0, 1) := by decide +kernel
theorem dX1_gather_6 : decode cX1_gather 6 = .ok (.istore_n 3, 1) := by decide +kernel
theorem dX1_gather_7 : decode cX1_gather 7 = .ok (.iload_n 3, 1) := by decide +kernel
theorem dX1_gather_8 : decode cX1_gather 8 = .ok (.aload_n 1, 1) := by decide +kernel
theorem dX1_gather_9 : decode cX1_gather 9 = .ok (.getfield 51, 3) := by decide +kernel
theorem dX1_gather_12 : decode cX1_gather 12 = .ok (.if_icmp .ge 76, 3) := by decide +kernel
theorem dX1_gather_15 : decode cX1_gather 15 = .ok (.aload_n 0, 1) := by decide +kernel
theorem dX1_gather_16 : decode cX1_gather 16 = .ok (.getfield 44, 3) := by decide +kernel
theorem dX1_gather_19 : decode cX1_gather 19 = .ok (.bipush 14, 2) := by decide +kernel
theorem dX1_gather_21 : decode cX1_gather 21 = .ok (.if_icmp .ge 67, 3) := by decide +kernel
theorem dX1_gather_24 : decode cX1_gather 24 = .ok (.aload_n 1, 1) := by decide +kernel
theorem dX1_gather_25 : decode cX1_gather 25 = .ok (.iload_n 3, 1) := by decide +kernel
theorem dX1_gather_26 : decode cX1_gather 26 = .ok (.iconst 0, 1) := by decide +kernel
theorem dX1_gather_27 : decode cX1_gather 27 = .ok (.invokevirtual 54, 3) := by decide +kernel
theorem dX1_gather_30 : decode cX1_gather 30 = .ok (.iload_n 2, 1) := by decide +kernel
theorem dX1_gather_31 : decode cX1_gather 31 = .ok (.if_icmp .ne 51, 3) := by decide +kernel
theorem dX1_gather_34 : decode cX1_gather 34 = .ok (.aload_n 0, 1) := by decide +kernel
theorem dX1_gather_35 : decode cX1_gather 35 = .ok (.getfield 9, 3) := by decide +kernel
theorem dX1_gather_38 : decode cX1_gather 38 = .ok (.aload_n 0, 1) := by decide +kernel
theorem dX1_gather_39 : decode cX1_gather 39 = .ok (.getfield 44, 3) := by decide +kernel
theorem dX1_gather_42 : decode cX1_gather 42 = .ok (.iload_n 3, 1) := by decide +kernel
theorem dX1_gather_43 : decode cX1_gather 43 = .ok (.iastore, 1) := by decide +kernel
theorem dX1_gather_44 : decode cX1_gather 44 = .ok (.aload_n 0, 1) := by decide +kernel
theorem dX1_gather_45 : decode cX1_gather 45 = .ok (.getfield 15, 3) := by decide +kernel
theorem dX1_gather_48 : decode cX1_gather 48 = .ok (.aload_n 0, 1) := by decide +kernel
theorem dX1_gather_49 : decode cX1_gather 49 = .ok (.getfield 44, 3) := by decide +kernel
theorem dX1_gather_52 : decode cX1_gather 52 = .ok (.aload_n 1, 1) := by decide +kernel
theorem dX1_gather_53 : decode cX1_gather 53 = .ok (.iload_n 3, 1) := by decide +kernel
theorem dX1_gather_54 : decode cX1_gather 54 = .ok (.iconst 1, 1) := by decide +kernel
theorem dX1_gather_55 : decode cX1_gather 55 = .ok (.invokevirtual 54, 3) := by decide +kernel
theorem dX1_gather_58 : decode cX1_gather 58 = .ok (.iastore, 1) := by decide +kernel
theorem dX1_gather_59 : decode cX1_gather 59 = .ok (.aload_n 0, 1) := by decide +kernel
theorem dX1_gather_60 : decode cX1_gather 60 = .ok (.aload_n 0, 1) := by decide +kernel
theorem dX1_gather_61 : decode cX1_gather 61 = .ok (.getfield 15, 3) := by decide +kernel
theorem dX1_gather_64 : decode cX1_gather 64 = .ok (.aload_n 0, 1) := by decide +kernel
theorem dX1_gather_65 : decode cX1_gather 65 = .ok (.getfield 44, 3) := by decide +kernel
theorem dX1_gather_68 : decode cX1_gather 68 = .ok (.iaload, 1) := by decide +kernel
theorem dX1_gather_69 : decode cX1_gather 69 = .ok (.invokevirtual 58, 3) := by decide +kernel
theorem dX1_gather_72 : decode cX1_gather 72 = .ok (.aload_n 0, 1) := by decide +kernel
theorem dX1_gather_73 : decode cX1_gather 73 = .ok (.dup, 1) := by decide +kernel
theorem dX1_gather_74 : decode cX1_gather 74 = .ok (.getfield 44, 3) := by decide +kernel
theorem dX1_gather_77 : decode cX1_gather 77 = .ok (.iconst 1, 1) := by decide +kernel
theorem dX1_gather_78 : decode cX1_gather 78 = .ok (.iadd, 1) := by decide +kernel
theorem dX1_gather_79 : decode cX1_gather 79 = .ok (.putfield 44, 3) := by decide +kernel
theorem dX1_gather_82 : decode cX1_gather 82 = .ok (.iinc 3 1, 3) := by decide +kernel
theorem dX1_gather_85 : decode cX1_gather 85 = .ok (.goto (-78), 3) := by decide +kernel
theorem dX1_gather_88 : decode cX1_gather 88 = .ok (.return_, 1) := by decide +kernel
theorem dX1_addFalling_0 : decode cX1_addFalling 0 = .ok (.aload_n 0, 1) := by decide +kernel
theorem dX1_addFalling_1 : decode cX1_addFalling 1 = .ok (.getfield 44, 3) := by decide +kernel
theorem dX1_addFalling_4 : decode cX1_addFalling 4 = .ok (.istore_n 2, 1) := by decide +kernel
theorem dX1_addFalling_5 : decode cX1_addFalling 5 = .ok (.iload_n 2, 1) := by decide +kernel
theorem dX1_addFalling_6 : decode cX1_addFalling 6 = .ok (.ifCond .le 41, 3) := by decide +kernel
theorem dX1_addFalling_9 : decode cX1_addFalling 9 = .ok (.iload_n 2, 1) := by decide +kernel
theorem dX1_addFalling_10 : decode cX1_addFalling 10 = .ok (.bipush 14, 2) := by decide +kernel
theorem dX1_addFalling_12 : decode cX1_addFalling 12 = .ok (.if_icmp .ge 35, 3) := by decide +kernel
theorem dX1_addFalling_15 : decode cX1_addFalling 15 = .ok (.aload_n 0, 1) := by decide +kernel
theorem dX1_addFalling_16 : decode cX1_addFalling 16 = .ok (.getfield 18, 3) := by decide +kernel
theorem dX1_addFalling_19 : decode cX1_addFalling 19 = .ok (.iload_n 2, 1) := by decide +kernel
theorem dX1_addFalling_20 : decode cX1_addFalling 20 = .ok (.iconst 1, 1) := by decide +kernel
theorem dX1_addFalling_21 : decode cX1_addFalling 21 = .ok (.isub, 1) := by decide +kernel
theorem dX1_addFalling_22 : decode cX1_addFalling 22 = .ok (.iaload, 1) := by decide +kernel
theorem dX1_addFalling_23 : decode cX1_addFalling 23 = .ok (.iload_n 1, 1) := by decide +kernel
theorem dX1_addFalling_24 : decode cX1_addFalling 24 = .ok (.if_icmp .ge 23, 3) := by decide +kernel
theorem dX1_addFalling_27 : decode cX1_addFalling 27 = .ok (.aload_n 0, 1) := by decide +kernel
theorem dX1_addFalling_28 : decode cX1_addFalling 28 = .ok (.getfield 18, 3) := by decide +kernel
theorem dX1_addFalling_31 : decode cX1_addFalling 31 = .ok (.iload_n 2, 1) := by decide +kernel
theorem dX1_addFalling_32 : decode cX1_addFalling 32 = .ok (.aload_n 0, 1) := by decide +kernel
theorem dX1_addFalling_33 : decode cX1_addFalling 33 = .ok (.getfield 18, 3) := by decide +kernel
theorem dX1_addFalling_36 : decode cX1_addFalling 36 = .ok (.iload_n 2, 1) := by decide +kernel
theorem dX1_addFalling_37 : decode cX1_addFalling 37 = .ok (.iconst 1, 1) := by decide +kernel
theorem dX1_addFalling_38 : decode cX1_addFalling 38 = .ok (.isub, 1) := by decide +kernel
theorem dX1_addFalling_39 : decode cX1_addFalling 39 = .ok (.iaload, 1) := by decide +kernel
theorem dX1_addFalling_40 : decode cX1_addFalling 40 = .ok (.iastore, 1) := by decide +kernel
theorem dX1_addFalling_41 : decode cX1_addFalling 41 = .ok (.iinc 2 (-1), 3) := by decide +kernel
theorem dX1_addFalling_44 : decode cX1_addFalling 44 = .ok (.goto (-39), 3) := by decide +kernel
theorem dX1_addFalling_47 : decode cX1_addFalling 47 = .ok (.iload_n 2, 1) := by decide +kernel
theorem dX1_addFalling_48 : decode cX1_addFalling 48 = .ok (.bipush 14, 2) := by decide +kernel
theorem dX1_addFalling_50 : decode cX1_addFalling 50 = .ok (.if_icmp .ge 10, 3) := by decide +kernel
theorem dX1_addFalling_53 : decode cX1_addFalling 53 = .ok (.aload_n 0, 1) := by decide +kernel
theorem dX1_addFalling_54 : decode cX1_addFalling 54 = .ok (.getfield 18, 3) := by decide +kernel
theorem dX1_addFalling_57 : decode cX1_addFalling 57 = .ok (.iload_n 2, 1) := by decide +kernel
theorem dX1_addFalling_58 : decode cX1_addFalling 58 = .ok (.iload_n 1, 1) := by decide +kernel
theorem dX1_addFalling_59 : decode cX1_addFalling 59 = .ok (.iastore, 1) := by decide +kernel
theorem dX1_addFalling_60 : decode cX1_addFalling 60 = .ok (.return_, 1) := by decide +kernel
theorem dX1_bestAlone_0 : decode cX1_bestAlone 0 = .ok (.iconst (-1), 1) := by decide +kernel
theorem dX1_bestAlone_1 : decode cX1_bestAlone 1 = .ok (.istore_n 2, 1) := by decide +kernel
theorem dX1_bestAlone_2 : decode cX1_bestAlone 2 = .ok (.ldc 37, 2) := by decide +kernel
theorem dX1_bestAlone_4 : decode cX1_bestAlone 4 = .ok (.istore_n 3, 1) := by decide +kernel
theorem dX1_bestAlone_5 : decode cX1_bestAlone 5 = .ok (.iconst 0, 1) := by decide +kernel
theorem dX1_bestAlone_6 : decode cX1_bestAlone 6 = .ok (.istore 4, 2) := by decide +kernel
theorem dX1_bestAlone_8 : decode cX1_bestAlone 8 = .ok (.iload 4, 2) := by decide +kernel
theorem dX1_bestAlone_10 : decode cX1_bestAlone 10 = .ok (.aload_n 0, 1) := by decide +kernel
theorem dX1_bestAlone_11 : decode cX1_bestAlone 11 = .ok (.getfield 44, 3) := by decide +kernel
theorem dX1_bestAlone_14 : decode cX1_bestAlone 14 = .ok (.if_icmp .ge 54, 3) := by decide +kernel
theorem dX1_bestAlone_17 : decode cX1_bestAlone 17 = .ok (.iload 4, 2) := by decide +kernel
theorem dX1_bestAlone_19 : decode cX1_bestAlone 19 = .ok (.bipush 14, 2) := by decide +kernel
theorem dX1_bestAlone_21 : decode cX1_bestAlone 21 = .ok (.if_icmp .ge 47, 3) := by decide +kernel
theorem dX1_bestAlone_24 : decode cX1_bestAlone 24 = .ok (.aload_n 0, 1) := by decide +kernel
theorem dX1_bestAlone_25 : decode cX1_bestAlone 25 = .ok (.getfield 15, 3) := by decide +kernel
theorem dX1_bestAlone_28 : decode cX1_bestAlone 28 = .ok (.iload 4, 2) := by decide +kernel
theorem dX1_bestAlone_30 : decode cX1_bestAlone 30 = .ok (.iaload, 1) := by decide +kernel
theorem dX1_bestAlone_31 : decode cX1_bestAlone 31 = .ok (.iload_n 1, 1) := by decide +kernel
theorem dX1_bestAlone_32 : decode cX1_bestAlone 32 = .ok (.if_icmp .lt 30, 3) := by decide +kernel
theorem dX1_bestAlone_35 : decode cX1_bestAlone 35 = .ok (.aload_n 0, 1) := by decide +kernel
theorem dX1_bestAlone_36 : decode cX1_bestAlone 36 = .ok (.getfield 15, 3) := by decide +kernel
theorem dX1_bestAlone_39 : decode cX1_bestAlone 39 = .ok (.iload 4, 2) := by decide +kernel
theorem dX1_bestAlone_41 : decode cX1_bestAlone 41 = .ok (.iaload, 1) := by decide +kernel
theorem dX1_bestAlone_42 : decode cX1_bestAlone 42 = .ok (.iload_n 3, 1) := by decide +kernel
theorem dX1_bestAlone_43 : decode cX1_bestAlone 43 = .ok (.if_icmp .ge 19, 3) := by decide +kernel
theorem dX1_bestAlone_46 : decode cX1_bestAlone 46 = .ok (.aload_n 0, 1) := by decide +kernel
theorem dX1_bestAlone_47 : decode cX1_bestAlone 47 = .ok (.getfield 15, 3) := by decide +kernel
theorem dX1_bestAlone_50 : decode cX1_bestAlone 50 = .ok (.iload 4, 2) := by decide +kernel
theorem dX1_bestAlone_52 : decode cX1_bestAlone 52 = .ok (.iaload, 1) := by decide +kernel
theorem dX1_bestAlone_53 : decode cX1_bestAlone 53 = .ok (.istore_n 3, 1) := by decide +kernel
theorem dX1_bestAlone_54 : decode cX1_bestAlone 54 = .ok (.aload_n 0, 1) := by decide +kernel
theorem dX1_bestAlone_55 : decode cX1_bestAlone 55 = .ok (.getfield 9, 3) := by decide +kernel
theorem dX1_bestAlone_58 : decode cX1_bestAlone 58 = .ok (.iload 4, 2) := by decide +kernel
theorem dX1_bestAlone_60 : decode cX1_bestAlone 60 = .ok (.iaload, 1) := by decide +kernel
theorem dX1_bestAlone_61 : decode cX1_bestAlone 61 = .ok (.istore_n 2, 1) := by decide +kernel
theorem dX1_bestAlone_62 : decode cX1_bestAlone 62 = .ok (.iinc 4 1, 3) := by decide +kernel
theorem dX1_bestAlone_65 : decode cX1_bestAlone 65 = .ok (.goto (-57), 3) := by decide +kernel
theorem dX1_bestAlone_68 : decode cX1_bestAlone 68 = .ok (.iload_n 2, 1) := by decide +kernel
theorem dX1_bestAlone_69 : decode cX1_bestAlone 69 = .ok (.ireturn, 1) := by decide +kernel
theorem dX1_fewestReaching_0 : decode cX1_fewestReaching 0 = .ok (.iconst 0, 1) := by decide +kernel
theorem dX1_fewestReaching_1 : decode cX1_fewestReaching 1 = .ok (.istore_n 1, 1) := by decide +kernel
theorem dX1_fewestReaching_2 : decode cX1_fewestReaching 2 = .ok (.iconst 0, 1) := by decide +kernel
theorem dX1_fewestReaching_3 : decode cX1_fewestReaching 3 = .ok (.istore_n 2, 1) := by decide +kernel
theorem dX1_fewestReaching_4 : decode cX1_fewestReaching 4 = .ok (.iload_n 2, 1) := by decide +kernel
theorem dX1_fewestReaching_5 : decode cX1_fewestReaching 5 = .ok (.aload_n 0, 1) := by decide +kernel
theorem dX1_fewestReaching_6 : decode cX1_fewestReaching 6 = .ok (.getfield 44, 3) := by decide +kernel
theorem dX1_fewestReaching_9 : decode cX1_fewestReaching 9 = .ok (.if_icmp .ge 36, 3) := by decide +kernel
theorem dX1_fewestReaching_12 : decode cX1_fewestReaching 12 = .ok (.iload_n 2, 1) := by decide +kernel
theorem dX1_fewestReaching_13 : decode cX1_fewestReaching 13 = .ok (.bipush 14, 2) := by decide +kernel
theorem dX1_fewestReaching_15 : decode cX1_fewestReaching 15 = .ok (.if_icmp .ge 30, 3) := by decide +kernel
theorem dX1_fewestReaching_18 : decode cX1_fewestReaching 18 = .ok (.iload_n 1, 1) := by decide +kernel
theorem dX1_fewestReaching_19 : decode cX1_fewestReaching 19 = .ok (.aload_n 0, 1) := by decide +kernel
theorem dX1_fewestReaching_20 : decode cX1_fewestReaching 20 = .ok (.getfield 18, 3) := by decide +kernel
theorem dX1_fewestReaching_23 : decode cX1_fewestReaching 23 = .ok (.iload_n 2, 1) := by decide +kernel
theorem dX1_fewestReaching_24 : decode cX1_fewestReaching 24 = .ok (.iaload, 1) := by decide +kernel
theorem dX1_fewestReaching_25 : decode cX1_fewestReaching 25 = .ok (.iadd, 1) := by decide +kernel
theorem dX1_fewestReaching_26 : decode cX1_fewestReaching 26 = .ok (.istore_n 1, 1) := by decide +kernel
theorem dX1_fewestReaching_27 : decode cX1_fewestReaching 27 = .ok (.iload_n 1, 1) := by decide +kernel
theorem dX1_fewestReaching_28 : decode cX1_fewestReaching 28 = .ok (.aload_n 0, 1) := by decide +kernel
theorem dX1_fewestReaching_29 : decode cX1_fewestReaching 29 = .ok (.getfield 29, 3) := by decide +kernel
theorem dX1_fewestReaching_32 : decode cX1_fewestReaching 32 = .ok (.if_icmp .lt 7, 3) := by decide +kernel
theorem dX1_fewestReaching_35 : decode cX1_fewestReaching 35 = .ok (.iload_n 2, 1) := by decide +kernel
theorem dX1_fewestReaching_36 : decode cX1_fewestReaching 36 = .ok (.iconst 1, 1) := by decide +kernel
theorem dX1_fewestReaching_37 : decode cX1_fewestReaching 37 = .ok (.iadd, 1) := by decide +kernel
theorem dX1_fewestReaching_38 : decode cX1_fewestReaching 38 = .ok (.ireturn, 1) := by decide +kernel
theorem dX1_fewestReaching_39 : decode cX1_fewestReaching 39 = .ok (.iinc 2 1, 3) := by decide +kernel
theorem dX1_fewestReaching_42 : decode cX1_fewestReaching 42 = .ok (.goto (-38), 3) := by decide +kernel
theorem dX1_fewestReaching_45 : decode cX1_fewestReaching 45 = .ok (.iconst (-1), 1) := by decide +kernel
theorem dX1_fewestReaching_46 : decode cX1_fewestReaching 46 = .ok (.ireturn, 1) := by decide +kernel
theorem dX1_search_0 : decode cX1_search 0 = .ok (.iload_n 3, 1) := by decide +kernel
theorem dX1_search_1 : decode cX1_search 1 = .ok (.aload_n 0, 1) := by decide +kernel
theorem dX1_search_2 : decode cX1_search 2 = .ok (.getfield 38, 3) := by decide +kernel
theorem dX1_search_5 : decode cX1_search 5 = .ok (.if_icmp .ge 21, 3) := by decide +kernel
theorem dX1_search_8 : decode cX1_search 8 = .ok (.aload_n 0, 1) := by decide +kernel
theorem dX1_search_9 : decode cX1_search 9 = .ok (.getfield 38, 3) := by decide +kernel
theorem dX1_search_12 : decode cX1_search 12 = .ok (.aload_n 0, 1) := by decide +kernel
theorem dX1_search_13 : decode cX1_search 13 = .ok (.getfield 29, 3) := by decide +kernel
theorem dX1_search_16 : decode cX1_search 16 = .ok (.if_icmp .le 10, 3) := by decide +kernel
theorem dX1_search_19 : decode cX1_search 19 = .ok (.iload_n 1, 1) := by decide +kernel
theorem dX1_search_20 : decode cX1_search 20 = .ok (.iconst 1, 1) := by decide +kernel
theorem dX1_search_21 : decode cX1_search 21 = .ok (.iadd, 1) := by decide +kernel
theorem dX1_search_22 : decode cX1_search 22 = .ok (.iload_n 2, 1) := by decide +kernel
theorem dX1_search_23 : decode cX1_search 23 = .ok (.if_icmp .ge 4, 3) := by decide +kernel
theorem dX1_search_26 : decode cX1_search 26 = .ok (.return_, 1) := by decide +kernel
theorem dX1_search_27 : decode cX1_search 27 = .ok (.iload_n 2, 1) := by decide +kernel
theorem dX1_search_28 : decode cX1_search 28 = .ok (.ifCond .gt 23, 3) := by decide +kernel
theorem dX1_search_31 : decode cX1_search 31 = .ok (.iload_n 3, 1) := by decide +kernel
theorem dX1_search_32 : decode cX1_search 32 = .ok (.aload_n 0, 1) := by decide +kernel
theorem dX1_search_33 : decode cX1_search 33 = .ok (.getfield 29, 3) := by decide +kernel
theorem dX1_search_36 : decode cX1_search 36 = .ok (.if_icmp .lt 14, 3) := by decide +kernel
theorem dX1_search_39 : decode cX1_search 39 = .ok (.aload_n 0, 1) := by decide +kernel
theorem dX1_search_40 : decode cX1_search 40 = .ok (.iload_n 3, 1) := by decide +kernel
theorem dX1_search_41 : decode cX1_search 41 = .ok (.putfield 38, 3) := by decide +kernel
theorem dX1_search_44 : decode cX1_search 44 = .ok (.aload_n 0, 1) := by decide +kernel
theorem dX1_search_45 : decode cX1_search 45 = .ok (.iload 4, 2) := by decide +kernel
theorem dX1_search_47 : decode cX1_search 47 = .ok (.putfield 41, 3) := by decide +kernel
theorem dX1_search_50 : decode cX1_search 50 = .ok (.return_, 1) := by decide +kernel
theorem dX1_search_51 : decode cX1_search 51 = .ok (.iload_n 1, 1) := by decide +kernel
theorem dX1_search_52 : decode cX1_search 52 = .ok (.ifCond .lt 26, 3) := by decide +kernel
theorem dX1_search_55 : decode cX1_search 55 = .ok (.iload_n 1, 1) := by decide +kernel
theorem dX1_search_56 : decode cX1_search 56 = .ok (.bipush 14, 2) := by decide +kernel
theorem dX1_search_58 : decode cX1_search 58 = .ok (.if_icmp .ge 20, 3) := by decide +kernel
theorem dX1_search_61 : decode cX1_search 61 = .ok (.iload_n 3, 1) := by decide +kernel
theorem dX1_search_62 : decode cX1_search 62 = .ok (.iload_n 2, 1) := by decide +kernel
theorem dX1_search_63 : decode cX1_search 63 = .ok (.aload_n 0, 1) := by decide +kernel
theorem dX1_search_64 : decode cX1_search 64 = .ok (.getfield 18, 3) := by decide +kernel
theorem dX1_search_67 : decode cX1_search 67 = .ok (.iconst 0, 1) := by decide +kernel
theorem dX1_search_68 : decode cX1_search 68 = .ok (.iaload, 1) := by decide +kernel
theorem dX1_search_69 : decode cX1_search 69 = .ok (.imul, 1) := by decide +kernel
theorem dX1_search_70 : decode cX1_search 70 = .ok (.iadd, 1) := by decide +kernel
theorem dX1_search_71 : decode cX1_search 71 = .ok (.aload_n 0, 1) := by decide +kernel
theorem dX1_search_72 : decode cX1_search 72 = .ok (.getfield 29, 3) := by decide +kernel
theorem dX1_search_75 : decode cX1_search 75 = .ok (.if_icmp .ge 4, 3) := by decide +kernel
theorem dX1_search_78 : decode cX1_search 78 = .ok (.return_, 1) := by decide +kernel
theorem dX1_search_79 : decode cX1_search 79 = .ok (.aload_n 0, 1) := by decide +kernel
theorem dX1_search_80 : decode cX1_search 80 = .ok (.iload_n 1, 1) := by decide +kernel
theorem dX1_search_81 : decode cX1_search 81 = .ok (.iconst 1, 1) := by decide +kernel
theorem dX1_search_82 : decode cX1_search 82 = .ok (.isub, 1) := by decide +kernel
theorem dX1_search_83 : decode cX1_search 83 = .ok (.iload_n 2, 1) := by decide +kernel
theorem dX1_search_84 : decode cX1_search 84 = .ok (.iload_n 3, 1) := by decide +kernel
theorem dX1_search_85 : decode cX1_search 85 = .ok (.iload 4, 2) := by decide +kernel
theorem dX1_search_87 : decode cX1_search 87 = .ok (.invokevirtual 47, 3) := by decide +kernel
theorem dX1_search_90 : decode cX1_search 90 = .ok (.aload_n 0, 1) := by decide +kernel
theorem dX1_search_91 : decode cX1_search 91 = .ok (.iload_n 1, 1) := by decide +kernel
theorem dX1_search_92 : decode cX1_search 92 = .ok (.iconst 1, 1) := by decide +kernel
theorem dX1_search_93 : decode cX1_search 93 = .ok (.isub, 1) := by decide +kernel
theorem dX1_search_94 : decode cX1_search 94 = .ok (.iload_n 2, 1) := by decide +kernel
theorem dX1_search_95 : decode cX1_search 95 = .ok (.iconst 1, 1) := by decide +kernel
theorem dX1_search_96 : decode cX1_search 96 = .ok (.isub, 1) := by decide +kernel
theorem dX1_search_97 : decode cX1_search 97 = .ok (.iload_n 3, 1) := by decide +kernel
theorem dX1_search_98 : decode cX1_search 98 = .ok (.aload_n 0, 1) := by decide +kernel
theorem dX1_search_99 : decode cX1_search 99 = .ok (.getfield 15, 3) := by decide +kernel
theorem dX1_search_102 : decode cX1_search 102 = .ok (.iload_n 1, 1) := by decide +kernel
theorem dX1_search_103 : decode cX1_search 103 = .ok (.iaload, 1) := by decide +kernel
theorem dX1_search_104 : decode cX1_search 104 = .ok (.iadd, 1) := by decide +kernel
theorem dX1_search_105 : decode cX1_search 105 = .ok (.iload 4, 2) := by decide +kernel
theorem dX1_search_107 : decode cX1_search 107 = .ok (.iconst 1, 1) := by decide +kernel
theorem dX1_search_108 : decode cX1_search 108 = .ok (.aload_n 0, 1) := by decide +kernel
theorem dX1_search_109 : decode cX1_search 109 = .ok (.getfield 9, 3) := by decide +kernel
theorem dX1_search_112 : decode cX1_search 112 = .ok (.iload_n 1, 1) := by decide +kernel
theorem dX1_search_113 : decode cX1_search 113 = .ok (.iaload, 1) := by decide +kernel
theorem dX1_search_114 : decode cX1_search 114 = .ok (.ishl, 1) := by decide +kernel
theorem dX1_search_115 : decode cX1_search 115 = .ok (.ior, 1) := by decide +kernel
theorem dX1_search_116 : decode cX1_search 116 = .ok (.invokevirtual 47, 3) := by decide +kernel
theorem dX1_search_119 : decode cX1_search 119 = .ok (.return_, 1) := by decide +kernel
theorem dX2_init_0 : decode cX2_init 0 = .ok (.aload_n 0, 1) := by decide +kernel
theorem dX2_init_1 : decode cX2_init 1 = .ok (.invokespecial 3, 3) := by decide +kernel
theorem dX2_init_4 : decode cX2_init 4 = .ok (.aload_n 0, 1) := by decide +kernel
theorem dX2_init_5 : decode cX2_init 5 = .ok (.bipush 16, 2) := by decide +kernel
theorem dX2_init_7 : decode cX2_init 7 = .ok (.newarray .int, 2) := by decide +kernel
theorem dX2_init_9 : decode cX2_init 9 = .ok (.putfield 11, 3) := by decide +kernel
theorem dX2_init_12 : decode cX2_init 12 = .ok (.aload_n 0, 1) := by decide +kernel
theorem dX2_init_13 : decode cX2_init 13 = .ok (.bipush 16, 2) := by decide +kernel
theorem dX2_init_15 : decode cX2_init 15 = .ok (.newarray .int, 2) := by decide +kernel
theorem dX2_init_17 : decode cX2_init 17 = .ok (.putfield 15, 3) := by decide +kernel
theorem dX2_init_20 : decode cX2_init 20 = .ok (.aload_n 0, 1) := by decide +kernel
theorem dX2_init_21 : decode cX2_init 21 = .ok (.bipush 16, 2) := by decide +kernel
theorem dX2_init_23 : decode cX2_init 23 = .ok (.newarray .int, 2) := by decide +kernel
theorem dX2_init_25 : decode cX2_init 25 = .ok (.putfield 18, 3) := by decide +kernel
theorem dX2_init_28 : decode cX2_init 28 = .ok (.aload_n 0, 1) := by decide +kernel
theorem dX2_init_29 : decode cX2_init 29 = .ok (.bipush 16, 2) := by decide +kernel
theorem dX2_init_31 : decode cX2_init 31 = .ok (.newarray .int, 2) := by decide +kernel
theorem dX2_init_33 : decode cX2_init 33 = .ok (.putfield 21, 3) := by decide +kernel
theorem dX2_init_36 : decode cX2_init 36 = .ok (.aload_n 0, 1) := by decide +kernel
theorem dX2_init_37 : decode cX2_init 37 = .ok (.sipush 400, 3) := by decide +kernel
theorem dX2_init_40 : decode cX2_init 40 = .ok (.newarray .int, 2) := by decide +kernel
theorem dX2_init_42 : decode cX2_init 42 = .ok (.putfield 24, 3) := by decide +kernel
theorem dX2_init_45 : decode cX2_init 45 = .ok (.aload_n 0, 1) := by decide +kernel
theorem dX2_init_46 : decode cX2_init 46 = .ok (.sipush 400, 3) := by decide +kernel
theorem dX2_init_49 : decode cX2_init 49 = .ok (.newarray .int, 2) := by decide +kernel
theorem dX2_init_51 : decode cX2_init 51 = .ok (.putfield 27, 3) := by decide +kernel
theorem dX2_init_54 : decode cX2_init 54 = .ok (.aload_n 0, 1) := by decide +kernel
theorem dX2_init_55 : decode cX2_init 55 = .ok (.bipush 32, 2) := by decide +kernel
theorem dX2_init_57 : decode cX2_init 57 = .ok (.newarray .int, 2) := by decide +kernel
theorem dX2_init_59 : decode cX2_init 59 = .ok (.putfield 30, 3) := by decide +kernel
theorem dX2_init_62 : decode cX2_init 62 = .ok (.return_, 1) := by decide +kernel
theorem dX2_empty_0 : decode cX2_empty 0 = .ok (.aload_n 0, 1) := by decide +kernel
theorem dX2_empty_1 : decode cX2_empty 1 = .ok (.iconst 0, 1) := by decide +kernel
theorem dX2_empty_2 : decode cX2_empty 2 = .ok (.putfield 33, 3) := by decide +kernel
theorem dX2_empty_5 : decode cX2_empty 5 = .ok (.aload_n 0, 1) := by decide +kernel
theorem dX2_empty_6 : decode cX2_empty 6 = .ok (.iconst 0, 1) := by decide +kernel
theorem dX2_empty_7 : decode cX2_empty 7 = .ok (.putfield 37, 3) := by decide +kernel
theorem dX2_empty_10 : decode cX2_empty 10 = .ok (.return_, 1) := by decide +kernel
theorem dX2_isFull_0 : decode cX2_isFull 0 = .ok (.aload_n 0, 1) := by decide +kernel
theorem dX2_isFull_1 : decode cX2_isFull 1 = .ok (.getfield 33, 3) := by decide +kernel
theorem dX2_isFull_4 : decode cX2_isFull 4 = .ok (.bipush 16, 2) := by decide +kernel
theorem dX2_isFull_6 : decode cX2_isFull 6 = .ok (.if_icmp .lt 7, 3) := by decide +kernel
theorem dX2_isFull_9 : decode cX2_isFull 9 = .ok (.iconst 1, 1) := by decide +kernel
theorem dX2_isFull_10 : decode cX2_isFull 10 = .ok (.goto 4, 3) := by decide +kernel
theorem dX2_isFull_13 : decode cX2_isFull 13 = .ok (.iconst 0, 1) := by decide +kernel
theorem dX2_isFull_14 : decode cX2_isFull 14 = .ok (.ireturn, 1) := by decide +kernel
theorem dX2_beginLine_0 : decode cX2_beginLine 0 = .ok (.aload_n 0, 1) := by decide +kernel
theorem dX2_beginLine_1 : decode cX2_beginLine 1 = .ok (.invokevirtual 40, 3) := by decide +kernel
theorem dX2_beginLine_4 : decode cX2_beginLine 4 = .ok (.ifCond .eq 4, 3) := by decide +kernel
theorem dX2_beginLine_7 : decode cX2_beginLine 7 = .ok (.return_, 1) := by decide +kernel
theorem dX2_beginLine_8 : decode cX2_beginLine 8 = .ok (.aload_n 0, 1) := by decide +kernel
theorem dX2_beginLine_9 : decode cX2_beginLine 9 = .ok (.getfield 11, 3) := by decide +kernel
theorem dX2_beginLine_12 : decode cX2_beginLine 12 = .ok (.aload_n 0, 1) := by decide +kernel
theorem dX2_beginLine_13 : decode cX2_beginLine 13 = .ok (.getfield 33, 3) := by decide +kernel
theorem dX2_beginLine_16 : decode cX2_beginLine 16 = .ok (.iload_n 1, 1) := by decide +kernel
theorem dX2_beginLine_17 : decode cX2_beginLine 17 = .ok (.iastore, 1) := by decide +kernel
theorem dX2_beginLine_18 : decode cX2_beginLine 18 = .ok (.aload_n 0, 1) := by decide +kernel
theorem dX2_beginLine_19 : decode cX2_beginLine 19 = .ok (.getfield 15, 3) := by decide +kernel
theorem dX2_beginLine_22 : decode cX2_beginLine 22 = .ok (.aload_n 0, 1) := by decide +kernel
theorem dX2_beginLine_23 : decode cX2_beginLine 23 = .ok (.getfield 33, 3) := by decide +kernel
theorem dX2_beginLine_26 : decode cX2_beginLine 26 = .ok (.aload_n 0, 1) := by decide +kernel
theorem dX2_beginLine_27 : decode cX2_beginLine 27 = .ok (.getfield 37, 3) := by decide +kernel
theorem dX2_beginLine_30 : decode cX2_beginLine 30 = .ok (.iastore, 1) := by decide +kernel
theorem dX2_beginLine_31 : decode cX2_beginLine 31 = .ok (.return_, 1) := by decide +kernel
theorem dX2_beginWhen_0 : decode cX2_beginWhen 0 = .ok (.aload_n 0, 1) := by decide +kernel
theorem dX2_beginWhen_1 : decode cX2_beginWhen 1 = .ok (.invokevirtual 40, 3) := by decide +kernel
theorem dX2_beginWhen_4 : decode cX2_beginWhen 4 = .ok (.ifCond .ne 16, 3) := by decide +kernel
theorem dX2_beginWhen_7 : decode cX2_beginWhen 7 = .ok (.aload_n 0, 1) := by decide +kernel
theorem dX2_beginWhen_8 : decode cX2_beginWhen 8 = .ok (.getfield 18, 3) := by decide +kernel
theorem dX2_beginWhen_11 : decode cX2_beginWhen 11 = .ok (.aload_n 0, 1) := by decide +kernel
theorem dX2_beginWhen_12 : decode cX2_beginWhen 12 = .ok (.getfield 33, 3) := by decide +kernel
theorem dX2_beginWhen_15 : decode cX2_beginWhen 15 = .ok (.aload_n 0, 1) := by decide +kernel
theorem dX2_beginWhen_16 : decode cX2_beginWhen 16 = .ok (.getfield 37, 3) := by decide +kernel
theorem dX2_beginWhen_19 : decode cX2_beginWhen 19 = .ok (.iastore, 1) := by decide +kernel
theorem dX2_beginWhen_20 : decode cX2_beginWhen 20 = .ok (.return_, 1) := by decide +kernel
theorem dX2_closeLine_0 : decode cX2_closeLine 0 = .ok (.aload_n 0, 1) := by decide +kernel
theorem dX2_closeLine_1 : decode cX2_closeLine 1 = .ok (.invokevirtual 40, 3) := by decide +kernel
theorem dX2_closeLine_4 : decode cX2_closeLine 4 = .ok (.ifCond .ne 26, 3) := by decide +kernel
theorem dX2_closeLine_7 : decode cX2_closeLine 7 = .ok (.aload_n 0, 1) := by decide +kernel
theorem dX2_closeLine_8 : decode cX2_closeLine 8 = .ok (.getfield 21, 3) := by decide +kernel
theorem dX2_closeLine_11 : decode cX2_closeLine 11 = .ok (.aload_n 0, 1) := by decide +kernel
theorem dX2_closeLine_12 : decode cX2_closeLine 12 = .ok (.getfield 33, 3) := by decide +kernel
theorem dX2_closeLine_15 : decode cX2_closeLine 15 = .ok (.aload_n 0, 1) := by decide +kernel
theorem dX2_closeLine_16 : decode cX2_closeLine 16 = .ok (.getfield 37, 3) := by decide +kernel
theorem dX2_closeLine_19 : decode cX2_closeLine 19 = .ok (.iastore, 1) := by decide +kernel
theorem dX2_closeLine_20 : decode cX2_closeLine 20 = .ok (.aload_n 0, 1) := by decide +kernel
theorem dX2_closeLine_21 : decode cX2_closeLine 21 = .ok (.dup, 1) := by decide +kernel
theorem dX2_closeLine_22 : decode cX2_closeLine 22 = .ok (.getfield 33, 3) := by decide +kernel
theorem dX2_closeLine_25 : decode cX2_closeLine 25 = .ok (.iconst 1, 1) := by decide +kernel
theorem dX2_closeLine_26 : decode cX2_closeLine 26 = .ok (.iadd, 1) := by decide +kernel
theorem dX2_closeLine_27 : decode cX2_closeLine 27 = .ok (.putfield 33, 3) := by decide +kernel
theorem dX2_closeLine_30 : decode cX2_closeLine 30 = .ok (.return_, 1) := by decide +kernel
theorem dX2_addStep_0 : decode cX2_addStep 0 = .ok (.aload_n 0, 1) := by decide +kernel
theorem dX2_addStep_1 : decode cX2_addStep 1 = .ok (.getfield 37, 3) := by decide +kernel
theorem dX2_addStep_4 : decode cX2_addStep 4 = .ok (.aload_n 0, 1) := by decide +kernel
theorem dX2_addStep_5 : decode cX2_addStep 5 = .ok (.getfield 24, 3) := by decide +kernel
theorem dX2_addStep_8 : decode cX2_addStep 8 = .ok (.arraylength, 1) := by decide +kernel
theorem dX2_addStep_9 : decode cX2_addStep 9 = .ok (.if_icmp .ge 45, 3) := by decide +kernel
theorem dX2_addStep_12 : decode cX2_addStep 12 = .ok (.aload_n 0, 1) := by decide +kernel
theorem dX2_addStep_13 : decode cX2_addStep 13 = .ok (.getfield 37, 3) := by decide +kernel
theorem dX2_addStep_16 : decode cX2_addStep 16 = .ok (.aload_n 0, 1) := by decide +kernel
theorem dX2_addStep_17 : decode cX2_addStep 17 = .ok (.getfield 27, 3) := by decide +kernel
theorem dX2_addStep_20 : decode cX2_addStep 20 = .ok (.arraylength, 1) := by decide +kernel
theorem dX2_addStep_21 : decode cX2_addStep 21 = .ok (.if_icmp .ge 33, 3) := by decide +kernel
theorem dX2_addStep_24 : decode cX2_addStep 24 = .ok (.aload_n 0, 1) := by decide +kernel
theorem dX2_addStep_25 : decode cX2_addStep 25 = .ok (.getfield 24, 3) := by decide +kernel
theorem dX2_addStep_28 : decode cX2_addStep 28 = .ok (.aload_n 0, 1) := by decide +kernel
theorem dX2_addStep_29 : decode cX2_addStep 29 = .ok (.getfield 37, 3) := by decide +kernel
theorem dX2_addStep_32 : decode cX2_addStep 32 = .ok (.iload_n 1, 1) := by decide +kernel
theorem dX2_addStep_33 : decode cX2_addStep 33 = .ok (.iastore, 1) := by decide +kernel
theorem dX2_addStep_34 : decode cX2_addStep 34 = .ok (.aload_n 0, 1) := by decide +kernel
theorem dX2_addStep_35 : decode cX2_addStep 35 = .ok (.getfield 27, 3) := by decide +kernel
theorem dX2_addStep_38 : decode cX2_addStep 38 = .ok (.aload_n 0, 1) := by decide +kernel
theorem dX2_addStep_39 : decode cX2_addStep 39 = .ok (.getfield 37, 3) := by decide +kernel
theorem dX2_addStep_42 : decode cX2_addStep 42 = .ok (.iload_n 2, 1) := by decide +kernel
theorem dX2_addStep_43 : decode cX2_addStep 43 = .ok (.iastore, 1) := by decide +kernel
theorem dX2_addStep_44 : decode cX2_addStep 44 = .ok (.aload_n 0, 1) := by decide +kernel
theorem dX2_addStep_45 : decode cX2_addStep 45 = .ok (.dup, 1) := by decide +kernel
theorem dX2_addStep_46 : decode cX2_addStep 46 = .ok (.getfield 37, 3) := by decide +kernel
theorem dX2_addStep_49 : decode cX2_addStep 49 = .ok (.iconst 1, 1) := by decide +kernel
theorem dX2_addStep_50 : decode cX2_addStep 50 = .ok (.iadd, 1) := by decide +kernel
theorem dX2_addStep_51 : decode cX2_addStep 51 = .ok (.putfield 37, 3) := by decide +kernel
theorem dX2_addStep_54 : decode cX2_addStep 54 = .ok (.return_, 1) := by decide +kernel
theorem dX2_copyFrom_0 : decode cX2_copyFrom 0 = .ok (.aload_n 1, 1) := by decide +kernel
theorem dX2_copyFrom_1 : decode cX2_copyFrom 1 = .ok (.getfield 11, 3) := by decide +kernel
theorem dX2_copyFrom_4 : decode cX2_copyFrom 4 = .ok (.iconst 0, 1) := by decide +kernel
theorem dX2_copyFrom_5 : decode cX2_copyFrom 5 = .ok (.aload_n 0, 1) := by decide +kernel
theorem dX2_copyFrom_6 : decode cX2_copyFrom 6 = .ok (.getfield 11, 3) := by decide +kernel
theorem dX2_copyFrom_9 : decode cX2_copyFrom 9 = .ok (.iconst 0, 1) := by decide +kernel
theorem dX2_copyFrom_10 : decode cX2_copyFrom 10 = .ok (.bipush 16, 2) := by decide +kernel
theorem dX2_copyFrom_12 : decode cX2_copyFrom 12 = .ok (.invokestatic 44, 3) := by decide +kernel
theorem dX2_copyFrom_15 : decode cX2_copyFrom 15 = .ok (.aload_n 1, 1) := by decide +kernel
theorem dX2_copyFrom_16 : decode cX2_copyFrom 16 = .ok (.getfield 15, 3) := by decide +kernel
theorem dX2_copyFrom_19 : decode cX2_copyFrom 19 = .ok (.iconst 0, 1) := by decide +kernel
theorem dX2_copyFrom_20 : decode cX2_copyFrom 20 = .ok (.aload_n 0, 1) := by decide +kernel
theorem dX2_copyFrom_21 : decode cX2_copyFrom 21 = .ok (.getfield 15, 3) := by decide +kernel
theorem dX2_copyFrom_24 : decode cX2_copyFrom 24 = .ok (.iconst 0, 1) := by decide +kernel
theorem dX2_copyFrom_25 : decode cX2_copyFrom 25 = .ok (.bipush 16, 2) := by decide +kernel
theorem dX2_copyFrom_27 : decode cX2_copyFrom 27 = .ok (.invokestatic 44, 3) := by decide +kernel
theorem dX2_copyFrom_30 : decode cX2_copyFrom 30 = .ok (.aload_n 1, 1) := by decide +kernel
theorem dX2_copyFrom_31 : decode cX2_copyFrom 31 = .ok (.getfield 18, 3) := by decide +kernel
theorem dX2_copyFrom_34 : decode cX2_copyFrom 34 = .ok (.iconst 0, 1) := by decide +kernel
theorem dX2_copyFrom_35 : decode cX2_copyFrom 35 = .ok (.aload_n 0, 1) := by decide +kernel
theorem dX2_copyFrom_36 : decode cX2_copyFrom 36 = .ok (.getfield 18, 3) := by decide +kernel
theorem dX2_copyFrom_39 : decode cX2_copyFrom 39 = .ok (.iconst 0, 1) := by decide +kernel
theorem dX2_copyFrom_40 : decode cX2_copyFrom 40 = .ok (.bipush 16, 2) := by decide +kernel
theorem dX2_copyFrom_42 : decode cX2_copyFrom 42 = .ok (.invokestatic 44, 3) := by decide +kernel
theorem dX2_copyFrom_45 : decode cX2_copyFrom 45 = .ok (.aload_n 1, 1) := by decide +kernel
theorem dX2_copyFrom_46 : decode cX2_copyFrom 46 = .ok (.getfield 21, 3) := by decide +kernel
theorem dX2_copyFrom_49 : decode cX2_copyFrom 49 = .ok (.iconst 0, 1) := by decide +kernel
theorem dX2_copyFrom_50 : decode cX2_copyFrom 50 = .ok (.aload_n 0, 1) := by decide +kernel
theorem dX2_copyFrom_51 : decode cX2_copyFrom 51 = .ok (.getfield 21, 3) := by decide +kernel
theorem dX2_copyFrom_54 : decode cX2_copyFrom 54 = .ok (.iconst 0, 1) := by decide +kernel
theorem dX2_copyFrom_55 : decode cX2_copyFrom 55 = .ok (.bipush 16, 2) := by decide +kernel
theorem dX2_copyFrom_57 : decode cX2_copyFrom 57 = .ok (.invokestatic 44, 3) := by decide +kernel
theorem dX2_copyFrom_60 : decode cX2_copyFrom 60 = .ok (.aload_n 1, 1) := by decide +kernel
theorem dX2_copyFrom_61 : decode cX2_copyFrom 61 = .ok (.getfield 24, 3) := by decide +kernel
theorem dX2_copyFrom_64 : decode cX2_copyFrom 64 = .ok (.iconst 0, 1) := by decide +kernel
theorem dX2_copyFrom_65 : decode cX2_copyFrom 65 = .ok (.aload_n 0, 1) := by decide +kernel
theorem dX2_copyFrom_66 : decode cX2_copyFrom 66 = .ok (.getfield 24, 3) := by decide +kernel
theorem dX2_copyFrom_69 : decode cX2_copyFrom 69 = .ok (.iconst 0, 1) := by decide +kernel
theorem dX2_copyFrom_70 : decode cX2_copyFrom 70 = .ok (.sipush 400, 3) := by decide +kernel
theorem dX2_copyFrom_73 : decode cX2_copyFrom 73 = .ok (.invokestatic 44, 3) := by decide +kernel
theorem dX2_copyFrom_76 : decode cX2_copyFrom 76 = .ok (.aload_n 1, 1) := by decide +kernel
theorem dX2_copyFrom_77 : decode cX2_copyFrom 77 = .ok (.getfield 27, 3) := by decide +kernel
theorem dX2_copyFrom_80 : decode cX2_copyFrom 80 = .ok (.iconst 0, 1) := by decide +kernel
theorem dX2_copyFrom_81 : decode cX2_copyFrom 81 = .ok (.aload_n 0, 1) := by decide +kernel
theorem dX2_copyFrom_82 : decode cX2_copyFrom 82 = .ok (.getfield 27, 3) := by decide +kernel
theorem dX2_copyFrom_85 : decode cX2_copyFrom 85 = .ok (.iconst 0, 1) := by decide +kernel
theorem dX2_copyFrom_86 : decode cX2_copyFrom 86 = .ok (.sipush 400, 3) := by decide +kernel
theorem dX2_copyFrom_89 : decode cX2_copyFrom 89 = .ok (.invokestatic 44, 3) := by decide +kernel
theorem dX2_copyFrom_92 : decode cX2_copyFrom 92 = .ok (.aload_n 0, 1) := by decide +kernel
theorem dX2_copyFrom_93 : decode cX2_copyFrom 93 = .ok (.aload_n 1, 1) := by decide +kernel
theorem dX2_copyFrom_94 : decode cX2_copyFrom 94 = .ok (.getfield 33, 3) := by decide +kernel
theorem dX2_copyFrom_97 : decode cX2_copyFrom 97 = .ok (.putfield 33, 3) := by decide +kernel
theorem dX2_copyFrom_100 : decode cX2_copyFrom 100 = .ok (.aload_n 0, 1) := by decide +kernel
theorem dX2_copyFrom_101 : decode cX2_copyFrom 101 = .ok (.aload_n 1, 1) := by decide +kernel
theorem dX2_copyFrom_102 : decode cX2_copyFrom 102 = .ok (.getfield 37, 3) := by decide +kernel
theorem dX2_copyFrom_105 : decode cX2_copyFrom 105 = .ok (.putfield 37, 3) := by decide +kernel
theorem dX2_copyFrom_108 : decode cX2_copyFrom 108 = .ok (.return_, 1) := by decide +kernel
theorem dX2_tells_0 : decode cX2_tells 0 = .ok (.iconst 0, 1) := by decide +kernel
theorem dX2_tells_1 : decode cX2_tells 1 = .ok (.istore 4, 2) := by decide +kernel
theorem dX2_tells_3 : decode cX2_tells 3 = .ok (.iload 4, 2) := by decide +kernel
theorem dX2_tells_5 : decode cX2_tells 5 = .ok (.aload_n 0, 1) := by decide +kernel
theorem dX2_tells_6 : decode cX2_tells 6 = .ok (.getfield 33, 3) := by decide +kernel
theorem dX2_tells_9 : decode cX2_tells 9 = .ok (.if_icmp .ge 98, 3) := by decide +kernel
theorem dX2_tells_12 : decode cX2_tells 12 = .ok (.iload 4, 2) := by decide +kernel
theorem dX2_tells_14 : decode cX2_tells 14 = .ok (.bipush 16, 2) := by decide +kernel
theorem dX2_tells_16 : decode cX2_tells 16 = .ok (.if_icmp .ge 91, 3) := by decide +kernel
theorem dX2_tells_19 : decode cX2_tells 19 = .ok (.aload_n 0, 1) := by decide +kernel
theorem dX2_tells_20 : decode cX2_tells 20 = .ok (.getfield 18, 3) := by decide +kernel
theorem dX2_tells_23 : decode cX2_tells 23 = .ok (.iload 4, 2) := by decide +kernel
theorem dX2_tells_25 : decode cX2_tells 25 = .ok (.iaload, 1) := by decide +kernel
theorem dX2_tells_26 : decode cX2_tells 26 = .ok (.aload_n 0, 1) := by decide +kernel
theorem dX2_tells_27 : decode cX2_tells 27 = .ok (.getfield 21, 3) := by decide +kernel
theorem dX2_tells_30 : decode cX2_tells 30 = .ok (.iload 4, 2) := by decide +kernel
theorem dX2_tells_32 : decode cX2_tells 32 = .ok (.iaload, 1) := by decide +kernel
theorem dX2_tells_33 : decode cX2_tells 33 = .ok (.if_icmp .ne 7, 3) := by decide +kernel
theorem dX2_tells_36 : decode cX2_tells 36 = .ok (.iconst 1, 1) := by decide +kernel
theorem dX2_tells_37 : decode cX2_tells 37 = .ok (.goto 4, 3) := by decide +kernel
theorem dX2_tells_40 : decode cX2_tells 40 = .ok (.iconst 0, 1) := by decide +kernel
theorem dX2_tells_41 : decode cX2_tells 41 = .ok (.istore 5, 2) := by decide +kernel
theorem dX2_tells_43 : decode cX2_tells 43 = .ok (.aload_n 0, 1) := by decide +kernel
theorem dX2_tells_44 : decode cX2_tells 44 = .ok (.getfield 11, 3) := by decide +kernel
theorem dX2_tells_47 : decode cX2_tells 47 = .ok (.iload 4, 2) := by decide +kernel
theorem dX2_tells_49 : decode cX2_tells 49 = .ok (.iaload, 1) := by decide +kernel
theorem dX2_tells_50 : decode cX2_tells 50 = .ok (.iload_n 1, 1) := by decide +kernel
theorem dX2_tells_51 : decode cX2_tells 51 = .ok (.if_icmp .ne 50, 3) := by decide +kernel
theorem dX2_tells_54 : decode cX2_tells 54 = .ok (.iload 5, 2) := by decide +kernel
theorem dX2_tells_56 : decode cX2_tells 56 = .ok (.ifCond .ne 25, 3) := by decide +kernel
theorem dX2_tells_59 : decode cX2_tells 59 = .ok (.aload_n 0, 1) := by decide +kernel
theorem dX2_tells_60 : decode cX2_tells 60 = .ok (.aload_n 0, 1) := by decide +kernel
theorem dX2_tells_61 : decode cX2_tells 61 = .ok (.getfield 18, 3) := by decide +kernel
theorem dX2_tells_64 : decode cX2_tells 64 = .ok (.iload 4, 2) := by decide +kernel
theorem dX2_tells_66 : decode cX2_tells 66 = .ok (.iaload, 1) := by decide +kernel
theorem dX2_tells_67 : decode cX2_tells 67 = .ok (.aload_n 0, 1) := by decide +kernel
theorem dX2_tells_68 : decode cX2_tells 68 = .ok (.getfield 21, 3) := by decide +kernel
theorem dX2_tells_71 : decode cX2_tells 71 = .ok (.iload 4, 2) := by decide +kernel
theorem dX2_tells_73 : decode cX2_tells 73 = .ok (.iaload, 1) := by decide +kernel
theorem dX2_tells_74 : decode cX2_tells 74 = .ok (.aload_n 2, 1) := by decide +kernel
theorem dX2_tells_75 : decode cX2_tells 75 = .ok (.invokevirtual 50, 3) := by decide +kernel
theorem dX2_tells_78 : decode cX2_tells 78 = .ok (.ifCond .eq 23, 3) := by decide +kernel
theorem dX2_tells_81 : decode cX2_tells 81 = .ok (.aload_n 0, 1) := by decide +kernel
theorem dX2_tells_82 : decode cX2_tells 82 = .ok (.aload_n 0, 1) := by decide +kernel
theorem dX2_tells_83 : decode cX2_tells 83 = .ok (.getfield 15, 3) := by decide +kernel
theorem dX2_tells_86 : decode cX2_tells 86 = .ok (.iload 4, 2) := by decide +kernel
theorem dX2_tells_88 : decode cX2_tells 88 = .ok (.iaload, 1) := by decide +kernel
theorem dX2_tells_89 : decode cX2_tells 89 = .ok (.aload_n 0, 1) := by decide +kernel
theorem dX2_tells_90 : decode cX2_tells 90 = .ok (.getfield 18, 3) := by decide +kernel
theorem dX2_tells_93 : decode cX2_tells 93 = .ok (.iload 4, 2) := by decide +kernel
theorem dX2_tells_95 : decode cX2_tells 95 = .ok (.iaload, 1) := by decide +kernel
theorem dX2_tells_96 : decode cX2_tells 96 = .ok (.aload_n 2, 1) := by decide +kernel
theorem dX2_tells_97 : decode cX2_tells 97 = .ok (.invokevirtual 50, 3) := by decide +kernel
theorem dX2_tells_100 : decode cX2_tells 100 = .ok (.ireturn, 1) := by decide +kernel
theorem dX2_tells_101 : decode cX2_tells 101 = .ok (.iinc 4 1, 3) := by decide +kernel
theorem dX2_tells_104 : decode cX2_tells 104 = .ok (.goto (-101), 3) := by decide +kernel
theorem dX2_tells_107 : decode cX2_tells 107 = .ok (.iload_n 3, 1) := by decide +kernel
theorem dX2_tells_108 : decode cX2_tells 108 = .ok (.ireturn, 1) := by decide +kernel
theorem dX2_worked_0 : decode cX2_worked 0 = .ok (.iconst 0, 1) := by decide +kernel
theorem dX2_worked_1 : decode cX2_worked 1 = .ok (.istore 4, 2) := by decide +kernel
theorem dX2_worked_3 : decode cX2_worked 3 = .ok (.iload_n 1, 1) := by decide +kernel
theorem dX2_worked_4 : decode cX2_worked 4 = .ok (.iconst 0, 1) := by decide +kernel
theorem dX2_worked_5 : decode cX2_worked 5 = .ok (.invokestatic 54, 3) := by decide +kernel
theorem dX2_worked_8 : decode cX2_worked 8 = .ok (.istore 5, 2) := by decide +kernel
theorem dX2_worked_10 : decode cX2_worked 10 = .ok (.iload 5, 2) := by decide +kernel
theorem dX2_worked_12 : decode cX2_worked 12 = .ok (.iload_n 2, 1) := by decide +kernel
theorem dX2_worked_13 : decode cX2_worked 13 = .ok (.if_icmp .ge 182, 3) := by decide +kernel
theorem dX2_worked_16 : decode cX2_worked 16 = .ok (.iload 5, 2) := by decide +kernel
theorem dX2_worked_18 : decode cX2_worked 18 = .ok (.sipush 400, 3) := by decide +kernel
theorem dX2_worked_21 : decode cX2_worked 21 = .ok (.if_icmp .ge 174, 3) := by decide +kernel
theorem dX2_worked_24 : decode cX2_worked 24 = .ok (.iload 4, 2) := by decide +kernel
theorem dX2_worked_26 : decode cX2_worked 26 = .ok (.bipush 32, 2) := by decide +kernel
theorem dX2_worked_28 : decode cX2_worked 28 = .ok (.if_icmp .ge 167, 3) := by decide +kernel
theorem dX2_worked_31 : decode cX2_worked 31 = .ok (.aload_n 0, 1) := by decide +kernel
theorem dX2_worked_32 : decode cX2_worked 32 = .ok (.getfield 24, 3) := by decide +kernel
theorem dX2_worked_35 : decode cX2_worked 35 = .ok (.iload 5, 2) := by decide +kernel
theorem dX2_worked_37 : decode cX2_worked 37 = .ok (.iaload, 1) := by decide +kernel
theorem dX2_worked_38 : decode cX2_worked 38 = .ok (.istore 6, 2) := by decide +kernel
theorem dX2_worked_40 : decode cX2_worked 40 = .ok (.aload_n 0, 1) := by decide +kernel
theorem dX2_worked_41 : decode cX2_worked 41 = .ok (.getfield 27, 3) := by decide +kernel
theorem dX2_worked_44 : decode cX2_worked 44 = .ok (.iload 5, 2) := by decide +kernel
theorem dX2_worked_46 : decode cX2_worked 46 = .ok (.iaload, 1) := by decide +kernel
theorem dX2_worked_47 : decode cX2_worked 47 = .ok (.istore 7, 2) := by decide +kernel
theorem dX2_worked_49 : decode cX2_worked 49 = .ok (.iload 6, 2) := by decide +kernel
theorem dX2_worked_51 : decode cX2_worked 51 = .ok (.sipush 256, 3) := by decide +kernel
theorem dX2_worked_54 : decode cX2_worked 54 = .ok (.if_icmp .ne 18, 3) := by decide +kernel
theorem dX2_worked_57 : decode cX2_worked 57 = .ok (.aload_n 0, 1) := by decide +kernel
theorem dX2_worked_58 : decode cX2_worked 58 = .ok (.getfield 30, 3) := by decide +kernel
theorem dX2_worked_61 : decode cX2_worked 61 = .ok (.iload 4, 2) := by decide +kernel
theorem dX2_worked_63 : decode cX2_worked 63 = .ok (.iload 7, 2) := by decide +kernel
theorem dX2_worked_65 : decode cX2_worked 65 = .ok (.iastore, 1) := by decide +kernel
theorem dX2_worked_66 : decode cX2_worked 66 = .ok (.iinc 4 1, 3) := by decide +kernel
theorem dX2_worked_69 : decode cX2_worked 69 = .ok (.goto 120, 3) := by decide +kernel
theorem dX2_worked_72 : decode cX2_worked 72 = .ok (.iload 6, 2) := by decide +kernel
theorem dX2_worked_74 : decode cX2_worked 74 = .ok (.sipush 259, 3) := by decide +kernel
theorem dX2_worked_77 : decode cX2_worked 77 = .ok (.if_icmp .ne 36, 3) := by decide +kernel
theorem dX2_worked_80 : decode cX2_worked 80 = .ok (.aload_n 0, 1) := by decide +kernel
theorem dX2_worked_81 : decode cX2_worked 81 = .ok (.getfield 30, 3) := by decide +kernel
theorem dX2_worked_84 : decode cX2_worked 84 = .ok (.iload 4, 2) := by decide +kernel
theorem dX2_worked_86 : decode cX2_worked 86 = .ok (.iload 7, 2) := by decide +kernel
theorem dX2_worked_88 : decode cX2_worked 88 = .ok (.ifCond .lt 17, 3) := by decide +kernel
theorem dX2_worked_91 : decode cX2_worked 91 = .ok (.iload 7, 2) := by decide +kernel
theorem dX2_worked_93 : decode cX2_worked 93 = .ok (.aload_n 3, 1) := by decide +kernel
theorem dX2_worked_94 : decode cX2_worked 94 = .ok (.arraylength, 1) := by decide +kernel
theorem dX2_worked_95 : decode cX2_worked 95 = .ok (.if_icmp .ge 10, 3) := by decide +kernel
theorem dX2_worked_98 : decode cX2_worked 98 = .ok (.aload_n 3, 1) := by decide +kernel
theorem dX2_worked_99 : decode cX2_worked 99 = .ok (.iload 7, 2) := by decide +kernel
theorem dX2_worked_101 : decode cX2_worked 101 = .ok (.iaload, 1) := by decide +kernel
theorem dX2_worked_102 : decode cX2_worked 102 = .ok (.goto 4, 3) := by decide +kernel
theorem dX2_worked_105 : decode cX2_worked 105 = .ok (.iconst 0, 1) := by decide +kernel
theorem dX2_worked_106 : decode cX2_worked 106 = .ok (.iastore, 1) := by decide +kernel
theorem dX2_worked_107 : decode cX2_worked 107 = .ok (.iinc 4 1, 3) := by decide +kernel
theorem dX2_worked_110 : decode cX2_worked 110 = .ok (.goto 79, 3) := by decide +kernel
theorem dX2_worked_113 : decode cX2_worked 113 = .ok (.iload 6, 2) := by decide +kernel
theorem dX2_worked_115 : decode cX2_worked 115 = .ok (.sipush 314, 3) := by decide +kernel
theorem dX2_worked_118 : decode cX2_worked 118 = .ok (.if_icmp .ne 32, 3) := by decide +kernel
theorem dX2_worked_121 : decode cX2_worked 121 = .ok (.iload 4, 2) := by decide +kernel
theorem dX2_worked_123 : decode cX2_worked 123 = .ok (.iconst 1, 1) := by decide +kernel
theorem dX2_worked_124 : decode cX2_worked 124 = .ok (.if_icmp .lt 26, 3) := by decide +kernel
theorem dX2_worked_127 : decode cX2_worked 127 = .ok (.aload_n 0, 1) := by decide +kernel
theorem dX2_worked_128 : decode cX2_worked 128 = .ok (.getfield 30, 3) := by decide +kernel
theorem dX2_worked_131 : decode cX2_worked 131 = .ok (.iload 4, 2) := by decide +kernel
theorem dX2_worked_133 : decode cX2_worked 133 = .ok (.iconst 1, 1) := by decide +kernel
theorem dX2_worked_134 : decode cX2_worked 134 = .ok (.isub, 1) := by decide +kernel
theorem dX2_worked_135 : decode cX2_worked 135 = .ok (.iconst 1, 1) := by decide +kernel
theorem dX2_worked_136 : decode cX2_worked 136 = .ok (.aload_n 0, 1) := by decide +kernel
theorem dX2_worked_137 : decode cX2_worked 137 = .ok (.getfield 30, 3) := by decide +kernel
theorem dX2_worked_140 : decode cX2_worked 140 = .ok (.iload 4, 2) := by decide +kernel
theorem dX2_worked_142 : decode cX2_worked 142 = .ok (.iconst 1, 1) := by decide +kernel
theorem dX2_worked_143 : decode cX2_worked 143 = .ok (.isub, 1) := by decide +kernel
theorem dX2_worked_144 : decode cX2_worked 144 = .ok (.iaload, 1) := by decide +kernel
theorem dX2_worked_145 : decode cX2_worked 145 = .ok (.isub, 1) := by decide +kernel
theorem dX2_worked_146 : decode cX2_worked 146 = .ok (.iastore, 1) := by decide +kernel
theorem dX2_worked_147 : decode cX2_worked 147 = .ok (.goto 42, 3) := by decide +kernel
theorem dX2_worked_150 : decode cX2_worked 150 = .ok (.iload 4, 2) := by decide +kernel
theorem dX2_worked_152 : decode cX2_worked 152 = .ok (.iconst 2, 1) := by decide +kernel
theorem dX2_worked_153 : decode cX2_worked 153 = .ok (.if_icmp .lt 36, 3) := by decide +kernel
theorem dX2_worked_156 : decode cX2_worked 156 = .ok (.iinc 4 (-1), 3) := by decide +kernel
theorem dX2_worked_159 : decode cX2_worked 159 = .ok (.aload_n 0, 1) := by decide +kernel
theorem dX2_worked_160 : decode cX2_worked 160 = .ok (.getfield 30, 3) := by decide +kernel
theorem dX2_worked_163 : decode cX2_worked 163 = .ok (.iload 4, 2) := by decide +kernel
theorem dX2_worked_165 : decode cX2_worked 165 = .ok (.iconst 1, 1) := by decide +kernel
theorem dX2_worked_166 : decode cX2_worked 166 = .ok (.isub, 1) := by decide +kernel
theorem dX2_worked_167 : decode cX2_worked 167 = .ok (.iload 6, 2) := by decide +kernel
theorem dX2_worked_169 : decode cX2_worked 169 = .ok (.aload_n 0, 1) := by decide +kernel
theorem dX2_worked_170 : decode cX2_worked 170 = .ok (.getfield 30, 3) := by decide +kernel
theorem dX2_worked_173 : decode cX2_worked 173 = .ok (.iload 4, 2) := by decide +kernel
theorem dX2_worked_175 : decode cX2_worked 175 = .ok (.iconst 1, 1) := by decide +kernel
theorem dX2_worked_176 : decode cX2_worked 176 = .ok (.isub, 1) := by decide +kernel
theorem dX2_worked_177 : decode cX2_worked 177 = .ok (.iaload, 1) := by decide +kernel
theorem dX2_worked_178 : decode cX2_worked 178 = .ok (.aload_n 0, 1) := by decide +kernel
theorem dX2_worked_179 : decode cX2_worked 179 = .ok (.getfield 30, 3) := by decide +kernel
theorem dX2_worked_182 : decode cX2_worked 182 = .ok (.iload 4, 2) := by decide +kernel
theorem dX2_worked_184 : decode cX2_worked 184 = .ok (.iaload, 1) := by decide +kernel
theorem dX2_worked_185 : decode cX2_worked 185 = .ok (.invokestatic 60, 3) := by decide +kernel
theorem dX2_worked_188 : decode cX2_worked 188 = .ok (.iastore, 1) := by decide +kernel
theorem dX2_worked_189 : decode cX2_worked 189 = .ok (.iinc 5 1, 3) := by decide +kernel
theorem dX2_worked_192 : decode cX2_worked 192 = .ok (.goto (-182), 3) := by decide +kernel
theorem dX2_worked_195 : decode cX2_worked 195 = .ok (.iload 4, 2) := by decide +kernel
theorem dX2_worked_197 : decode cX2_worked 197 = .ok (.ifCond .le 15, 3) := by decide +kernel
theorem dX2_worked_200 : decode cX2_worked 200 = .ok (.aload_n 0, 1) := by decide +kernel
theorem dX2_worked_201 : decode cX2_worked 201 = .ok (.getfield 30, 3) := by decide +kernel
theorem dX2_worked_204 : decode cX2_worked 204 = .ok (.iload 4, 2) := by decide +kernel
theorem dX2_worked_206 : decode cX2_worked 206 = .ok (.iconst 1, 1) := by decide +kernel
theorem dX2_worked_207 : decode cX2_worked 207 = .ok (.isub, 1) := by decide +kernel
theorem dX2_worked_208 : decode cX2_worked 208 = .ok (.iaload, 1) := by decide +kernel
theorem dX2_worked_209 : decode cX2_worked 209 = .ok (.goto 4, 3) := by decide +kernel
theorem dX2_worked_212 : decode cX2_worked 212 = .ok (.iconst 0, 1) := by decide +kernel
theorem dX2_worked_213 : decode cX2_worked 213 = .ok (.ireturn, 1) := by decide +kernel
theorem dX2_ofTwo_0 : decode cX2_ofTwo 0 = .ok (.iload_n 0, 1) := by decide +kernel
theorem dX2_ofTwo_1 : decode cX2_ofTwo 1 = .ok (.lookupswitch 136 #[(42, 83), (43, 75), (45, 79), (47, 87), (60, 99), (61, 110), (62, 121), (313, 132)], 75) := by decide +kernel
theorem dX2_ofTwo_76 : decode cX2_ofTwo 76 = .ok (.iload_n 1, 1) := by decide +kernel
theorem dX2_ofTwo_77 : decode cX2_ofTwo 77 = .ok (.iload_n 2, 1) := by decide +kernel
theorem dX2_ofTwo_78 : decode cX2_ofTwo 78 = .ok (.iadd, 1) := by decide +kernel
theorem dX2_ofTwo_79 : decode cX2_ofTwo 79 = .ok (.ireturn, 1) := by decide +kernel
theorem dX2_ofTwo_80 : decode cX2_ofTwo 80 = .ok (.iload_n 1, 1) := by decide +kernel
theorem dX2_ofTwo_81 : decode cX2_ofTwo 81 = .ok (.iload_n 2, 1) := by decide +kernel
theorem dX2_ofTwo_82 : decode cX2_ofTwo 82 = .ok (.isub, 1) := by decide +kernel
theorem dX2_ofTwo_83 : decode cX2_ofTwo 83 = .ok (.ireturn, 1) := by decide +kernel
theorem dX2_ofTwo_84 : decode cX2_ofTwo 84 = .ok (.iload_n 1, 1) := by decide +kernel
theorem dX2_ofTwo_85 : decode cX2_ofTwo 85 = .ok (.iload_n 2, 1) := by decide +kernel
theorem dX2_ofTwo_86 : decode cX2_ofTwo 86 = .ok (.imul, 1) := by decide +kernel
theorem dX2_ofTwo_87 : decode cX2_ofTwo 87 = .ok (.ireturn, 1) := by decide +kernel
theorem dX2_ofTwo_88 : decode cX2_ofTwo 88 = .ok (.iload_n 2, 1) := by decide +kernel
theorem dX2_ofTwo_89 : decode cX2_ofTwo 89 = .ok (.ifCond .ne 7, 3) := by decide +kernel
theorem dX2_ofTwo_92 : decode cX2_ofTwo 92 = .ok (.iconst 0, 1) := by decide +kernel
theorem dX2_ofTwo_93 : decode cX2_ofTwo 93 = .ok (.goto 6, 3) := by decide +kernel
theorem dX2_ofTwo_96 : decode cX2_ofTwo 96 = .ok (.iload_n 1, 1) := by decide +kernel
theorem dX2_ofTwo_97 : decode cX2_ofTwo 97 = .ok (.iload_n 2, 1) := by decide +kernel
theorem dX2_ofTwo_98 : decode cX2_ofTwo 98 = .ok (.idiv, 1) := by decide +kernel
theorem dX2_ofTwo_99 : decode cX2_ofTwo 99 = .ok (.ireturn, 1) := by decide +kernel
theorem dX2_ofTwo_100 : decode cX2_ofTwo 100 = .ok (.iload_n 1, 1) := by decide +kernel
theorem dX2_ofTwo_101 : decode cX2_ofTwo 101 = .ok (.iload_n 2, 1) := by decide +kernel
theorem dX2_ofTwo_102 : decode cX2_ofTwo 102 = .ok (.if_icmp .ge 7, 3) := by decide +kernel
theorem dX2_ofTwo_105 : decode cX2_ofTwo 105 = .ok (.iconst 1, 1) := by decide +kernel
theorem dX2_ofTwo_106 : decode cX2_ofTwo 106 = .ok (.goto 4, 3) := by decide +kernel
theorem dX2_ofTwo_109 : decode cX2_ofTwo 109 = .ok (.iconst 0, 1) := by decide +kernel
theorem dX2_ofTwo_110 : decode cX2_ofTwo 110 = .ok (.ireturn, 1) := by decide +kernel
theorem dX2_ofTwo_111 : decode cX2_ofTwo 111 = .ok (.iload_n 1, 1) := by decide +kernel
theorem dX2_ofTwo_112 : decode cX2_ofTwo 112 = .ok (.iload_n 2, 1) := by decide +kernel
theorem dX2_ofTwo_113 : decode cX2_ofTwo 113 = .ok (.if_icmp .ne 7, 3) := by decide +kernel
theorem dX2_ofTwo_116 : decode cX2_ofTwo 116 = .ok (.iconst 1, 1) := by decide +kernel
theorem dX2_ofTwo_117 : decode cX2_ofTwo 117 = .ok (.goto 4, 3) := by decide +kernel
theorem dX2_ofTwo_120 : decode cX2_ofTwo 120 = .ok (.iconst 0, 1) := by decide +kernel
theorem dX2_ofTwo_121 : decode cX2_ofTwo 121 = .ok (.ireturn, 1) := by decide +kernel
theorem dX2_ofTwo_122 : decode cX2_ofTwo 122 = .ok (.iload_n 1, 1) := by decide +kernel
theorem dX2_ofTwo_123 : decode cX2_ofTwo 123 = .ok (.iload_n 2, 1) := by decide +kernel
theorem dX2_ofTwo_124 : decode cX2_ofTwo 124 = .ok (.if_icmp .le 7, 3) := by decide +kernel
theorem dX2_ofTwo_127 : decode cX2_ofTwo 127 = .ok (.iconst 1, 1) := by decide +kernel
theorem dX2_ofTwo_128 : decode cX2_ofTwo 128 = .ok (.goto 4, 3) := by decide +kernel
theorem dX2_ofTwo_131 : decode cX2_ofTwo 131 = .ok (.iconst 0, 1) := by decide +kernel
theorem dX2_ofTwo_132 : decode cX2_ofTwo 132 = .ok (.ireturn, 1) := by decide +kernel
theorem dX2_ofTwo_133 : decode cX2_ofTwo 133 = .ok (.iload_n 1, 1) := by decide +kernel
theorem dX2_ofTwo_134 : decode cX2_ofTwo 134 = .ok (.iload_n 2, 1) := by decide +kernel
theorem dX2_ofTwo_135 : decode cX2_ofTwo 135 = .ok (.iand, 1) := by decide +kernel
theorem dX2_ofTwo_136 : decode cX2_ofTwo 136 = .ok (.ireturn, 1) := by decide +kernel
theorem dX2_ofTwo_137 : decode cX2_ofTwo 137 = .ok (.iload_n 1, 1) := by decide +kernel
theorem dX2_ofTwo_138 : decode cX2_ofTwo 138 = .ok (.iload_n 2, 1) := by decide +kernel
theorem dX2_ofTwo_139 : decode cX2_ofTwo 139 = .ok (.ior, 1) := by decide +kernel
theorem dX2_ofTwo_140 : decode cX2_ofTwo 140 = .ok (.ireturn, 1) := by decide +kernel
theorem dX3_init_0 : decode cX3_init 0 = .ok (.aload_n 0, 1) := by decide +kernel
theorem dX3_init_1 : decode cX3_init 1 = .ok (.invokespecial 3, 3) := by decide +kernel
theorem dX3_init_4 : decode cX3_init 4 = .ok (.aload_n 0, 1) := by decide +kernel
theorem dX3_init_5 : decode cX3_init 5 = .ok (.new 9, 3) := by decide +kernel
theorem dX3_init_8 : decode cX3_init 8 = .ok (.dup, 1) := by decide +kernel
theorem dX3_init_9 : decode cX3_init 9 = .ok (.invokespecial 11, 3) := by decide +kernel
theorem dX3_init_12 : decode cX3_init 12 = .ok (.putfield 12, 3) := by decide +kernel
theorem dX3_init_15 : decode cX3_init 15 = .ok (.aload_n 0, 1) := by decide +kernel
theorem dX3_init_16 : decode cX3_init 16 = .ok (.aload_n 1, 1) := by decide +kernel
theorem dX3_init_17 : decode cX3_init 17 = .ok (.putfield 18, 3) := by decide +kernel
theorem dX3_init_20 : decode cX3_init 20 = .ok (.return_, 1) := by decide +kernel
theorem dX3_tell_0 : decode cX3_tell 0 = .ok (.aload_n 0, 1) := by decide +kernel
theorem dX3_tell_1 : decode cX3_tell 1 = .ok (.getfield 12, 3) := by decide +kernel
theorem dX3_tell_4 : decode cX3_tell 4 = .ok (.invokevirtual 22, 3) := by decide +kernel
theorem dX3_tell_7 : decode cX3_tell 7 = .ok (.iconst 0, 1) := by decide +kernel
theorem dX3_tell_8 : decode cX3_tell 8 = .ok (.istore_n 2, 1) := by decide +kernel
theorem dX3_tell_9 : decode cX3_tell 9 = .ok (.iload_n 2, 1) := by decide +kernel
theorem dX3_tell_10 : decode cX3_tell 10 = .ok (.bipush 16, 2) := by decide +kernel
theorem dX3_tell_12 : decode cX3_tell 12 = .ok (.if_icmp .gt 28, 3) := by decide +kernel
theorem dX3_tell_15 : decode cX3_tell 15 = .ok (.aload_n 0, 1) := by decide +kernel
theorem dX3_tell_16 : decode cX3_tell 16 = .ok (.getfield 18, 3) := by decide +kernel
theorem dX3_tell_19 : decode cX3_tell 19 = .ok (.invokevirtual 25, 3) := by decide +kernel
theorem dX3_tell_22 : decode cX3_tell 22 = .ok (.ifCond .ne 18, 3) := by decide +kernel
theorem dX3_tell_25 : decode cX3_tell 25 = .ok (.aload_n 0, 1) := by decide +kernel
theorem dX3_tell_26 : decode cX3_tell 26 = .ok (.invokevirtual 31, 3) := by decide +kernel
theorem dX3_tell_29 : decode cX3_tell 29 = .ok (.ifCond .ne 5, 3) := by decide +kernel
theorem dX3_tell_32 : decode cX3_tell 32 = .ok (.iconst (-1), 1) := by decide +kernel
theorem dX3_tell_33 : decode cX3_tell 33 = .ok (.ireturn, 1) := by decide +kernel
theorem dX3_tell_34 : decode cX3_tell 34 = .ok (.iinc 2 1, 3) := by decide +kernel
theorem dX3_tell_37 : decode cX3_tell 37 = .ok (.goto (-28), 3) := by decide +kernel
theorem dX3_tell_40 : decode cX3_tell 40 = .ok (.aload_n 1, 1) := by decide +kernel
theorem dX3_tell_41 : decode cX3_tell 41 = .ok (.aload_n 0, 1) := by decide +kernel
theorem dX3_tell_42 : decode cX3_tell 42 = .ok (.getfield 12, 3) := by decide +kernel
theorem dX3_tell_45 : decode cX3_tell 45 = .ok (.invokevirtual 34, 3) := by decide +kernel
theorem dX3_tell_48 : decode cX3_tell 48 = .ok (.aload_n 1, 1) := by decide +kernel
theorem dX3_tell_49 : decode cX3_tell 49 = .ok (.getfield 38, 3) := by decide +kernel
theorem dX3_tell_52 : decode cX3_tell 52 = .ok (.ireturn, 1) := by decide +kernel
theorem dX3_readLine_0 : decode cX3_readLine 0 = .ok (.aload_n 0, 1) := by decide +kernel
theorem dX3_readLine_1 : decode cX3_readLine 1 = .ok (.getfield 18, 3) := by decide +kernel
theorem dX3_readLine_4 : decode cX3_readLine 4 = .ok (.invokevirtual 42, 3) := by decide +kernel
theorem dX3_readLine_7 : decode cX3_readLine 7 = .ok (.istore_n 1, 1) := by decide +kernel
theorem dX3_readLine_8 : decode cX3_readLine 8 = .ok (.iload_n 1, 1) := by decide +kernel
theorem dX3_readLine_9 : decode cX3_readLine 9 = .ok (.sipush 307, 3) := by decide +kernel
theorem dX3_readLine_12 : decode cX3_readLine 12 = .ok (.sipush 310, 3) := by decide +kernel
theorem dX3_readLine_15 : decode cX3_readLine 15 = .ok (.invokestatic 46, 3) := by decide +kernel
theorem dX3_readLine_18 : decode cX3_readLine 18 = .ok (.ifCond .ne 12, 3) := by decide +kernel
theorem dX3_readLine_21 : decode cX3_readLine 21 = .ok (.aload_n 0, 1) := by decide +kernel
theorem dX3_readLine_22 : decode cX3_readLine 22 = .ok (.getfield 18, 3) := by decide +kernel
theorem dX3_readLine_25 : decode cX3_readLine 25 = .ok (.iconst 1, 1) := by decide +kernel
theorem dX3_readLine_26 : decode cX3_readLine 26 = .ok (.invokevirtual 50, 3) := by decide +kernel
theorem dX3_readLine_29 : decode cX3_readLine 29 = .ok (.ireturn, 1) := by decide +kernel
theorem dX3_readLine_30 : decode cX3_readLine 30 = .ok (.aload_n 0, 1) := by decide +kernel
theorem dX3_readLine_31 : decode cX3_readLine 31 = .ok (.getfield 12, 3) := by decide +kernel
theorem dX3_readLine_34 : decode cX3_readLine 34 = .ok (.invokevirtual 54, 3) := by decide +kernel
theorem dX3_readLine_37 : decode cX3_readLine 37 = .ok (.ifCond .eq 12, 3) := by decide +kernel
theorem dX3_readLine_40 : decode cX3_readLine 40 = .ok (.aload_n 0, 1) := by decide +kernel
theorem dX3_readLine_41 : decode cX3_readLine 41 = .ok (.getfield 18, 3) := by decide +kernel
theorem dX3_readLine_44 : decode cX3_readLine 44 = .ok (.iconst 3, 1) := by decide +kernel
theorem dX3_readLine_45 : decode cX3_readLine 45 = .ok (.invokevirtual 50, 3) := by decide +kernel
theorem dX3_readLine_48 : decode cX3_readLine 48 = .ok (.ireturn, 1) := by decide +kernel
theorem dX3_readLine_49 : decode cX3_readLine 49 = .ok (.aload_n 0, 1) := by decide +kernel
theorem dX3_readLine_50 : decode cX3_readLine 50 = .ok (.getfield 18, 3) := by decide +kernel
theorem dX3_readLine_53 : decode cX3_readLine 53 = .ok (.invokevirtual 57, 3) := by decide +kernel
theorem dX3_readLine_56 : decode cX3_readLine 56 = .ok (.aload_n 0, 1) := by decide +kernel
theorem dX3_readLine_57 : decode cX3_readLine 57 = .ok (.getfield 12, 3) := by decide +kernel
theorem dX3_readLine_60 : decode cX3_readLine 60 = .ok (.iload_n 1, 1) := by decide +kernel
theorem dX3_readLine_61 : decode cX3_readLine 61 = .ok (.invokevirtual 60, 3) := by decide +kernel
theorem dX3_readLine_64 : decode cX3_readLine 64 = .ok (.aload_n 0, 1) := by decide +kernel
theorem dX3_readLine_65 : decode cX3_readLine 65 = .ok (.invokevirtual 64, 3) := by decide +kernel
theorem dX3_readLine_68 : decode cX3_readLine 68 = .ok (.ifCond .ne 5, 3) := by decide +kernel
theorem dX3_readLine_71 : decode cX3_readLine 71 = .ok (.iconst 0, 1) := by decide +kernel
theorem dX3_readLine_72 : decode cX3_readLine 72 = .ok (.ireturn, 1) := by decide +kernel
theorem dX3_readLine_73 : decode cX3_readLine 73 = .ok (.aload_n 0, 1) := by decide +kernel
theorem dX3_readLine_74 : decode cX3_readLine 74 = .ok (.getfield 12, 3) := by decide +kernel
theorem dX3_readLine_77 : decode cX3_readLine 77 = .ok (.invokevirtual 67, 3) := by decide +kernel
theorem dX3_readLine_80 : decode cX3_readLine 80 = .ok (.aload_n 0, 1) := by decide +kernel
theorem dX3_readLine_81 : decode cX3_readLine 81 = .ok (.getfield 18, 3) := by decide +kernel
theorem dX3_readLine_84 : decode cX3_readLine 84 = .ok (.invokevirtual 42, 3) := by decide +kernel
theorem dX3_readLine_87 : decode cX3_readLine 87 = .ok (.sipush 311, 3) := by decide +kernel
theorem dX3_readLine_90 : decode cX3_readLine 90 = .ok (.if_icmp .ne 20, 3) := by decide +kernel
theorem dX3_readLine_93 : decode cX3_readLine 93 = .ok (.aload_n 0, 1) := by decide +kernel
theorem dX3_readLine_94 : decode cX3_readLine 94 = .ok (.getfield 18, 3) := by decide +kernel
theorem dX3_readLine_97 : decode cX3_readLine 97 = .ok (.invokevirtual 57, 3) := by decide +kernel
theorem dX3_readLine_100 : decode cX3_readLine 100 = .ok (.aload_n 0, 1) := by decide +kernel
theorem dX3_readLine_101 : decode cX3_readLine 101 = .ok (.iconst 0, 1) := by decide +kernel
theorem dX3_readLine_102 : decode cX3_readLine 102 = .ok (.invokevirtual 70, 3) := by decide +kernel
theorem dX3_readLine_105 : decode cX3_readLine 105 = .ok (.ifCond .ne 5, 3) := by decide +kernel
theorem dX3_readLine_108 : decode cX3_readLine 108 = .ok (.iconst 0, 1) := by decide +kernel
theorem dX3_readLine_109 : decode cX3_readLine 109 = .ok (.ireturn, 1) := by decide +kernel
theorem dX3_readLine_110 : decode cX3_readLine 110 = .ok (.aload_n 0, 1) := by decide +kernel
theorem dX3_readLine_111 : decode cX3_readLine 111 = .ok (.getfield 12, 3) := by decide +kernel
theorem dX3_readLine_114 : decode cX3_readLine 114 = .ok (.invokevirtual 73, 3) := by decide +kernel
theorem dX3_readLine_117 : decode cX3_readLine 117 = .ok (.aload_n 0, 1) := by decide +kernel
theorem dX3_readLine_118 : decode cX3_readLine 118 = .ok (.getfield 18, 3) := by decide +kernel
theorem dX3_readLine_121 : decode cX3_readLine 121 = .ok (.bipush 59, 2) := by decide +kernel
theorem dX3_readLine_123 : decode cX3_readLine 123 = .ok (.invokevirtual 76, 3) := by decide +kernel
theorem dX3_readLine_126 : decode cX3_readLine 126 = .ok (.ireturn, 1) := by decide +kernel
theorem dX3_readEither_0 : decode cX3_readEither 0 = .ok (.iconst 0, 1) := by decide +kernel
theorem dX3_readEither_1 : decode cX3_readEither 1 = .ok (.istore_n 2, 1) := by decide +kernel
theorem dX3_readEither_2 : decode cX3_readEither 2 = .ok (.iconst 0, 1) := by decide +kernel
theorem dX3_readEither_3 : decode cX3_readEither 3 = .ok (.istore_n 3, 1) := by decide +kernel
theorem dX3_readEither_4 : decode cX3_readEither 4 = .ok (.iload_n 3, 1) := by decide +kernel
theorem dX3_readEither_5 : decode cX3_readEither 5 = .ok (.sipush 400, 3) := by decide +kernel
theorem dX3_readEither_8 : decode cX3_readEither 8 = .ok (.if_icmp .ge 116, 3) := by decide +kernel
theorem dX3_readEither_11 : decode cX3_readEither 11 = .ok (.aload_n 0, 1) := by decide +kernel
theorem dX3_readEither_12 : decode cX3_readEither 12 = .ok (.iload_n 1, 1) := by decide +kernel
theorem dX3_readEither_13 : decode cX3_readEither 13 = .ok (.invokevirtual 79, 3) := by decide +kernel
theorem dX3_readEither_16 : decode cX3_readEither 16 = .ok (.ifCond .ne 5, 3) := by decide +kernel
theorem dX3_readEither_19 : decode cX3_readEither 19 = .ok (.iconst 0, 1) := by decide +kernel
theorem dX3_readEither_20 : decode cX3_readEither 20 = .ok (.ireturn, 1) := by decide +kernel
theorem dX3_readEither_21 : decode cX3_readEither 21 = .ok (.iconst 0, 1) := by decide +kernel
theorem dX3_readEither_22 : decode cX3_readEither 22 = .ok (.istore 4, 2) := by decide +kernel
theorem dX3_readEither_24 : decode cX3_readEither 24 = .ok (.iload 4, 2) := by decide +kernel
theorem dX3_readEither_26 : decode cX3_readEither 26 = .ok (.sipush 400, 3) := by decide +kernel
theorem dX3_readEither_29 : decode cX3_readEither 29 = .ok (.if_icmp .ge 50, 3) := by decide +kernel
theorem dX3_readEither_32 : decode cX3_readEither 32 = .ok (.aload_n 0, 1) := by decide +kernel
theorem dX3_readEither_33 : decode cX3_readEither 33 = .ok (.getfield 18, 3) := by decide +kernel
theorem dX3_readEither_36 : decode cX3_readEither 36 = .ok (.invokevirtual 42, 3) := by decide +kernel
theorem dX3_readEither_39 : decode cX3_readEither 39 = .ok (.sipush 313, 3) := by decide +kernel
theorem dX3_readEither_42 : decode cX3_readEither 42 = .ok (.if_icmp .ne 37, 3) := by decide +kernel
theorem dX3_readEither_45 : decode cX3_readEither 45 = .ok (.aload_n 0, 1) := by decide +kernel
theorem dX3_readEither_46 : decode cX3_readEither 46 = .ok (.getfield 18, 3) := by decide +kernel
theorem dX3_readEither_49 : decode cX3_readEither 49 = .ok (.invokevirtual 57, 3) := by decide +kernel
theorem dX3_readEither_52 : decode cX3_readEither 52 = .ok (.aload_n 0, 1) := by decide +kernel
theorem dX3_readEither_53 : decode cX3_readEither 53 = .ok (.iload_n 1, 1) := by decide +kernel
theorem dX3_readEither_54 : decode cX3_readEither 54 = .ok (.invokevirtual 79, 3) := by decide +kernel
theorem dX3_readEither_57 : decode cX3_readEither 57 = .ok (.ifCond .ne 5, 3) := by decide +kernel
theorem dX3_readEither_60 : decode cX3_readEither 60 = .ok (.iconst 0, 1) := by decide +kernel
theorem dX3_readEither_61 : decode cX3_readEither 61 = .ok (.ireturn, 1) := by decide +kernel
theorem dX3_readEither_62 : decode cX3_readEither 62 = .ok (.aload_n 0, 1) := by decide +kernel
theorem dX3_readEither_63 : decode cX3_readEither 63 = .ok (.getfield 12, 3) := by decide +kernel
theorem dX3_readEither_66 : decode cX3_readEither 66 = .ok (.sipush 313, 3) := by decide +kernel
theorem dX3_readEither_69 : decode cX3_readEither 69 = .ok (.iconst 0, 1) := by decide +kernel
theorem dX3_readEither_70 : decode cX3_readEither 70 = .ok (.invokevirtual 82, 3) := by decide +kernel
theorem dX3_readEither_73 : decode cX3_readEither 73 = .ok (.iinc 4 1, 3) := by decide +kernel
theorem dX3_readEither_76 : decode cX3_readEither 76 = .ok (.goto (-52), 3) := by decide +kernel
theorem dX3_readEither_79 : decode cX3_readEither 79 = .ok (.iload_n 2, 1) := by decide +kernel
theorem dX3_readEither_80 : decode cX3_readEither 80 = .ok (.ifCond .eq 14, 3) := by decide +kernel
theorem dX3_readEither_83 : decode cX3_readEither 83 = .ok (.aload_n 0, 1) := by decide +kernel
theorem dX3_readEither_84 : decode cX3_readEither 84 = .ok (.getfield 12, 3) := by decide +kernel
theorem dX3_readEither_87 : decode cX3_readEither 87 = .ok (.sipush 312, 3) := by decide +kernel
theorem dX3_readEither_90 : decode cX3_readEither 90 = .ok (.iconst 0, 1) := by decide +kernel
theorem dX3_readEither_91 : decode cX3_readEither 91 = .ok (.invokevirtual 82, 3) := by decide +kernel
theorem dX3_readEither_94 : decode cX3_readEither 94 = .ok (.aload_n 0, 1) := by decide +kernel
theorem dX3_readEither_95 : decode cX3_readEither 95 = .ok (.getfield 18, 3) := by decide +kernel
theorem dX3_readEither_98 : decode cX3_readEither 98 = .ok (.invokevirtual 42, 3) := by decide +kernel
theorem dX3_readEither_101 : decode cX3_readEither 101 = .ok (.sipush 312, 3) := by decide +kernel
theorem dX3_readEither_104 : decode cX3_readEither 104 = .ok (.if_icmp .eq 5, 3) := by decide +kernel
theorem dX3_readEither_107 : decode cX3_readEither 107 = .ok (.iconst 1, 1) := by decide +kernel
theorem dX3_readEither_108 : decode cX3_readEither 108 = .ok (.ireturn, 1) := by decide +kernel
theorem dX3_readEither_109 : decode cX3_readEither 109 = .ok (.aload_n 0, 1) := by decide +kernel
theorem dX3_readEither_110 : decode cX3_readEither 110 = .ok (.getfield 18, 3) := by decide +kernel
theorem dX3_readEither_113 : decode cX3_readEither 113 = .ok (.invokevirtual 57, 3) := by decide +kernel
theorem dX3_readEither_116 : decode cX3_readEither 116 = .ok (.iconst 1, 1) := by decide +kernel
theorem dX3_readEither_117 : decode cX3_readEither 117 = .ok (.istore_n 2, 1) := by decide +kernel
theorem dX3_readEither_118 : decode cX3_readEither 118 = .ok (.iinc 3 1, 3) := by decide +kernel
theorem dX3_readEither_121 : decode cX3_readEither 121 = .ok (.goto (-117), 3) := by decide +kernel
theorem dX3_readEither_124 : decode cX3_readEither 124 = .ok (.iconst 1, 1) := by decide +kernel
theorem dX3_readEither_125 : decode cX3_readEither 125 = .ok (.ireturn, 1) := by decide +kernel
theorem dX3_readCondition_0 : decode cX3_readCondition 0 = .ok (.aload_n 0, 1) := by decide +kernel
theorem dX3_readCondition_1 : decode cX3_readCondition 1 = .ok (.getfield 18, 3) := by decide +kernel
theorem dX3_readCondition_4 : decode cX3_readCondition 4 = .ok (.invokevirtual 42, 3) := by decide +kernel
theorem dX3_readCondition_7 : decode cX3_readCondition 7 = .ok (.istore_n 2, 1) := by decide +kernel
theorem dX3_readCondition_8 : decode cX3_readCondition 8 = .ok (.iload_n 2, 1) := by decide +kernel
theorem dX3_readCondition_9 : decode cX3_readCondition 9 = .ok (.sipush 314, 3) := by decide +kernel
theorem dX3_readCondition_12 : decode cX3_readCondition 12 = .ok (.if_icmp .eq 9, 3) := by decide +kernel
theorem dX3_readCondition_15 : decode cX3_readCondition 15 = .ok (.iload_n 2, 1) := by decide +kernel
theorem dX3_readCondition_16 : decode cX3_readCondition 16 = .ok (.bipush 40, 2) := by decide +kernel
theorem dX3_readCondition_18 : decode cX3_readCondition 18 = .ok (.if_icmp .ne 18, 3) := by decide +kernel
theorem dX3_readCondition_21 : decode cX3_readCondition 21 = .ok (.iload_n 1, 1) := by decide +kernel
theorem dX3_readCondition_22 : decode cX3_readCondition 22 = .ok (.bipush 8, 2) := by decide +kernel
theorem dX3_readCondition_24 : decode cX3_readCondition 24 = .ok (.if_icmp .lt 12, 3) := by decide +kernel
theorem dX3_readCondition_27 : decode cX3_readCondition 27 = .ok (.aload_n 0, 1) := by decide +kernel
theorem dX3_readCondition_28 : decode cX3_readCondition 28 = .ok (.getfield 18, 3) := by decide +kernel
theorem dX3_readCondition_31 : decode cX3_readCondition 31 = .ok (.iconst 3, 1) := by decide +kernel
theorem dX3_readCondition_32 : decode cX3_readCondition 32 = .ok (.invokevirtual 50, 3) := by decide +kernel
theorem dX3_readCondition_35 : decode cX3_readCondition 35 = .ok (.ireturn, 1) := by decide +kernel
theorem dX3_readCondition_36 : decode cX3_readCondition 36 = .ok (.iload_n 2, 1) := by decide +kernel
theorem dX3_readCondition_37 : decode cX3_readCondition 37 = .ok (.bipush 40, 2) := by decide +kernel
theorem dX3_readCondition_39 : decode cX3_readCondition 39 = .ok (.if_icmp .ne 38, 3) := by decide +kernel
theorem dX3_readCondition_42 : decode cX3_readCondition 42 = .ok (.aload_n 0, 1) := by decide +kernel
theorem dX3_readCondition_43 : decode cX3_readCondition 43 = .ok (.getfield 18, 3) := by decide +kernel
theorem dX3_readCondition_46 : decode cX3_readCondition 46 = .ok (.invokevirtual 57, 3) := by decide +kernel
theorem dX3_readCondition_49 : decode cX3_readCondition 49 = .ok (.aload_n 0, 1) := by decide +kernel
theorem dX3_readCondition_50 : decode cX3_readCondition 50 = .ok (.iload_n 1, 1) := by decide +kernel
theorem dX3_readCondition_51 : decode cX3_readCondition 51 = .ok (.iconst 1, 1) := by decide +kernel
theorem dX3_readCondition_52 : decode cX3_readCondition 52 = .ok (.iadd, 1) := by decide +kernel
theorem dX3_readCondition_53 : decode cX3_readCondition 53 = .ok (.invokevirtual 70, 3) := by decide +kernel
theorem dX3_readCondition_56 : decode cX3_readCondition 56 = .ok (.ifCond .eq 19, 3) := by decide +kernel
theorem dX3_readCondition_59 : decode cX3_readCondition 59 = .ok (.aload_n 0, 1) := by decide +kernel
theorem dX3_readCondition_60 : decode cX3_readCondition 60 = .ok (.getfield 18, 3) := by decide +kernel
theorem dX3_readCondition_63 : decode cX3_readCondition 63 = .ok (.bipush 41, 2) := by decide +kernel
theorem dX3_readCondition_65 : decode cX3_readCondition 65 = .ok (.invokevirtual 76, 3) := by decide +kernel
theorem dX3_readCondition_68 : decode cX3_readCondition 68 = .ok (.ifCond .eq 7, 3) := by decide +kernel
theorem dX3_readCondition_71 : decode cX3_readCondition 71 = .ok (.iconst 1, 1) := by decide +kernel
theorem dX3_readCondition_72 : decode cX3_readCondition 72 = .ok (.goto 4, 3) := by decide +kernel
theorem dX3_readCondition_75 : decode cX3_readCondition 75 = .ok (.iconst 0, 1) := by decide +kernel
theorem dX3_readCondition_76 : decode cX3_readCondition 76 = .ok (.ireturn, 1) := by decide +kernel
theorem dX3_readCondition_77 : decode cX3_readCondition 77 = .ok (.iload_n 2, 1) := by decide +kernel
theorem dX3_readCondition_78 : decode cX3_readCondition 78 = .ok (.sipush 314, 3) := by decide +kernel
theorem dX3_readCondition_81 : decode cX3_readCondition 81 = .ok (.if_icmp .ne 31, 3) := by decide +kernel
theorem dX3_readCondition_84 : decode cX3_readCondition 84 = .ok (.aload_n 0, 1) := by decide +kernel
theorem dX3_readCondition_85 : decode cX3_readCondition 85 = .ok (.getfield 18, 3) := by decide +kernel
theorem dX3_readCondition_88 : decode cX3_readCondition 88 = .ok (.invokevirtual 57, 3) := by decide +kernel
theorem dX3_readCondition_91 : decode cX3_readCondition 91 = .ok (.aload_n 0, 1) := by decide +kernel
theorem dX3_readCondition_92 : decode cX3_readCondition 92 = .ok (.iload_n 1, 1) := by decide +kernel
theorem dX3_readCondition_93 : decode cX3_readCondition 93 = .ok (.iconst 1, 1) := by decide +kernel
theorem dX3_readCondition_94 : decode cX3_readCondition 94 = .ok (.iadd, 1) := by decide +kernel
theorem dX3_readCondition_95 : decode cX3_readCondition 95 = .ok (.invokevirtual 79, 3) := by decide +kernel
theorem dX3_readCondition_98 : decode cX3_readCondition 98 = .ok (.istore_n 3, 1) := by decide +kernel
theorem dX3_readCondition_99 : decode cX3_readCondition 99 = .ok (.aload_n 0, 1) := by decide +kernel
theorem dX3_readCondition_100 : decode cX3_readCondition 100 = .ok (.getfield 12, 3) := by decide +kernel
theorem dX3_readCondition_103 : decode cX3_readCondition 103 = .ok (.sipush 314, 3) := by decide +kernel
theorem dX3_readCondition_106 : decode cX3_readCondition 106 = .ok (.iconst 0, 1) := by decide +kernel
theorem dX3_readCondition_107 : decode cX3_readCondition 107 = .ok (.invokevirtual 82, 3) := by decide +kernel
theorem dX3_readCondition_110 : decode cX3_readCondition 110 = .ok (.iload_n 3, 1) := by decide +kernel
theorem dX3_readCondition_111 : decode cX3_readCondition 111 = .ok (.ireturn, 1) := by decide +kernel
theorem dX3_readCondition_112 : decode cX3_readCondition 112 = .ok (.aload_n 0, 1) := by decide +kernel
theorem dX3_readCondition_113 : decode cX3_readCondition 113 = .ok (.invokevirtual 64, 3) := by decide +kernel
theorem dX3_readCondition_116 : decode cX3_readCondition 116 = .ok (.ifCond .ne 5, 3) := by decide +kernel
theorem dX3_readCondition_119 : decode cX3_readCondition 119 = .ok (.iconst 0, 1) := by decide +kernel
theorem dX3_readCondition_120 : decode cX3_readCondition 120 = .ok (.ireturn, 1) := by decide +kernel
theorem dX3_readCondition_121 : decode cX3_readCondition 121 = .ok (.aload_n 0, 1) := by decide +kernel
theorem dX3_readCondition_122 : decode cX3_readCondition 122 = .ok (.getfield 18, 3) := by decide +kernel
theorem dX3_readCondition_125 : decode cX3_readCondition 125 = .ok (.invokevirtual 42, 3) := by decide +kernel
theorem dX3_readCondition_128 : decode cX3_readCondition 128 = .ok (.istore_n 3, 1) := by decide +kernel
theorem dX3_readCondition_129 : decode cX3_readCondition 129 = .ok (.iload_n 3, 1) := by decide +kernel
theorem dX3_readCondition_130 : decode cX3_readCondition 130 = .ok (.bipush 60, 2) := by decide +kernel
theorem dX3_readCondition_132 : decode cX3_readCondition 132 = .ok (.if_icmp .eq 24, 3) := by decide +kernel
theorem dX3_readCondition_135 : decode cX3_readCondition 135 = .ok (.iload_n 3, 1) := by decide +kernel
theorem dX3_readCondition_136 : decode cX3_readCondition 136 = .ok (.bipush 61, 2) := by decide +kernel
theorem dX3_readCondition_138 : decode cX3_readCondition 138 = .ok (.if_icmp .eq 18, 3) := by decide +kernel
theorem dX3_readCondition_141 : decode cX3_readCondition 141 = .ok (.iload_n 3, 1) := by decide +kernel
theorem dX3_readCondition_142 : decode cX3_readCondition 142 = .ok (.bipush 62, 2) := by decide +kernel
theorem dX3_readCondition_144 : decode cX3_readCondition 144 = .ok (.if_icmp .eq 12, 3) := by decide +kernel
theorem dX3_readCondition_147 : decode cX3_readCondition 147 = .ok (.aload_n 0, 1) := by decide +kernel
theorem dX3_readCondition_148 : decode cX3_readCondition 148 = .ok (.getfield 18, 3) := by decide +kernel
theorem dX3_readCondition_151 : decode cX3_readCondition 151 = .ok (.iconst 1, 1) := by decide +kernel
theorem dX3_readCondition_152 : decode cX3_readCondition 152 = .ok (.invokevirtual 50, 3) := by decide +kernel
theorem dX3_readCondition_155 : decode cX3_readCondition 155 = .ok (.ireturn, 1) := by decide +kernel
theorem dX3_readCondition_156 : decode cX3_readCondition 156 = .ok (.aload_n 0, 1) := by decide +kernel
theorem dX3_readCondition_157 : decode cX3_readCondition 157 = .ok (.getfield 18, 3) := by decide +kernel
theorem dX3_readCondition_160 : decode cX3_readCondition 160 = .ok (.invokevirtual 57, 3) := by decide +kernel
theorem dX3_readCondition_163 : decode cX3_readCondition 163 = .ok (.aload_n 0, 1) := by decide +kernel
theorem dX3_readCondition_164 : decode cX3_readCondition 164 = .ok (.invokevirtual 64, 3) := by decide +kernel
theorem dX3_readCondition_167 : decode cX3_readCondition 167 = .ok (.istore 4, 2) := by decide +kernel
theorem dX3_readCondition_169 : decode cX3_readCondition 169 = .ok (.aload_n 0, 1) := by decide +kernel
theorem dX3_readCondition_170 : decode cX3_readCondition 170 = .ok (.getfield 12, 3) := by decide +kernel
theorem dX3_readCondition_173 : decode cX3_readCondition 173 = .ok (.iload_n 3, 1) := by decide +kernel
theorem dX3_readCondition_174 : decode cX3_readCondition 174 = .ok (.iconst 0, 1) := by decide +kernel
theorem dX3_readCondition_175 : decode cX3_readCondition 175 = .ok (.invokevirtual 82, 3) := by decide +kernel
theorem dX3_readCondition_178 : decode cX3_readCondition 178 = .ok (.iload 4, 2) := by decide +kernel
theorem dX3_readCondition_180 : decode cX3_readCondition 180 = .ok (.ireturn, 1) := by decide +kernel
theorem dX3_readSum_0 : decode cX3_readSum 0 = .ok (.aload_n 0, 1) := by decide +kernel
theorem dX3_readSum_1 : decode cX3_readSum 1 = .ok (.iconst 0, 1) := by decide +kernel
theorem dX3_readSum_2 : decode cX3_readSum 2 = .ok (.invokevirtual 86, 3) := by decide +kernel
theorem dX3_readSum_5 : decode cX3_readSum 5 = .ok (.ifCond .ne 5, 3) := by decide +kernel
theorem dX3_readSum_8 : decode cX3_readSum 8 = .ok (.iconst 0, 1) := by decide +kernel
theorem dX3_readSum_9 : decode cX3_readSum 9 = .ok (.ireturn, 1) := by decide +kernel
theorem dX3_readSum_10 : decode cX3_readSum 10 = .ok (.iconst (-1), 1) := by decide +kernel
theorem dX3_readSum_11 : decode cX3_readSum 11 = .ok (.istore_n 1, 1) := by decide +kernel
theorem dX3_readSum_12 : decode cX3_readSum 12 = .ok (.iconst 0, 1) := by decide +kernel
theorem dX3_readSum_13 : decode cX3_readSum 13 = .ok (.istore_n 2, 1) := by decide +kernel
theorem dX3_readSum_14 : decode cX3_readSum 14 = .ok (.iload_n 2, 1) := by decide +kernel
theorem dX3_readSum_15 : decode cX3_readSum 15 = .ok (.sipush 400, 3) := by decide +kernel
theorem dX3_readSum_18 : decode cX3_readSum 18 = .ok (.if_icmp .ge 102, 3) := by decide +kernel
theorem dX3_readSum_21 : decode cX3_readSum 21 = .ok (.aload_n 0, 1) := by decide +kernel
theorem dX3_readSum_22 : decode cX3_readSum 22 = .ok (.getfield 18, 3) := by decide +kernel
theorem dX3_readSum_25 : decode cX3_readSum 25 = .ok (.invokevirtual 42, 3) := by decide +kernel
theorem dX3_readSum_28 : decode cX3_readSum 28 = .ok (.invokestatic 90, 3) := by decide +kernel
theorem dX3_readSum_31 : decode cX3_readSum 31 = .ok (.ifCond .eq 89, 3) := by decide +kernel
theorem dX3_readSum_34 : decode cX3_readSum 34 = .ok (.aload_n 0, 1) := by decide +kernel
theorem dX3_readSum_35 : decode cX3_readSum 35 = .ok (.getfield 18, 3) := by decide +kernel
theorem dX3_readSum_38 : decode cX3_readSum 38 = .ok (.invokevirtual 42, 3) := by decide +kernel
theorem dX3_readSum_41 : decode cX3_readSum 41 = .ok (.istore_n 3, 1) := by decide +kernel
theorem dX3_readSum_42 : decode cX3_readSum 42 = .ok (.iload_n 3, 1) := by decide +kernel
theorem dX3_readSum_43 : decode cX3_readSum 43 = .ok (.bipush 42, 2) := by decide +kernel
theorem dX3_readSum_45 : decode cX3_readSum 45 = .ok (.if_icmp .eq 9, 3) := by decide +kernel
theorem dX3_readSum_48 : decode cX3_readSum 48 = .ok (.iload_n 3, 1) := by decide +kernel
theorem dX3_readSum_49 : decode cX3_readSum 49 = .ok (.bipush 47, 2) := by decide +kernel
theorem dX3_readSum_51 : decode cX3_readSum 51 = .ok (.if_icmp .ne 7, 3) := by decide +kernel
theorem dX3_readSum_54 : decode cX3_readSum 54 = .ok (.iconst 1, 1) := by decide +kernel
theorem dX3_readSum_55 : decode cX3_readSum 55 = .ok (.goto 4, 3) := by decide +kernel
theorem dX3_readSum_58 : decode cX3_readSum 58 = .ok (.iconst 0, 1) := by decide +kernel
theorem dX3_readSum_59 : decode cX3_readSum 59 = .ok (.istore 4, 2) := by decide +kernel
theorem dX3_readSum_61 : decode cX3_readSum 61 = .ok (.iload 4, 2) := by decide +kernel
theorem dX3_readSum_63 : decode cX3_readSum 63 = .ok (.ifCond .ne 10, 3) := by decide +kernel
theorem dX3_readSum_66 : decode cX3_readSum 66 = .ok (.aload_n 0, 1) := by decide +kernel
theorem dX3_readSum_67 : decode cX3_readSum 67 = .ok (.iload_n 1, 1) := by decide +kernel
theorem dX3_readSum_68 : decode cX3_readSum 68 = .ok (.invokevirtual 93, 3) := by decide +kernel
theorem dX3_readSum_71 : decode cX3_readSum 71 = .ok (.iload_n 3, 1) := by decide +kernel
theorem dX3_readSum_72 : decode cX3_readSum 72 = .ok (.istore_n 1, 1) := by decide +kernel
theorem dX3_readSum_73 : decode cX3_readSum 73 = .ok (.aload_n 0, 1) := by decide +kernel
theorem dX3_readSum_74 : decode cX3_readSum 74 = .ok (.getfield 18, 3) := by decide +kernel
theorem dX3_readSum_77 : decode cX3_readSum 77 = .ok (.invokevirtual 57, 3) := by decide +kernel
theorem dX3_readSum_80 : decode cX3_readSum 80 = .ok (.aload_n 0, 1) := by decide +kernel
theorem dX3_readSum_81 : decode cX3_readSum 81 = .ok (.iload_n 3, 1) := by decide +kernel
theorem dX3_readSum_82 : decode cX3_readSum 82 = .ok (.bipush 47, 2) := by decide +kernel
theorem dX3_readSum_84 : decode cX3_readSum 84 = .ok (.if_icmp .ne 7, 3) := by decide +kernel
theorem dX3_readSum_87 : decode cX3_readSum 87 = .ok (.iconst 1, 1) := by decide +kernel
theorem dX3_readSum_88 : decode cX3_readSum 88 = .ok (.goto 4, 3) := by decide +kernel
theorem dX3_readSum_91 : decode cX3_readSum 91 = .ok (.iconst 0, 1) := by decide +kernel
theorem dX3_readSum_92 : decode cX3_readSum 92 = .ok (.invokevirtual 86, 3) := by decide +kernel
theorem dX3_readSum_95 : decode cX3_readSum 95 = .ok (.ifCond .ne 5, 3) := by decide +kernel
theorem dX3_readSum_98 : decode cX3_readSum 98 = .ok (.iconst 0, 1) := by decide +kernel
theorem dX3_readSum_99 : decode cX3_readSum 99 = .ok (.ireturn, 1) := by decide +kernel
theorem dX3_readSum_100 : decode cX3_readSum 100 = .ok (.iload 4, 2) := by decide +kernel
theorem dX3_readSum_102 : decode cX3_readSum 102 = .ok (.ifCond .eq 12, 3) := by decide +kernel
theorem dX3_readSum_105 : decode cX3_readSum 105 = .ok (.aload_n 0, 1) := by decide +kernel
theorem dX3_readSum_106 : decode cX3_readSum 106 = .ok (.getfield 12, 3) := by decide +kernel
theorem dX3_readSum_109 : decode cX3_readSum 109 = .ok (.iload_n 3, 1) := by decide +kernel
theorem dX3_readSum_110 : decode cX3_readSum 110 = .ok (.iconst 0, 1) := by decide +kernel
theorem dX3_readSum_111 : decode cX3_readSum 111 = .ok (.invokevirtual 82, 3) := by decide +kernel
theorem dX3_readSum_114 : decode cX3_readSum 114 = .ok (.iinc 2 1, 3) := by decide +kernel
theorem dX3_readSum_117 : decode cX3_readSum 117 = .ok (.goto (-103), 3) := by decide +kernel
theorem dX3_readSum_120 : decode cX3_readSum 120 = .ok (.aload_n 0, 1) := by decide +kernel
theorem dX3_readSum_121 : decode cX3_readSum 121 = .ok (.iload_n 1, 1) := by decide +kernel
theorem dX3_readSum_122 : decode cX3_readSum 122 = .ok (.invokevirtual 93, 3) := by decide +kernel
theorem dX3_readSum_125 : decode cX3_readSum 125 = .ok (.iconst 1, 1) := by decide +kernel
theorem dX3_readSum_126 : decode cX3_readSum 126 = .ok (.ireturn, 1) := by decide +kernel
theorem dX3_isReckoning_0 : decode cX3_isReckoning 0 = .ok (.iload_n 0, 1) := by decide +kernel
theorem dX3_isReckoning_1 : decode cX3_isReckoning 1 = .ok (.bipush 43, 2) := by decide +kernel
theorem dX3_isReckoning_3 : decode cX3_isReckoning 3 = .ok (.if_icmp .eq 21, 3) := by decide +kernel
theorem dX3_isReckoning_6 : decode cX3_isReckoning 6 = .ok (.iload_n 0, 1) := by decide +kernel
theorem dX3_isReckoning_7 : decode cX3_isReckoning 7 = .ok (.bipush 45, 2) := by decide +kernel
theorem dX3_isReckoning_9 : decode cX3_isReckoning 9 = .ok (.if_icmp .eq 15, 3) := by decide +kernel
theorem dX3_isReckoning_12 : decode cX3_isReckoning 12 = .ok (.iload_n 0, 1) := by decide +kernel
theorem dX3_isReckoning_13 : decode cX3_isReckoning 13 = .ok (.bipush 42, 2) := by decide +kernel
theorem dX3_isReckoning_15 : decode cX3_isReckoning 15 = .ok (.if_icmp .eq 9, 3) := by decide +kernel
theorem dX3_isReckoning_18 : decode cX3_isReckoning 18 = .ok (.iload_n 0, 1) := by decide +kernel
theorem dX3_isReckoning_19 : decode cX3_isReckoning 19 = .ok (.bipush 47, 2) := by decide +kernel
theorem dX3_isReckoning_21 : decode cX3_isReckoning 21 = .ok (.if_icmp .ne 7, 3) := by decide +kernel
theorem dX3_isReckoning_24 : decode cX3_isReckoning 24 = .ok (.iconst 1, 1) := by decide +kernel
theorem dX3_isReckoning_25 : decode cX3_isReckoning 25 = .ok (.goto 4, 3) := by decide +kernel
theorem dX3_isReckoning_28 : decode cX3_isReckoning 28 = .ok (.iconst 0, 1) := by decide +kernel
theorem dX3_isReckoning_29 : decode cX3_isReckoning 29 = .ok (.ireturn, 1) := by decide +kernel
theorem dX3_addWaiting_0 : decode cX3_addWaiting 0 = .ok (.iload_n 1, 1) := by decide +kernel
theorem dX3_addWaiting_1 : decode cX3_addWaiting 1 = .ok (.iconst (-1), 1) := by decide +kernel
theorem dX3_addWaiting_2 : decode cX3_addWaiting 2 = .ok (.if_icmp .eq 12, 3) := by decide +kernel
theorem dX3_addWaiting_5 : decode cX3_addWaiting 5 = .ok (.aload_n 0, 1) := by decide +kernel
theorem dX3_addWaiting_6 : decode cX3_addWaiting 6 = .ok (.getfield 12, 3) := by decide +kernel
theorem dX3_addWaiting_9 : decode cX3_addWaiting 9 = .ok (.iload_n 1, 1) := by decide +kernel
theorem dX3_addWaiting_10 : decode cX3_addWaiting 10 = .ok (.iconst 0, 1) := by decide +kernel
theorem dX3_addWaiting_11 : decode cX3_addWaiting 11 = .ok (.invokevirtual 82, 3) := by decide +kernel
theorem dX3_addWaiting_14 : decode cX3_addWaiting 14 = .ok (.return_, 1) := by decide +kernel
theorem dX3_readUnit_0 : decode cX3_readUnit 0 = .ok (.aload_n 0, 1) := by decide +kernel
theorem dX3_readUnit_1 : decode cX3_readUnit 1 = .ok (.getfield 18, 3) := by decide +kernel
theorem dX3_readUnit_4 : decode cX3_readUnit 4 = .ok (.invokevirtual 42, 3) := by decide +kernel
theorem dX3_readUnit_7 : decode cX3_readUnit 7 = .ok (.istore_n 2, 1) := by decide +kernel
theorem dX3_readUnit_8 : decode cX3_readUnit 8 = .ok (.aload_n 0, 1) := by decide +kernel
theorem dX3_readUnit_9 : decode cX3_readUnit 9 = .ok (.getfield 18, 3) := by decide +kernel
theorem dX3_readUnit_12 : decode cX3_readUnit 12 = .ok (.invokevirtual 96, 3) := by decide +kernel
theorem dX3_readUnit_15 : decode cX3_readUnit 15 = .ok (.istore_n 3, 1) := by decide +kernel
theorem dX3_readUnit_16 : decode cX3_readUnit 16 = .ok (.iload_n 2, 1) := by decide +kernel
theorem dX3_readUnit_17 : decode cX3_readUnit 17 = .ok (.sipush 256, 3) := by decide +kernel
theorem dX3_readUnit_20 : decode cX3_readUnit 20 = .ok (.if_icmp .ne 34, 3) := by decide +kernel
theorem dX3_readUnit_23 : decode cX3_readUnit 23 = .ok (.iload_n 1, 1) := by decide +kernel
theorem dX3_readUnit_24 : decode cX3_readUnit 24 = .ok (.ifCond .eq 16, 3) := by decide +kernel
theorem dX3_readUnit_27 : decode cX3_readUnit 27 = .ok (.iload_n 3, 1) := by decide +kernel
theorem dX3_readUnit_28 : decode cX3_readUnit 28 = .ok (.ifCond .ne 12, 3) := by decide +kernel
theorem dX3_readUnit_31 : decode cX3_readUnit 31 = .ok (.aload_n 0, 1) := by decide +kernel
theorem dX3_readUnit_32 : decode cX3_readUnit 32 = .ok (.getfield 18, 3) := by decide +kernel
theorem dX3_readUnit_35 : decode cX3_readUnit 35 = .ok (.iconst 2, 1) := by decide +kernel
theorem dX3_readUnit_36 : decode cX3_readUnit 36 = .ok (.invokevirtual 50, 3) := by decide +kernel
theorem dX3_readUnit_39 : decode cX3_readUnit 39 = .ok (.ireturn, 1) := by decide +kernel
theorem dX3_readUnit_40 : decode cX3_readUnit 40 = .ok (.aload_n 0, 1) := by decide +kernel
theorem dX3_readUnit_41 : decode cX3_readUnit 41 = .ok (.getfield 12, 3) := by decide +kernel
theorem dX3_readUnit_44 : decode cX3_readUnit 44 = .ok (.sipush 256, 3) := by decide +kernel
theorem dX3_readUnit_47 : decode cX3_readUnit 47 = .ok (.iload_n 3, 1) := by decide +kernel
theorem dX3_readUnit_48 : decode cX3_readUnit 48 = .ok (.invokevirtual 82, 3) := by decide +kernel
theorem dX3_readUnit_51 : decode cX3_readUnit 51 = .ok (.goto 47, 3) := by decide +kernel
theorem dX3_readUnit_54 : decode cX3_readUnit 54 = .ok (.iload_n 1, 1) := by decide +kernel
theorem dX3_readUnit_55 : decode cX3_readUnit 55 = .ok (.ifCond .ne 34, 3) := by decide +kernel
theorem dX3_readUnit_58 : decode cX3_readUnit 58 = .ok (.iload_n 2, 1) := by decide +kernel
theorem dX3_readUnit_59 : decode cX3_readUnit 59 = .ok (.sipush 300, 3) := by decide +kernel
theorem dX3_readUnit_62 : decode cX3_readUnit 62 = .ok (.sipush 306, 3) := by decide +kernel
theorem dX3_readUnit_65 : decode cX3_readUnit 65 = .ok (.invokestatic 46, 3) := by decide +kernel
theorem dX3_readUnit_68 : decode cX3_readUnit 68 = .ok (.ifCond .eq 21, 3) := by decide +kernel
theorem dX3_readUnit_71 : decode cX3_readUnit 71 = .ok (.aload_n 0, 1) := by decide +kernel
theorem dX3_readUnit_72 : decode cX3_readUnit 72 = .ok (.getfield 12, 3) := by decide +kernel
theorem dX3_readUnit_75 : decode cX3_readUnit 75 = .ok (.sipush 259, 3) := by decide +kernel
theorem dX3_readUnit_78 : decode cX3_readUnit 78 = .ok (.iload_n 2, 1) := by decide +kernel
theorem dX3_readUnit_79 : decode cX3_readUnit 79 = .ok (.sipush 300, 3) := by decide +kernel
theorem dX3_readUnit_82 : decode cX3_readUnit 82 = .ok (.isub, 1) := by decide +kernel
theorem dX3_readUnit_83 : decode cX3_readUnit 83 = .ok (.invokevirtual 82, 3) := by decide +kernel
theorem dX3_readUnit_86 : decode cX3_readUnit 86 = .ok (.goto 12, 3) := by decide +kernel
theorem dX3_readUnit_89 : decode cX3_readUnit 89 = .ok (.aload_n 0, 1) := by decide +kernel
theorem dX3_readUnit_90 : decode cX3_readUnit 90 = .ok (.getfield 18, 3) := by decide +kernel
theorem dX3_readUnit_93 : decode cX3_readUnit 93 = .ok (.iconst 1, 1) := by decide +kernel
theorem dX3_readUnit_94 : decode cX3_readUnit 94 = .ok (.invokevirtual 50, 3) := by decide +kernel
theorem dX3_readUnit_97 : decode cX3_readUnit 97 = .ok (.ireturn, 1) := by decide +kernel
theorem dX3_readUnit_98 : decode cX3_readUnit 98 = .ok (.aload_n 0, 1) := by decide +kernel
theorem dX3_readUnit_99 : decode cX3_readUnit 99 = .ok (.getfield 18, 3) := by decide +kernel
theorem dX3_readUnit_102 : decode cX3_readUnit 102 = .ok (.invokevirtual 57, 3) := by decide +kernel
theorem dX3_readUnit_105 : decode cX3_readUnit 105 = .ok (.iconst 1, 1) := by decide +kernel
theorem dX3_readUnit_106 : decode cX3_readUnit 106 = .ok (.ireturn, 1) := by decide +kernel
theorem dX4_init_0 : decode cX4_init 0 = .ok (.aload_n 0, 1) := by decide +kernel
theorem dX4_init_1 : decode cX4_init 1 = .ok (.invokespecial 3, 3) := by decide +kernel
theorem dX4_init_4 : decode cX4_init 4 = .ok (.aload_n 0, 1) := by decide +kernel
theorem dX4_init_5 : decode cX4_init 5 = .ok (.aload_n 1, 1) := by decide +kernel
theorem dX4_init_6 : decode cX4_init 6 = .ok (.putfield 9, 3) := by decide +kernel
theorem dX4_init_9 : decode cX4_init 9 = .ok (.return_, 1) := by decide +kernel
theorem dX4_read_0 : decode cX4_read 0 = .ok (.aload_n 2, 1) := by decide +kernel
theorem dX4_read_1 : decode cX4_read 1 = .ok (.invokevirtual 15, 3) := by decide +kernel
theorem dX4_read_4 : decode cX4_read 4 = .ok (.pop, 1) := by decide +kernel
theorem dX4_read_5 : decode cX4_read 5 = .ok (.iconst 0, 1) := by decide +kernel
theorem dX4_read_6 : decode cX4_read 6 = .ok (.istore 4, 2) := by decide +kernel
theorem dX4_read_8 : decode cX4_read 8 = .ok (.iload 4, 2) := by decide +kernel
theorem dX4_read_10 : decode cX4_read 10 = .ok (.bipush 12, 2) := by decide +kernel
theorem dX4_read_12 : decode cX4_read 12 = .ok (.if_icmp .gt 31, 3) := by decide +kernel
theorem dX4_read_15 : decode cX4_read 15 = .ok (.aload_n 0, 1) := by decide +kernel
theorem dX4_read_16 : decode cX4_read 16 = .ok (.getfield 9, 3) := by decide +kernel
theorem dX4_read_19 : decode cX4_read 19 = .ok (.invokevirtual 21, 3) := by decide +kernel
theorem dX4_read_22 : decode cX4_read 22 = .ok (.ifCond .ne 21, 3) := by decide +kernel
theorem dX4_read_25 : decode cX4_read 25 = .ok (.aload_n 0, 1) := by decide +kernel
theorem dX4_read_26 : decode cX4_read 26 = .ok (.iload_n 1, 1) := by decide +kernel
theorem dX4_read_27 : decode cX4_read 27 = .ok (.aload_n 2, 1) := by decide +kernel
theorem dX4_read_28 : decode cX4_read 28 = .ok (.iload_n 3, 1) := by decide +kernel
theorem dX4_read_29 : decode cX4_read 29 = .ok (.invokevirtual 27, 3) := by decide +kernel
theorem dX4_read_32 : decode cX4_read 32 = .ok (.ifCond .ne 5, 3) := by decide +kernel
theorem dX4_read_35 : decode cX4_read 35 = .ok (.iconst 0, 1) := by decide +kernel
theorem dX4_read_36 : decode cX4_read 36 = .ok (.ireturn, 1) := by decide +kernel
theorem dX4_read_37 : decode cX4_read 37 = .ok (.iinc 4 1, 3) := by decide +kernel
theorem dX4_read_40 : decode cX4_read 40 = .ok (.goto (-32), 3) := by decide +kernel
theorem dX4_read_43 : decode cX4_read 43 = .ok (.iconst 1, 1) := by decide +kernel
theorem dX4_read_44 : decode cX4_read 44 = .ok (.ireturn, 1) := by decide +kernel
theorem dX4_readLine_0 : decode cX4_readLine 0 = .ok (.iload_n 1, 1) := by decide +kernel
theorem dX4_readLine_1 : decode cX4_readLine 1 = .ok (.tableswitch 51 0 3 #[31, 51, 37, 44], 31) := by decide +kernel
theorem dX4_readLine_32 : decode cX4_readLine 32 = .ok (.aload_n 0, 1) := by decide +kernel
theorem dX4_readLine_33 : decode cX4_readLine 33 = .ok (.aload_n 2, 1) := by decide +kernel
theorem dX4_readLine_34 : decode cX4_readLine 34 = .ok (.invokevirtual 31, 3) := by decide +kernel
theorem dX4_readLine_37 : decode cX4_readLine 37 = .ok (.ireturn, 1) := by decide +kernel
theorem dX4_readLine_38 : decode cX4_readLine 38 = .ok (.aload_n 0, 1) := by decide +kernel
theorem dX4_readLine_39 : decode cX4_readLine 39 = .ok (.aload_n 2, 1) := by decide +kernel
theorem dX4_readLine_40 : decode cX4_readLine 40 = .ok (.iload_n 3, 1) := by decide +kernel
theorem dX4_readLine_41 : decode cX4_readLine 41 = .ok (.invokevirtual 35, 3) := by decide +kernel
theorem dX4_readLine_44 : decode cX4_readLine 44 = .ok (.ireturn, 1) := by decide +kernel
theorem dX4_readLine_45 : decode cX4_readLine 45 = .ok (.aload_n 0, 1) := by decide +kernel
theorem dX4_readLine_46 : decode cX4_readLine 46 = .ok (.aload_n 2, 1) := by decide +kernel
theorem dX4_readLine_47 : decode cX4_readLine 47 = .ok (.iload_n 3, 1) := by decide +kernel
theorem dX4_readLine_48 : decode cX4_readLine 48 = .ok (.invokevirtual 39, 3) := by decide +kernel
theorem dX4_readLine_51 : decode cX4_readLine 51 = .ok (.ireturn, 1) := by decide +kernel
theorem dX4_readLine_52 : decode cX4_readLine 52 = .ok (.aload_n 0, 1) := by decide +kernel
theorem dX4_readLine_53 : decode cX4_readLine 53 = .ok (.aload_n 2, 1) := by decide +kernel
theorem dX4_readLine_54 : decode cX4_readLine 54 = .ok (.iload_n 3, 1) := by decide +kernel
theorem dX4_readLine_55 : decode cX4_readLine 55 = .ok (.invokevirtual 42, 3) := by decide +kernel
theorem dX4_readLine_58 : decode cX4_readLine 58 = .ok (.ireturn, 1) := by decide +kernel
theorem dX4_readKind_0 : decode cX4_readKind 0 = .ok (.aload_n 0, 1) := by decide +kernel
theorem dX4_readKind_1 : decode cX4_readKind 1 = .ok (.sipush 300, 3) := by decide +kernel
theorem dX4_readKind_4 : decode cX4_readKind 4 = .ok (.aload_n 1, 1) := by decide +kernel
theorem dX4_readKind_5 : decode cX4_readKind 5 = .ok (.invokevirtual 45, 3) := by decide +kernel
theorem dX4_readKind_8 : decode cX4_readKind 8 = .ok (.ifCond .eq 56, 3) := by decide +kernel
theorem dX4_readKind_11 : decode cX4_readKind 11 = .ok (.aload_n 0, 1) := by decide +kernel
theorem dX4_readKind_12 : decode cX4_readKind 12 = .ok (.aload_n 1, 1) := by decide +kernel
theorem dX4_readKind_13 : decode cX4_readKind 13 = .ok (.iconst 0, 1) := by decide +kernel
theorem dX4_readKind_14 : decode cX4_readKind 14 = .ok (.iconst 1, 1) := by decide +kernel
theorem dX4_readKind_15 : decode cX4_readKind 15 = .ok (.bipush 99, 2) := by decide +kernel
theorem dX4_readKind_17 : decode cX4_readKind 17 = .ok (.invokevirtual 49, 3) := by decide +kernel
theorem dX4_readKind_20 : decode cX4_readKind 20 = .ok (.ifCond .eq 44, 3) := by decide +kernel
theorem dX4_readKind_23 : decode cX4_readKind 23 = .ok (.aload_n 0, 1) := by decide +kernel
theorem dX4_readKind_24 : decode cX4_readKind 24 = .ok (.getfield 9, 3) := by decide +kernel
theorem dX4_readKind_27 : decode cX4_readKind 27 = .ok (.sipush 315, 3) := by decide +kernel
theorem dX4_readKind_30 : decode cX4_readKind 30 = .ok (.invokevirtual 53, 3) := by decide +kernel
theorem dX4_readKind_33 : decode cX4_readKind 33 = .ok (.ifCond .eq 31, 3) := by decide +kernel
theorem dX4_readKind_36 : decode cX4_readKind 36 = .ok (.aload_n 0, 1) := by decide +kernel
theorem dX4_readKind_37 : decode cX4_readKind 37 = .ok (.aload_n 1, 1) := by decide +kernel
theorem dX4_readKind_38 : decode cX4_readKind 38 = .ok (.iconst 1, 1) := by decide +kernel
theorem dX4_readKind_39 : decode cX4_readKind 39 = .ok (.iconst 1, 1) := by decide +kernel
theorem dX4_readKind_40 : decode cX4_readKind 40 = .ok (.bipush 30, 2) := by decide +kernel
theorem dX4_readKind_42 : decode cX4_readKind 42 = .ok (.invokevirtual 49, 3) := by decide +kernel
theorem dX4_readKind_45 : decode cX4_readKind 45 = .ok (.ifCond .eq 19, 3) := by decide +kernel
theorem dX4_readKind_48 : decode cX4_readKind 48 = .ok (.aload_n 0, 1) := by decide +kernel
theorem dX4_readKind_49 : decode cX4_readKind 49 = .ok (.getfield 9, 3) := by decide +kernel
theorem dX4_readKind_52 : decode cX4_readKind 52 = .ok (.bipush 59, 2) := by decide +kernel
theorem dX4_readKind_54 : decode cX4_readKind 54 = .ok (.invokevirtual 53, 3) := by decide +kernel
theorem dX4_readKind_57 : decode cX4_readKind 57 = .ok (.ifCond .eq 7, 3) := by decide +kernel
theorem dX4_readKind_60 : decode cX4_readKind 60 = .ok (.iconst 1, 1) := by decide +kernel
theorem dX4_readKind_61 : decode cX4_readKind 61 = .ok (.goto 4, 3) := by decide +kernel
theorem dX4_readKind_64 : decode cX4_readKind 64 = .ok (.iconst 0, 1) := by decide +kernel
theorem dX4_readKind_65 : decode cX4_readKind 65 = .ok (.ireturn, 1) := by decide +kernel
theorem dX4_readFeast_0 : decode cX4_readFeast 0 = .ok (.aload_n 0, 1) := by decide +kernel
theorem dX4_readFeast_1 : decode cX4_readFeast 1 = .ok (.sipush 316, 3) := by decide +kernel
theorem dX4_readFeast_4 : decode cX4_readFeast 4 = .ok (.aload_n 1, 1) := by decide +kernel
theorem dX4_readFeast_5 : decode cX4_readFeast 5 = .ok (.invokevirtual 45, 3) := by decide +kernel
theorem dX4_readFeast_8 : decode cX4_readFeast 8 = .ok (.ifCond .eq 83, 3) := by decide +kernel
theorem dX4_readFeast_11 : decode cX4_readFeast 11 = .ok (.aload_n 0, 1) := by decide +kernel
theorem dX4_readFeast_12 : decode cX4_readFeast 12 = .ok (.aload_n 1, 1) := by decide +kernel
theorem dX4_readFeast_13 : decode cX4_readFeast 13 = .ok (.iconst 0, 1) := by decide +kernel
theorem dX4_readFeast_14 : decode cX4_readFeast 14 = .ok (.iconst 0, 1) := by decide +kernel
theorem dX4_readFeast_15 : decode cX4_readFeast 15 = .ok (.sipush 999, 3) := by decide +kernel
theorem dX4_readFeast_18 : decode cX4_readFeast 18 = .ok (.invokevirtual 49, 3) := by decide +kernel
theorem dX4_readFeast_21 : decode cX4_readFeast 21 = .ok (.ifCond .eq 70, 3) := by decide +kernel
theorem dX4_readFeast_24 : decode cX4_readFeast 24 = .ok (.aload_n 0, 1) := by decide +kernel
theorem dX4_readFeast_25 : decode cX4_readFeast 25 = .ok (.getfield 9, 3) := by decide +kernel
theorem dX4_readFeast_28 : decode cX4_readFeast 28 = .ok (.sipush 317, 3) := by decide +kernel
theorem dX4_readFeast_31 : decode cX4_readFeast 31 = .ok (.invokevirtual 53, 3) := by decide +kernel
theorem dX4_readFeast_34 : decode cX4_readFeast 34 = .ok (.ifCond .eq 57, 3) := by decide +kernel
theorem dX4_readFeast_37 : decode cX4_readFeast 37 = .ok (.aload_n 0, 1) := by decide +kernel
theorem dX4_readFeast_38 : decode cX4_readFeast 38 = .ok (.aload_n 1, 1) := by decide +kernel
theorem dX4_readFeast_39 : decode cX4_readFeast 39 = .ok (.iconst 1, 1) := by decide +kernel
theorem dX4_readFeast_40 : decode cX4_readFeast 40 = .ok (.iconst 0, 1) := by decide +kernel
theorem dX4_readFeast_41 : decode cX4_readFeast 41 = .ok (.iload_n 2, 1) := by decide +kernel
theorem dX4_readFeast_42 : decode cX4_readFeast 42 = .ok (.iconst 1, 1) := by decide +kernel
theorem dX4_readFeast_43 : decode cX4_readFeast 43 = .ok (.isub, 1) := by decide +kernel
theorem dX4_readFeast_44 : decode cX4_readFeast 44 = .ok (.invokevirtual 49, 3) := by decide +kernel
theorem dX4_readFeast_47 : decode cX4_readFeast 47 = .ok (.ifCond .eq 44, 3) := by decide +kernel
theorem dX4_readFeast_50 : decode cX4_readFeast 50 = .ok (.aload_n 0, 1) := by decide +kernel
theorem dX4_readFeast_51 : decode cX4_readFeast 51 = .ok (.getfield 9, 3) := by decide +kernel
theorem dX4_readFeast_54 : decode cX4_readFeast 54 = .ok (.sipush 318, 3) := by decide +kernel
theorem dX4_readFeast_57 : decode cX4_readFeast 57 = .ok (.invokevirtual 53, 3) := by decide +kernel
theorem dX4_readFeast_60 : decode cX4_readFeast 60 = .ok (.ifCond .eq 31, 3) := by decide +kernel
theorem dX4_readFeast_63 : decode cX4_readFeast 63 = .ok (.aload_n 0, 1) := by decide +kernel
theorem dX4_readFeast_64 : decode cX4_readFeast 64 = .ok (.aload_n 1, 1) := by decide +kernel
theorem dX4_readFeast_65 : decode cX4_readFeast 65 = .ok (.iconst 2, 1) := by decide +kernel
theorem dX4_readFeast_66 : decode cX4_readFeast 66 = .ok (.iconst 1, 1) := by decide +kernel
theorem dX4_readFeast_67 : decode cX4_readFeast 67 = .ok (.bipush 20, 2) := by decide +kernel
theorem dX4_readFeast_69 : decode cX4_readFeast 69 = .ok (.invokevirtual 49, 3) := by decide +kernel
theorem dX4_readFeast_72 : decode cX4_readFeast 72 = .ok (.ifCond .eq 19, 3) := by decide +kernel
theorem dX4_readFeast_75 : decode cX4_readFeast 75 = .ok (.aload_n 0, 1) := by decide +kernel
theorem dX4_readFeast_76 : decode cX4_readFeast 76 = .ok (.getfield 9, 3) := by decide +kernel
theorem dX4_readFeast_79 : decode cX4_readFeast 79 = .ok (.bipush 59, 2) := by decide +kernel
theorem dX4_readFeast_81 : decode cX4_readFeast 81 = .ok (.invokevirtual 53, 3) := by decide +kernel
theorem dX4_readFeast_84 : decode cX4_readFeast 84 = .ok (.ifCond .eq 7, 3) := by decide +kernel
theorem dX4_readFeast_87 : decode cX4_readFeast 87 = .ok (.iconst 1, 1) := by decide +kernel
theorem dX4_readFeast_88 : decode cX4_readFeast 88 = .ok (.goto 4, 3) := by decide +kernel
theorem dX4_readFeast_91 : decode cX4_readFeast 91 = .ok (.iconst 0, 1) := by decide +kernel
theorem dX4_readFeast_92 : decode cX4_readFeast 92 = .ok (.ireturn, 1) := by decide +kernel
theorem dX4_readWant_0 : decode cX4_readWant 0 = .ok (.aload_n 0, 1) := by decide +kernel
theorem dX4_readWant_1 : decode cX4_readWant 1 = .ok (.sipush 319, 3) := by decide +kernel
theorem dX4_readWant_4 : decode cX4_readWant 4 = .ok (.aload_n 1, 1) := by decide +kernel
theorem dX4_readWant_5 : decode cX4_readWant 5 = .ok (.invokevirtual 45, 3) := by decide +kernel
theorem dX4_readWant_8 : decode cX4_readWant 8 = .ok (.ifCond .eq 96, 3) := by decide +kernel
theorem dX4_readWant_11 : decode cX4_readWant 11 = .ok (.aload_n 0, 1) := by decide +kernel
theorem dX4_readWant_12 : decode cX4_readWant 12 = .ok (.aload_n 1, 1) := by decide +kernel
theorem dX4_readWant_13 : decode cX4_readWant 13 = .ok (.iconst 0, 1) := by decide +kernel
theorem dX4_readWant_14 : decode cX4_readWant 14 = .ok (.iconst 0, 1) := by decide +kernel
theorem dX4_readWant_15 : decode cX4_readWant 15 = .ok (.iload_n 2, 1) := by decide +kernel
theorem dX4_readWant_16 : decode cX4_readWant 16 = .ok (.iconst 1, 1) := by decide +kernel
theorem dX4_readWant_17 : decode cX4_readWant 17 = .ok (.isub, 1) := by decide +kernel
theorem dX4_readWant_18 : decode cX4_readWant 18 = .ok (.invokevirtual 49, 3) := by decide +kernel
theorem dX4_readWant_21 : decode cX4_readWant 21 = .ok (.ifCond .eq 83, 3) := by decide +kernel
theorem dX4_readWant_24 : decode cX4_readWant 24 = .ok (.aload_n 0, 1) := by decide +kernel
theorem dX4_readWant_25 : decode cX4_readWant 25 = .ok (.aload_n 1, 1) := by decide +kernel
theorem dX4_readWant_26 : decode cX4_readWant 26 = .ok (.iconst 1, 1) := by decide +kernel
theorem dX4_readWant_27 : decode cX4_readWant 27 = .ok (.iconst 1, 1) := by decide +kernel
theorem dX4_readWant_28 : decode cX4_readWant 28 = .ok (.bipush 99, 2) := by decide +kernel
theorem dX4_readWant_30 : decode cX4_readWant 30 = .ok (.invokevirtual 49, 3) := by decide +kernel
theorem dX4_readWant_33 : decode cX4_readWant 33 = .ok (.ifCond .eq 71, 3) := by decide +kernel
theorem dX4_readWant_36 : decode cX4_readWant 36 = .ok (.aload_n 0, 1) := by decide +kernel
theorem dX4_readWant_37 : decode cX4_readWant 37 = .ok (.getfield 9, 3) := by decide +kernel
theorem dX4_readWant_40 : decode cX4_readWant 40 = .ok (.sipush 320, 3) := by decide +kernel
theorem dX4_readWant_43 : decode cX4_readWant 43 = .ok (.invokevirtual 53, 3) := by decide +kernel
theorem dX4_readWant_46 : decode cX4_readWant 46 = .ok (.ifCond .eq 58, 3) := by decide +kernel
theorem dX4_readWant_49 : decode cX4_readWant 49 = .ok (.aload_n 0, 1) := by decide +kernel
theorem dX4_readWant_50 : decode cX4_readWant 50 = .ok (.aload_n 1, 1) := by decide +kernel
theorem dX4_readWant_51 : decode cX4_readWant 51 = .ok (.iconst 2, 1) := by decide +kernel
theorem dX4_readWant_52 : decode cX4_readWant 52 = .ok (.iconst 0, 1) := by decide +kernel
theorem dX4_readWant_53 : decode cX4_readWant 53 = .ok (.sipush 999, 3) := by decide +kernel
theorem dX4_readWant_56 : decode cX4_readWant 56 = .ok (.invokevirtual 49, 3) := by decide +kernel
theorem dX4_readWant_59 : decode cX4_readWant 59 = .ok (.ifCond .eq 45, 3) := by decide +kernel
theorem dX4_readWant_62 : decode cX4_readWant 62 = .ok (.aload_n 0, 1) := by decide +kernel
theorem dX4_readWant_63 : decode cX4_readWant 63 = .ok (.getfield 9, 3) := by decide +kernel
theorem dX4_readWant_66 : decode cX4_readWant 66 = .ok (.sipush 321, 3) := by decide +kernel
theorem dX4_readWant_69 : decode cX4_readWant 69 = .ok (.invokevirtual 53, 3) := by decide +kernel
theorem dX4_readWant_72 : decode cX4_readWant 72 = .ok (.ifCond .eq 32, 3) := by decide +kernel
theorem dX4_readWant_75 : decode cX4_readWant 75 = .ok (.aload_n 0, 1) := by decide +kernel
theorem dX4_readWant_76 : decode cX4_readWant 76 = .ok (.aload_n 1, 1) := by decide +kernel
theorem dX4_readWant_77 : decode cX4_readWant 77 = .ok (.iconst 3, 1) := by decide +kernel
theorem dX4_readWant_78 : decode cX4_readWant 78 = .ok (.iconst 0, 1) := by decide +kernel
theorem dX4_readWant_79 : decode cX4_readWant 79 = .ok (.sipush 999, 3) := by decide +kernel
theorem dX4_readWant_82 : decode cX4_readWant 82 = .ok (.invokevirtual 49, 3) := by decide +kernel
theorem dX4_readWant_85 : decode cX4_readWant 85 = .ok (.ifCond .eq 19, 3) := by decide +kernel
theorem dX4_readWant_88 : decode cX4_readWant 88 = .ok (.aload_n 0, 1) := by decide +kernel
theorem dX4_readWant_89 : decode cX4_readWant 89 = .ok (.getfield 9, 3) := by decide +kernel
theorem dX4_readWant_92 : decode cX4_readWant 92 = .ok (.bipush 59, 2) := by decide +kernel
theorem dX4_readWant_94 : decode cX4_readWant 94 = .ok (.invokevirtual 53, 3) := by decide +kernel
theorem dX4_readWant_97 : decode cX4_readWant 97 = .ok (.ifCond .eq 7, 3) := by decide +kernel
theorem dX4_readWant_100 : decode cX4_readWant 100 = .ok (.iconst 1, 1) := by decide +kernel
theorem dX4_readWant_101 : decode cX4_readWant 101 = .ok (.goto 4, 3) := by decide +kernel
theorem dX4_readWant_104 : decode cX4_readWant 104 = .ok (.iconst 0, 1) := by decide +kernel
theorem dX4_readWant_105 : decode cX4_readWant 105 = .ok (.ireturn, 1) := by decide +kernel
theorem dX4_readDish_0 : decode cX4_readDish 0 = .ok (.aload_n 0, 1) := by decide +kernel
theorem dX4_readDish_1 : decode cX4_readDish 1 = .ok (.sipush 322, 3) := by decide +kernel
theorem dX4_readDish_4 : decode cX4_readDish 4 = .ok (.aload_n 1, 1) := by decide +kernel
theorem dX4_readDish_5 : decode cX4_readDish 5 = .ok (.invokevirtual 45, 3) := by decide +kernel
theorem dX4_readDish_8 : decode cX4_readDish 8 = .ok (.ifCond .eq 40, 3) := by decide +kernel
theorem dX4_readDish_11 : decode cX4_readDish 11 = .ok (.aload_n 0, 1) := by decide +kernel
theorem dX4_readDish_12 : decode cX4_readDish 12 = .ok (.aload_n 1, 1) := by decide +kernel
theorem dX4_readDish_13 : decode cX4_readDish 13 = .ok (.iconst 0, 1) := by decide +kernel
theorem dX4_readDish_14 : decode cX4_readDish 14 = .ok (.iconst 1, 1) := by decide +kernel
theorem dX4_readDish_15 : decode cX4_readDish 15 = .ok (.bipush 99, 2) := by decide +kernel
theorem dX4_readDish_17 : decode cX4_readDish 17 = .ok (.invokevirtual 49, 3) := by decide +kernel
theorem dX4_readDish_20 : decode cX4_readDish 20 = .ok (.ifCond .eq 28, 3) := by decide +kernel
theorem dX4_readDish_23 : decode cX4_readDish 23 = .ok (.aload_n 0, 1) := by decide +kernel
theorem dX4_readDish_24 : decode cX4_readDish 24 = .ok (.aload_n 1, 1) := by decide +kernel
theorem dX4_readDish_25 : decode cX4_readDish 25 = .ok (.iload_n 2, 1) := by decide +kernel
theorem dX4_readDish_26 : decode cX4_readDish 26 = .ok (.invokevirtual 57, 3) := by decide +kernel
theorem dX4_readDish_29 : decode cX4_readDish 29 = .ok (.ifCond .eq 19, 3) := by decide +kernel
theorem dX4_readDish_32 : decode cX4_readDish 32 = .ok (.aload_n 0, 1) := by decide +kernel
theorem dX4_readDish_33 : decode cX4_readDish 33 = .ok (.getfield 9, 3) := by decide +kernel
theorem dX4_readDish_36 : decode cX4_readDish 36 = .ok (.bipush 59, 2) := by decide +kernel
theorem dX4_readDish_38 : decode cX4_readDish 38 = .ok (.invokevirtual 53, 3) := by decide +kernel
theorem dX4_readDish_41 : decode cX4_readDish 41 = .ok (.ifCond .eq 7, 3) := by decide +kernel
theorem dX4_readDish_44 : decode cX4_readDish 44 = .ok (.iconst 1, 1) := by decide +kernel
theorem dX4_readDish_45 : decode cX4_readDish 45 = .ok (.goto 4, 3) := by decide +kernel
theorem dX4_readDish_48 : decode cX4_readDish 48 = .ok (.iconst 0, 1) := by decide +kernel
theorem dX4_readDish_49 : decode cX4_readDish 49 = .ok (.ireturn, 1) := by decide +kernel
theorem dX4_readParts_0 : decode cX4_readParts 0 = .ok (.aload_n 1, 1) := by decide +kernel
theorem dX4_readParts_1 : decode cX4_readParts 1 = .ok (.getfield 60, 3) := by decide +kernel
theorem dX4_readParts_4 : decode cX4_readParts 4 = .ok (.iconst 1, 1) := by decide +kernel
theorem dX4_readParts_5 : decode cX4_readParts 5 = .ok (.isub, 1) := by decide +kernel
theorem dX4_readParts_6 : decode cX4_readParts 6 = .ok (.istore_n 3, 1) := by decide +kernel
theorem dX4_readParts_7 : decode cX4_readParts 7 = .ok (.iconst 0, 1) := by decide +kernel
theorem dX4_readParts_8 : decode cX4_readParts 8 = .ok (.istore 4, 2) := by decide +kernel
theorem dX4_readParts_10 : decode cX4_readParts 10 = .ok (.iload 4, 2) := by decide +kernel
theorem dX4_readParts_12 : decode cX4_readParts 12 = .ok (.iconst 4, 1) := by decide +kernel
theorem dX4_readParts_13 : decode cX4_readParts 13 = .ok (.if_icmp .gt 97, 3) := by decide +kernel
theorem dX4_readParts_16 : decode cX4_readParts 16 = .ok (.aload_n 0, 1) := by decide +kernel
theorem dX4_readParts_17 : decode cX4_readParts 17 = .ok (.getfield 9, 3) := by decide +kernel
theorem dX4_readParts_20 : decode cX4_readParts 20 = .ok (.invokevirtual 64, 3) := by decide +kernel
theorem dX4_readParts_23 : decode cX4_readParts 23 = .ok (.sipush 256, 3) := by decide +kernel
theorem dX4_readParts_26 : decode cX4_readParts 26 = .ok (.if_icmp .ne 84, 3) := by decide +kernel
theorem dX4_readParts_29 : decode cX4_readParts 29 = .ok (.aload_n 0, 1) := by decide +kernel
theorem dX4_readParts_30 : decode cX4_readParts 30 = .ok (.getfield 9, 3) := by decide +kernel
theorem dX4_readParts_33 : decode cX4_readParts 33 = .ok (.invokevirtual 67, 3) := by decide +kernel
theorem dX4_readParts_36 : decode cX4_readParts 36 = .ok (.istore 5, 2) := by decide +kernel
theorem dX4_readParts_38 : decode cX4_readParts 38 = .ok (.iload 5, 2) := by decide +kernel
theorem dX4_readParts_40 : decode cX4_readParts 40 = .ok (.iload_n 2, 1) := by decide +kernel
theorem dX4_readParts_41 : decode cX4_readParts 41 = .ok (.if_icmp .ge 15, 3) := by decide +kernel
theorem dX4_readParts_44 : decode cX4_readParts 44 = .ok (.aload_n 1, 1) := by decide +kernel
theorem dX4_readParts_45 : decode cX4_readParts 45 = .ok (.iload_n 3, 1) := by decide +kernel
theorem dX4_readParts_46 : decode cX4_readParts 46 = .ok (.iconst 1, 1) := by decide +kernel
theorem dX4_readParts_47 : decode cX4_readParts 47 = .ok (.iload 5, 2) := by decide +kernel
theorem dX4_readParts_49 : decode cX4_readParts 49 = .ok (.iadd, 1) := by decide +kernel
theorem dX4_readParts_50 : decode cX4_readParts 50 = .ok (.invokevirtual 70, 3) := by decide +kernel
theorem dX4_readParts_53 : decode cX4_readParts 53 = .ok (.ifCond .le 12, 3) := by decide +kernel
theorem dX4_readParts_56 : decode cX4_readParts 56 = .ok (.aload_n 0, 1) := by decide +kernel
theorem dX4_readParts_57 : decode cX4_readParts 57 = .ok (.getfield 9, 3) := by decide +kernel
theorem dX4_readParts_60 : decode cX4_readParts 60 = .ok (.iconst 2, 1) := by decide +kernel
theorem dX4_readParts_61 : decode cX4_readParts 61 = .ok (.invokevirtual 74, 3) := by decide +kernel
theorem dX4_readParts_64 : decode cX4_readParts 64 = .ok (.ireturn, 1) := by decide +kernel
theorem dX4_readParts_65 : decode cX4_readParts 65 = .ok (.iload 4, 2) := by decide +kernel
theorem dX4_readParts_67 : decode cX4_readParts 67 = .ok (.iconst 4, 1) := by decide +kernel
theorem dX4_readParts_68 : decode cX4_readParts 68 = .ok (.if_icmp .ne 12, 3) := by decide +kernel
theorem dX4_readParts_71 : decode cX4_readParts 71 = .ok (.aload_n 0, 1) := by decide +kernel
theorem dX4_readParts_72 : decode cX4_readParts 72 = .ok (.getfield 9, 3) := by decide +kernel
theorem dX4_readParts_75 : decode cX4_readParts 75 = .ok (.iconst 3, 1) := by decide +kernel
theorem dX4_readParts_76 : decode cX4_readParts 76 = .ok (.invokevirtual 74, 3) := by decide +kernel
theorem dX4_readParts_79 : decode cX4_readParts 79 = .ok (.ireturn, 1) := by decide +kernel
theorem dX4_readParts_80 : decode cX4_readParts 80 = .ok (.aload_n 0, 1) := by decide +kernel
theorem dX4_readParts_81 : decode cX4_readParts 81 = .ok (.getfield 9, 3) := by decide +kernel
theorem dX4_readParts_84 : decode cX4_readParts 84 = .ok (.invokevirtual 77, 3) := by decide +kernel
theorem dX4_readParts_87 : decode cX4_readParts 87 = .ok (.aload_n 0, 1) := by decide +kernel
theorem dX4_readParts_88 : decode cX4_readParts 88 = .ok (.aload_n 1, 1) := by decide +kernel
theorem dX4_readParts_89 : decode cX4_readParts 89 = .ok (.iconst 1, 1) := by decide +kernel
theorem dX4_readParts_90 : decode cX4_readParts 90 = .ok (.iload 5, 2) := by decide +kernel
theorem dX4_readParts_92 : decode cX4_readParts 92 = .ok (.iadd, 1) := by decide +kernel
theorem dX4_readParts_93 : decode cX4_readParts 93 = .ok (.iconst 1, 1) := by decide +kernel
theorem dX4_readParts_94 : decode cX4_readParts 94 = .ok (.bipush 99, 2) := by decide +kernel
theorem dX4_readParts_96 : decode cX4_readParts 96 = .ok (.invokevirtual 49, 3) := by decide +kernel
theorem dX4_readParts_99 : decode cX4_readParts 99 = .ok (.ifCond .ne 5, 3) := by decide +kernel
theorem dX4_readParts_102 : decode cX4_readParts 102 = .ok (.iconst 0, 1) := by decide +kernel
theorem dX4_readParts_103 : decode cX4_readParts 103 = .ok (.ireturn, 1) := by decide +kernel
theorem dX4_readParts_104 : decode cX4_readParts 104 = .ok (.iinc 4 1, 3) := by decide +kernel
theorem dX4_readParts_107 : decode cX4_readParts 107 = .ok (.goto (-97), 3) := by decide +kernel
theorem dX4_readParts_110 : decode cX4_readParts 110 = .ok (.iconst 1, 1) := by decide +kernel
theorem dX4_readParts_111 : decode cX4_readParts 111 = .ok (.ireturn, 1) := by decide +kernel
theorem dX4_begins_0 : decode cX4_begins 0 = .ok (.aload_n 0, 1) := by decide +kernel
theorem dX4_begins_1 : decode cX4_begins 1 = .ok (.getfield 9, 3) := by decide +kernel
theorem dX4_begins_4 : decode cX4_begins 4 = .ok (.invokevirtual 64, 3) := by decide +kernel
theorem dX4_begins_7 : decode cX4_begins 7 = .ok (.iload_n 1, 1) := by decide +kernel
theorem dX4_begins_8 : decode cX4_begins 8 = .ok (.if_icmp .eq 12, 3) := by decide +kernel
theorem dX4_begins_11 : decode cX4_begins 11 = .ok (.aload_n 0, 1) := by decide +kernel
theorem dX4_begins_12 : decode cX4_begins 12 = .ok (.getfield 9, 3) := by decide +kernel
theorem dX4_begins_15 : decode cX4_begins 15 = .ok (.iconst 1, 1) := by decide +kernel
theorem dX4_begins_16 : decode cX4_begins 16 = .ok (.invokevirtual 74, 3) := by decide +kernel
theorem dX4_begins_19 : decode cX4_begins 19 = .ok (.ireturn, 1) := by decide +kernel
theorem dX4_begins_20 : decode cX4_begins 20 = .ok (.aload_n 2, 1) := by decide +kernel
theorem dX4_begins_21 : decode cX4_begins 21 = .ok (.invokevirtual 80, 3) := by decide +kernel
theorem dX4_begins_24 : decode cX4_begins 24 = .ok (.iconst (-1), 1) := by decide +kernel
theorem dX4_begins_25 : decode cX4_begins 25 = .ok (.if_icmp .ne 12, 3) := by decide +kernel
theorem dX4_begins_28 : decode cX4_begins 28 = .ok (.aload_n 0, 1) := by decide +kernel
theorem dX4_begins_29 : decode cX4_begins 29 = .ok (.getfield 9, 3) := by decide +kernel
theorem dX4_begins_32 : decode cX4_begins 32 = .ok (.iconst 3, 1) := by decide +kernel
theorem dX4_begins_33 : decode cX4_begins 33 = .ok (.invokevirtual 74, 3) := by decide +kernel
theorem dX4_begins_36 : decode cX4_begins 36 = .ok (.ireturn, 1) := by decide +kernel
theorem dX4_begins_37 : decode cX4_begins 37 = .ok (.aload_n 0, 1) := by decide +kernel
theorem dX4_begins_38 : decode cX4_begins 38 = .ok (.getfield 9, 3) := by decide +kernel
theorem dX4_begins_41 : decode cX4_begins 41 = .ok (.invokevirtual 77, 3) := by decide +kernel
theorem dX4_begins_44 : decode cX4_begins 44 = .ok (.iconst 1, 1) := by decide +kernel
theorem dX4_begins_45 : decode cX4_begins 45 = .ok (.ireturn, 1) := by decide +kernel
theorem dX4_takesNumber_0 : decode cX4_takesNumber 0 = .ok (.aload_n 0, 1) := by decide +kernel
theorem dX4_takesNumber_1 : decode cX4_takesNumber 1 = .ok (.getfield 9, 3) := by decide +kernel
theorem dX4_takesNumber_4 : decode cX4_takesNumber 4 = .ok (.invokevirtual 64, 3) := by decide +kernel
theorem dX4_takesNumber_7 : decode cX4_takesNumber 7 = .ok (.sipush 256, 3) := by decide +kernel
theorem dX4_takesNumber_10 : decode cX4_takesNumber 10 = .ok (.if_icmp .eq 12, 3) := by decide +kernel
theorem dX4_takesNumber_13 : decode cX4_takesNumber 13 = .ok (.aload_n 0, 1) := by decide +kernel
theorem dX4_takesNumber_14 : decode cX4_takesNumber 14 = .ok (.getfield 9, 3) := by decide +kernel
theorem dX4_takesNumber_17 : decode cX4_takesNumber 17 = .ok (.iconst 1, 1) := by decide +kernel
theorem dX4_takesNumber_18 : decode cX4_takesNumber 18 = .ok (.invokevirtual 74, 3) := by decide +kernel
theorem dX4_takesNumber_21 : decode cX4_takesNumber 21 = .ok (.ireturn, 1) := by decide +kernel
theorem dX4_takesNumber_22 : decode cX4_takesNumber 22 = .ok (.aload_n 0, 1) := by decide +kernel
theorem dX4_takesNumber_23 : decode cX4_takesNumber 23 = .ok (.getfield 9, 3) := by decide +kernel
theorem dX4_takesNumber_26 : decode cX4_takesNumber 26 = .ok (.invokevirtual 67, 3) := by decide +kernel
theorem dX4_takesNumber_29 : decode cX4_takesNumber 29 = .ok (.iload_n 3, 1) := by decide +kernel
theorem dX4_takesNumber_30 : decode cX4_takesNumber 30 = .ok (.iload 4, 2) := by decide +kernel
theorem dX4_takesNumber_32 : decode cX4_takesNumber 32 = .ok (.invokestatic 83, 3) := by decide +kernel
theorem dX4_takesNumber_35 : decode cX4_takesNumber 35 = .ok (.ifCond .ne 12, 3) := by decide +kernel
theorem dX4_takesNumber_38 : decode cX4_takesNumber 38 = .ok (.aload_n 0, 1) := by decide +kernel
theorem dX4_takesNumber_39 : decode cX4_takesNumber 39 = .ok (.getfield 9, 3) := by decide +kernel
theorem dX4_takesNumber_42 : decode cX4_takesNumber 42 = .ok (.iconst 2, 1) := by decide +kernel
theorem dX4_takesNumber_43 : decode cX4_takesNumber 43 = .ok (.invokevirtual 74, 3) := by decide +kernel
theorem dX4_takesNumber_46 : decode cX4_takesNumber 46 = .ok (.ireturn, 1) := by decide +kernel
theorem dX4_takesNumber_47 : decode cX4_takesNumber 47 = .ok (.aload_n 1, 1) := by decide +kernel
theorem dX4_takesNumber_48 : decode cX4_takesNumber 48 = .ok (.aload_n 1, 1) := by decide +kernel
theorem dX4_takesNumber_49 : decode cX4_takesNumber 49 = .ok (.getfield 60, 3) := by decide +kernel
theorem dX4_takesNumber_52 : decode cX4_takesNumber 52 = .ok (.iconst 1, 1) := by decide +kernel
theorem dX4_takesNumber_53 : decode cX4_takesNumber 53 = .ok (.isub, 1) := by decide +kernel
theorem dX4_takesNumber_54 : decode cX4_takesNumber 54 = .ok (.iload_n 2, 1) := by decide +kernel
theorem dX4_takesNumber_55 : decode cX4_takesNumber 55 = .ok (.aload_n 0, 1) := by decide +kernel
theorem dX4_takesNumber_56 : decode cX4_takesNumber 56 = .ok (.getfield 9, 3) := by decide +kernel
theorem dX4_takesNumber_59 : decode cX4_takesNumber 59 = .ok (.invokevirtual 67, 3) := by decide +kernel
theorem dX4_takesNumber_62 : decode cX4_takesNumber 62 = .ok (.invokevirtual 87, 3) := by decide +kernel
theorem dX4_takesNumber_65 : decode cX4_takesNumber 65 = .ok (.aload_n 0, 1) := by decide +kernel
theorem dX4_takesNumber_66 : decode cX4_takesNumber 66 = .ok (.getfield 9, 3) := by decide +kernel
theorem dX4_takesNumber_69 : decode cX4_takesNumber 69 = .ok (.invokevirtual 77, 3) := by decide +kernel
theorem dX4_takesNumber_72 : decode cX4_takesNumber 72 = .ok (.iconst 1, 1) := by decide +kernel
theorem dX4_takesNumber_73 : decode cX4_takesNumber 73 = .ok (.ireturn, 1) := by decide +kernel
theorem dX5_init_0 : decode cX5_init 0 = .ok (.aload_n 0, 1) := by decide +kernel
theorem dX5_init_1 : decode cX5_init 1 = .ok (.invokespecial 3, 3) := by decide +kernel
theorem dX5_init_4 : decode cX5_init 4 = .ok (.aload_n 0, 1) := by decide +kernel
theorem dX5_init_5 : decode cX5_init 5 = .ok (.new 9, 3) := by decide +kernel
theorem dX5_init_8 : decode cX5_init 8 = .ok (.dup, 1) := by decide +kernel
theorem dX5_init_9 : decode cX5_init 9 = .ok (.bipush 6, 2) := by decide +kernel
theorem dX5_init_11 : decode cX5_init 11 = .ok (.iconst 2, 1) := by decide +kernel
theorem dX5_init_12 : decode cX5_init 12 = .ok (.invokespecial 13, 3) := by decide +kernel
theorem dX5_init_15 : decode cX5_init 15 = .ok (.putfield 16, 3) := by decide +kernel
theorem dX5_init_18 : decode cX5_init 18 = .ok (.aload_n 0, 1) := by decide +kernel
theorem dX5_init_19 : decode cX5_init 19 = .ok (.new 9, 3) := by decide +kernel
theorem dX5_init_22 : decode cX5_init 22 = .ok (.dup, 1) := by decide +kernel
theorem dX5_init_23 : decode cX5_init 23 = .ok (.bipush 6, 2) := by decide +kernel
theorem dX5_init_25 : decode cX5_init 25 = .ok (.iconst 2, 1) := by decide +kernel
theorem dX5_init_26 : decode cX5_init 26 = .ok (.invokespecial 13, 3) := by decide +kernel
theorem dX5_init_29 : decode cX5_init 29 = .ok (.putfield 20, 3) := by decide +kernel
theorem dX5_init_32 : decode cX5_init 32 = .ok (.aload_n 0, 1) := by decide +kernel
theorem dX5_init_33 : decode cX5_init 33 = .ok (.new 9, 3) := by decide +kernel
theorem dX5_init_36 : decode cX5_init 36 = .ok (.dup, 1) := by decide +kernel
theorem dX5_init_37 : decode cX5_init 37 = .ok (.bipush 6, 2) := by decide +kernel
theorem dX5_init_39 : decode cX5_init 39 = .ok (.iconst 1, 1) := by decide +kernel
theorem dX5_init_40 : decode cX5_init 40 = .ok (.invokespecial 13, 3) := by decide +kernel
theorem dX5_init_43 : decode cX5_init 43 = .ok (.putfield 23, 3) := by decide +kernel
theorem dX5_init_46 : decode cX5_init 46 = .ok (.aload_n 0, 1) := by decide +kernel
theorem dX5_init_47 : decode cX5_init 47 = .ok (.new 9, 3) := by decide +kernel
theorem dX5_init_50 : decode cX5_init 50 = .ok (.dup, 1) := by decide +kernel
theorem dX5_init_51 : decode cX5_init 51 = .ok (.bipush 8, 2) := by decide +kernel
theorem dX5_init_53 : decode cX5_init 53 = .ok (.iconst 4, 1) := by decide +kernel
theorem dX5_init_54 : decode cX5_init 54 = .ok (.invokespecial 13, 3) := by decide +kernel
theorem dX5_init_57 : decode cX5_init 57 = .ok (.putfield 26, 3) := by decide +kernel
theorem dX5_init_60 : decode cX5_init 60 = .ok (.aload_n 0, 1) := by decide +kernel
theorem dX5_init_61 : decode cX5_init 61 = .ok (.bipush 7, 2) := by decide +kernel
theorem dX5_init_63 : decode cX5_init 63 = .ok (.bipush 100, 2) := by decide +kernel
theorem dX5_init_65 : decode cX5_init 65 = .ok (.multianewarray 29 2, 4) := by decide +kernel
theorem dX5_init_69 : decode cX5_init 69 = .ok (.putfield 31, 3) := by decide +kernel
theorem dX5_init_72 : decode cX5_init 72 = .ok (.aload_n 0, 1) := by decide +kernel
theorem dX5_init_73 : decode cX5_init 73 = .ok (.sipush 256, 3) := by decide +kernel
theorem dX5_init_76 : decode cX5_init 76 = .ok (.newarray .int, 2) := by decide +kernel
theorem dX5_init_78 : decode cX5_init 78 = .ok (.putfield 34, 3) := by decide +kernel
theorem dX5_init_81 : decode cX5_init 81 = .ok (.return_, 1) := by decide +kernel
theorem dX5_copyFrom_0 : decode cX5_copyFrom 0 = .ok (.aload_n 0, 1) := by decide +kernel
theorem dX5_copyFrom_1 : decode cX5_copyFrom 1 = .ok (.getfield 16, 3) := by decide +kernel
theorem dX5_copyFrom_4 : decode cX5_copyFrom 4 = .ok (.aload_n 1, 1) := by decide +kernel
theorem dX5_copyFrom_5 : decode cX5_copyFrom 5 = .ok (.getfield 16, 3) := by decide +kernel
theorem dX5_copyFrom_8 : decode cX5_copyFrom 8 = .ok (.invokevirtual 38, 3) := by decide +kernel
theorem dX5_copyFrom_11 : decode cX5_copyFrom 11 = .ok (.aload_n 0, 1) := by decide +kernel
theorem dX5_copyFrom_12 : decode cX5_copyFrom 12 = .ok (.getfield 20, 3) := by decide +kernel
theorem dX5_copyFrom_15 : decode cX5_copyFrom 15 = .ok (.aload_n 1, 1) := by decide +kernel
theorem dX5_copyFrom_16 : decode cX5_copyFrom 16 = .ok (.getfield 20, 3) := by decide +kernel
theorem dX5_copyFrom_19 : decode cX5_copyFrom 19 = .ok (.invokevirtual 38, 3) := by decide +kernel
theorem dX5_copyFrom_22 : decode cX5_copyFrom 22 = .ok (.aload_n 0, 1) := by decide +kernel
theorem dX5_copyFrom_23 : decode cX5_copyFrom 23 = .ok (.getfield 23, 3) := by decide +kernel
theorem dX5_copyFrom_26 : decode cX5_copyFrom 26 = .ok (.aload_n 1, 1) := by decide +kernel
theorem dX5_copyFrom_27 : decode cX5_copyFrom 27 = .ok (.getfield 23, 3) := by decide +kernel
theorem dX5_copyFrom_30 : decode cX5_copyFrom 30 = .ok (.invokevirtual 38, 3) := by decide +kernel
theorem dX5_copyFrom_33 : decode cX5_copyFrom 33 = .ok (.aload_n 0, 1) := by decide +kernel
theorem dX5_copyFrom_34 : decode cX5_copyFrom 34 = .ok (.getfield 26, 3) := by decide +kernel
theorem dX5_copyFrom_37 : decode cX5_copyFrom 37 = .ok (.aload_n 1, 1) := by decide +kernel
theorem dX5_copyFrom_38 : decode cX5_copyFrom 38 = .ok (.getfield 26, 3) := by decide +kernel
theorem dX5_copyFrom_41 : decode cX5_copyFrom 41 = .ok (.invokevirtual 38, 3) := by decide +kernel
theorem dX5_copyFrom_44 : decode cX5_copyFrom 44 = .ok (.return_, 1) := by decide +kernel
theorem dX5_weighBolt_0 : decode cX5_weighBolt 0 = .ok (.aload_n 0, 1) := by decide +kernel
theorem dX5_weighBolt_1 : decode cX5_weighBolt 1 = .ok (.getfield 16, 3) := by decide +kernel
theorem dX5_weighBolt_4 : decode cX5_weighBolt 4 = .ok (.getfield 42, 3) := by decide +kernel
theorem dX5_weighBolt_7 : decode cX5_weighBolt 7 = .ok (.bipush 6, 2) := by decide +kernel
theorem dX5_weighBolt_9 : decode cX5_weighBolt 9 = .ok (.invokestatic 46, 3) := by decide +kernel
theorem dX5_weighBolt_12 : decode cX5_weighBolt 12 = .ok (.istore_n 2, 1) := by decide +kernel
theorem dX5_weighBolt_13 : decode cX5_weighBolt 13 = .ok (.iconst 0, 1) := by decide +kernel
theorem dX5_weighBolt_14 : decode cX5_weighBolt 14 = .ok (.istore_n 3, 1) := by decide +kernel
theorem dX5_weighBolt_15 : decode cX5_weighBolt 15 = .ok (.iload_n 3, 1) := by decide +kernel
theorem dX5_weighBolt_16 : decode cX5_weighBolt 16 = .ok (.iload_n 1, 1) := by decide +kernel
theorem dX5_weighBolt_17 : decode cX5_weighBolt 17 = .ok (.if_icmp .gt 74, 3) := by decide +kernel
theorem dX5_weighBolt_20 : decode cX5_weighBolt 20 = .ok (.iload_n 3, 1) := by decide +kernel
theorem dX5_weighBolt_21 : decode cX5_weighBolt 21 = .ok (.bipush 99, 2) := by decide +kernel
theorem dX5_weighBolt_23 : decode cX5_weighBolt 23 = .ok (.if_icmp .gt 68, 3) := by decide +kernel
theorem dX5_weighBolt_26 : decode cX5_weighBolt 26 = .ok (.aload_n 0, 1) := by decide +kernel
theorem dX5_weighBolt_27 : decode cX5_weighBolt 27 = .ok (.getfield 31, 3) := by decide +kernel
theorem dX5_weighBolt_30 : decode cX5_weighBolt 30 = .ok (.iload_n 2, 1) := by decide +kernel
theorem dX5_weighBolt_31 : decode cX5_weighBolt 31 = .ok (.aaload, 1) := by decide +kernel
theorem dX5_weighBolt_32 : decode cX5_weighBolt 32 = .ok (.iload_n 3, 1) := by decide +kernel
theorem dX5_weighBolt_33 : decode cX5_weighBolt 33 = .ok (.iconst 0, 1) := by decide +kernel
theorem dX5_weighBolt_34 : decode cX5_weighBolt 34 = .ok (.iastore, 1) := by decide +kernel
theorem dX5_weighBolt_35 : decode cX5_weighBolt 35 = .ok (.iload_n 2, 1) := by decide +kernel
theorem dX5_weighBolt_36 : decode cX5_weighBolt 36 = .ok (.iconst 1, 1) := by decide +kernel
theorem dX5_weighBolt_37 : decode cX5_weighBolt 37 = .ok (.isub, 1) := by decide +kernel
theorem dX5_weighBolt_38 : decode cX5_weighBolt 38 = .ok (.istore 4, 2) := by decide +kernel
theorem dX5_weighBolt_40 : decode cX5_weighBolt 40 = .ok (.iload 4, 2) := by decide +kernel
theorem dX5_weighBolt_42 : decode cX5_weighBolt 42 = .ok (.ifCond .lt 43, 3) := by decide +kernel
theorem dX5_weighBolt_45 : decode cX5_weighBolt 45 = .ok (.aload_n 0, 1) := by decide +kernel
theorem dX5_weighBolt_46 : decode cX5_weighBolt 46 = .ok (.getfield 31, 3) := by decide +kernel
theorem dX5_weighBolt_49 : decode cX5_weighBolt 49 = .ok (.iload 4, 2) := by decide +kernel
theorem dX5_weighBolt_51 : decode cX5_weighBolt 51 = .ok (.iconst 1, 1) := by decide +kernel
theorem dX5_weighBolt_52 : decode cX5_weighBolt 52 = .ok (.iadd, 1) := by decide +kernel
theorem dX5_weighBolt_53 : decode cX5_weighBolt 53 = .ok (.aaload, 1) := by decide +kernel
theorem dX5_weighBolt_54 : decode cX5_weighBolt 54 = .ok (.iload_n 3, 1) := by decide +kernel
theorem dX5_weighBolt_55 : decode cX5_weighBolt 55 = .ok (.iaload, 1) := by decide +kernel
theorem dX5_weighBolt_56 : decode cX5_weighBolt 56 = .ok (.istore 5, 2) := by decide +kernel
theorem dX5_weighBolt_58 : decode cX5_weighBolt 58 = .ok (.aload_n 0, 1) := by decide +kernel
theorem dX5_weighBolt_59 : decode cX5_weighBolt 59 = .ok (.getfield 31, 3) := by decide +kernel
theorem dX5_weighBolt_62 : decode cX5_weighBolt 62 = .ok (.iload 4, 2) := by decide +kernel
theorem dX5_weighBolt_64 : decode cX5_weighBolt 64 = .ok (.aaload, 1) := by decide +kernel
theorem dX5_weighBolt_65 : decode cX5_weighBolt 65 = .ok (.iload_n 3, 1) := by decide +kernel
theorem dX5_weighBolt_66 : decode cX5_weighBolt 66 = .ok (.iload 5, 2) := by decide +kernel
theorem dX5_weighBolt_68 : decode cX5_weighBolt 68 = .ok (.aload_n 0, 1) := by decide +kernel
theorem dX5_weighBolt_69 : decode cX5_weighBolt 69 = .ok (.iload 4, 2) := by decide +kernel
theorem dX5_weighBolt_71 : decode cX5_weighBolt 71 = .ok (.iload_n 3, 1) := by decide +kernel
theorem dX5_weighBolt_72 : decode cX5_weighBolt 72 = .ok (.invokevirtual 52, 3) := by decide +kernel
theorem dX5_weighBolt_75 : decode cX5_weighBolt 75 = .ok (.invokestatic 55, 3) := by decide +kernel
theorem dX5_weighBolt_78 : decode cX5_weighBolt 78 = .ok (.iastore, 1) := by decide +kernel
theorem dX5_weighBolt_79 : decode cX5_weighBolt 79 = .ok (.iinc 4 (-1), 3) := by decide +kernel
theorem dX5_weighBolt_82 : decode cX5_weighBolt 82 = .ok (.goto (-42), 3) := by decide +kernel
theorem dX5_weighBolt_85 : decode cX5_weighBolt 85 = .ok (.iinc 3 1, 3) := by decide +kernel
theorem dX5_weighBolt_88 : decode cX5_weighBolt 88 = .ok (.goto (-73), 3) := by decide +kernel
theorem dX5_weighBolt_91 : decode cX5_weighBolt 91 = .ok (.return_, 1) := by decide +kernel
theorem dX5_worthWith_0 : decode cX5_worthWith 0 = .ok (.iload_n 2, 1) := by decide +kernel
theorem dX5_worthWith_1 : decode cX5_worthWith 1 = .ok (.aload_n 0, 1) := by decide +kernel
theorem dX5_worthWith_2 : decode cX5_worthWith 2 = .ok (.getfield 16, 3) := by decide +kernel
theorem dX5_worthWith_5 : decode cX5_worthWith 5 = .ok (.iload_n 1, 1) := by decide +kernel
theorem dX5_worthWith_6 : decode cX5_worthWith 6 = .ok (.iconst 0, 1) := by decide +kernel
theorem dX5_worthWith_7 : decode cX5_worthWith 7 = .ok (.invokevirtual 58, 3) := by decide +kernel
theorem dX5_worthWith_10 : decode cX5_worthWith 10 = .ok (.isub, 1) := by decide +kernel
theorem dX5_worthWith_11 : decode cX5_worthWith 11 = .ok (.istore_n 3, 1) := by decide +kernel
theorem dX5_worthWith_12 : decode cX5_worthWith 12 = .ok (.iload_n 1, 1) := by decide +kernel
theorem dX5_worthWith_13 : decode cX5_worthWith 13 = .ok (.ifCond .lt 19, 3) := by decide +kernel
theorem dX5_worthWith_16 : decode cX5_worthWith 16 = .ok (.iload_n 1, 1) := by decide +kernel
theorem dX5_worthWith_17 : decode cX5_worthWith 17 = .ok (.bipush 6, 2) := by decide +kernel
theorem dX5_worthWith_19 : decode cX5_worthWith 19 = .ok (.if_icmp .gt 13, 3) := by decide +kernel
theorem dX5_worthWith_22 : decode cX5_worthWith 22 = .ok (.iload_n 3, 1) := by decide +kernel
theorem dX5_worthWith_23 : decode cX5_worthWith 23 = .ok (.ifCond .lt 9, 3) := by decide +kernel
theorem dX5_worthWith_26 : decode cX5_worthWith 26 = .ok (.iload_n 3, 1) := by decide +kernel
theorem dX5_worthWith_27 : decode cX5_worthWith 27 = .ok (.bipush 99, 2) := by decide +kernel
theorem dX5_worthWith_29 : decode cX5_worthWith 29 = .ok (.if_icmp .le 5, 3) := by decide +kernel
theorem dX5_worthWith_32 : decode cX5_worthWith 32 = .ok (.iconst (-1), 1) := by decide +kernel
theorem dX5_worthWith_33 : decode cX5_worthWith 33 = .ok (.ireturn, 1) := by decide +kernel
theorem dX5_worthWith_34 : decode cX5_worthWith 34 = .ok (.aload_n 0, 1) := by decide +kernel
theorem dX5_worthWith_35 : decode cX5_worthWith 35 = .ok (.getfield 16, 3) := by decide +kernel
theorem dX5_worthWith_38 : decode cX5_worthWith 38 = .ok (.iload_n 1, 1) := by decide +kernel
theorem dX5_worthWith_39 : decode cX5_worthWith 39 = .ok (.iconst 1, 1) := by decide +kernel
theorem dX5_worthWith_40 : decode cX5_worthWith 40 = .ok (.invokevirtual 58, 3) := by decide +kernel
theorem dX5_worthWith_43 : decode cX5_worthWith 43 = .ok (.aload_n 0, 1) := by decide +kernel
theorem dX5_worthWith_44 : decode cX5_worthWith 44 = .ok (.getfield 31, 3) := by decide +kernel
theorem dX5_worthWith_47 : decode cX5_worthWith 47 = .ok (.iload_n 1, 1) := by decide +kernel
theorem dX5_worthWith_48 : decode cX5_worthWith 48 = .ok (.aaload, 1) := by decide +kernel
theorem dX5_worthWith_49 : decode cX5_worthWith 49 = .ok (.iload_n 3, 1) := by decide +kernel
theorem dX5_worthWith_50 : decode cX5_worthWith 50 = .ok (.iaload, 1) := by decide +kernel
theorem dX5_worthWith_51 : decode cX5_worthWith 51 = .ok (.iadd, 1) := by decide +kernel
theorem dX5_worthWith_52 : decode cX5_worthWith 52 = .ok (.ireturn, 1) := by decide +kernel
theorem dX5_boltWorth_0 : decode cX5_boltWorth 0 = .ok (.iload_n 1, 1) := by decide +kernel
theorem dX5_boltWorth_1 : decode cX5_boltWorth 1 = .ok (.ifCond .lt 20, 3) := by decide +kernel
theorem dX5_boltWorth_4 : decode cX5_boltWorth 4 = .ok (.iload_n 1, 1) := by decide +kernel
theorem dX5_boltWorth_5 : decode cX5_boltWorth 5 = .ok (.bipush 99, 2) := by decide +kernel
theorem dX5_boltWorth_7 : decode cX5_boltWorth 7 = .ok (.if_icmp .gt 14, 3) := by decide +kernel
theorem dX5_boltWorth_10 : decode cX5_boltWorth 10 = .ok (.aload_n 0, 1) := by decide +kernel
theorem dX5_boltWorth_11 : decode cX5_boltWorth 11 = .ok (.getfield 31, 3) := by decide +kernel
theorem dX5_boltWorth_14 : decode cX5_boltWorth 14 = .ok (.iconst 0, 1) := by decide +kernel
theorem dX5_boltWorth_15 : decode cX5_boltWorth 15 = .ok (.aaload, 1) := by decide +kernel
theorem dX5_boltWorth_16 : decode cX5_boltWorth 16 = .ok (.iload_n 1, 1) := by decide +kernel
theorem dX5_boltWorth_17 : decode cX5_boltWorth 17 = .ok (.iaload, 1) := by decide +kernel
theorem dX5_boltWorth_18 : decode cX5_boltWorth 18 = .ok (.goto 4, 3) := by decide +kernel
theorem dX5_boltWorth_21 : decode cX5_boltWorth 21 = .ok (.iconst (-1), 1) := by decide +kernel
theorem dX5_boltWorth_22 : decode cX5_boltWorth 22 = .ok (.ireturn, 1) := by decide +kernel
theorem dX5_piecesInBolt_0 : decode cX5_piecesInBolt 0 = .ok (.iload_n 1, 1) := by decide +kernel
theorem dX5_piecesInBolt_1 : decode cX5_piecesInBolt 1 = .ok (.istore_n 3, 1) := by decide +kernel
theorem dX5_piecesInBolt_2 : decode cX5_piecesInBolt 2 = .ok (.iconst 0, 1) := by decide +kernel
theorem dX5_piecesInBolt_3 : decode cX5_piecesInBolt 3 = .ok (.istore 4, 2) := by decide +kernel
theorem dX5_piecesInBolt_5 : decode cX5_piecesInBolt 5 = .ok (.iconst 0, 1) := by decide +kernel
theorem dX5_piecesInBolt_6 : decode cX5_piecesInBolt 6 = .ok (.istore 5, 2) := by decide +kernel
theorem dX5_piecesInBolt_8 : decode cX5_piecesInBolt 8 = .ok (.iload 5, 2) := by decide +kernel
theorem dX5_piecesInBolt_10 : decode cX5_piecesInBolt 10 = .ok (.iload_n 2, 1) := by decide +kernel
theorem dX5_piecesInBolt_11 : decode cX5_piecesInBolt 11 = .ok (.if_icmp .gt 71, 3) := by decide +kernel
theorem dX5_piecesInBolt_14 : decode cX5_piecesInBolt 14 = .ok (.iload 5, 2) := by decide +kernel
theorem dX5_piecesInBolt_16 : decode cX5_piecesInBolt 16 = .ok (.bipush 6, 2) := by decide +kernel
theorem dX5_piecesInBolt_18 : decode cX5_piecesInBolt 18 = .ok (.if_icmp .gt 64, 3) := by decide +kernel
theorem dX5_piecesInBolt_21 : decode cX5_piecesInBolt 21 = .ok (.iconst 0, 1) := by decide +kernel
theorem dX5_piecesInBolt_22 : decode cX5_piecesInBolt 22 = .ok (.istore 4, 2) := by decide +kernel
theorem dX5_piecesInBolt_24 : decode cX5_piecesInBolt 24 = .ok (.iload_n 3, 1) := by decide +kernel
theorem dX5_piecesInBolt_25 : decode cX5_piecesInBolt 25 = .ok (.ifCond .lt 51, 3) := by decide +kernel
theorem dX5_piecesInBolt_28 : decode cX5_piecesInBolt 28 = .ok (.iload_n 3, 1) := by decide +kernel
theorem dX5_piecesInBolt_29 : decode cX5_piecesInBolt 29 = .ok (.bipush 99, 2) := by decide +kernel
theorem dX5_piecesInBolt_31 : decode cX5_piecesInBolt 31 = .ok (.if_icmp .gt 45, 3) := by decide +kernel
theorem dX5_piecesInBolt_34 : decode cX5_piecesInBolt 34 = .ok (.aload_n 0, 1) := by decide +kernel
theorem dX5_piecesInBolt_35 : decode cX5_piecesInBolt 35 = .ok (.iload 5, 2) := by decide +kernel
theorem dX5_piecesInBolt_37 : decode cX5_piecesInBolt 37 = .ok (.iload_n 3, 1) := by decide +kernel
theorem dX5_piecesInBolt_38 : decode cX5_piecesInBolt 38 = .ok (.invokevirtual 52, 3) := by decide +kernel
theorem dX5_piecesInBolt_41 : decode cX5_piecesInBolt 41 = .ok (.aload_n 0, 1) := by decide +kernel
theorem dX5_piecesInBolt_42 : decode cX5_piecesInBolt 42 = .ok (.getfield 31, 3) := by decide +kernel
theorem dX5_piecesInBolt_45 : decode cX5_piecesInBolt 45 = .ok (.iload 5, 2) := by decide +kernel
theorem dX5_piecesInBolt_47 : decode cX5_piecesInBolt 47 = .ok (.aaload, 1) := by decide +kernel
theorem dX5_piecesInBolt_48 : decode cX5_piecesInBolt 48 = .ok (.iload_n 3, 1) := by decide +kernel
theorem dX5_piecesInBolt_49 : decode cX5_piecesInBolt 49 = .ok (.iaload, 1) := by decide +kernel
theorem dX5_piecesInBolt_50 : decode cX5_piecesInBolt 50 = .ok (.if_icmp .ne 26, 3) := by decide +kernel
theorem dX5_piecesInBolt_53 : decode cX5_piecesInBolt 53 = .ok (.iload_n 3, 1) := by decide +kernel
theorem dX5_piecesInBolt_54 : decode cX5_piecesInBolt 54 = .ok (.iconst 1, 1) := by decide +kernel
theorem dX5_piecesInBolt_55 : decode cX5_piecesInBolt 55 = .ok (.aload_n 0, 1) := by decide +kernel
theorem dX5_piecesInBolt_56 : decode cX5_piecesInBolt 56 = .ok (.getfield 16, 3) := by decide +kernel
theorem dX5_piecesInBolt_59 : decode cX5_piecesInBolt 59 = .ok (.iload 5, 2) := by decide +kernel
theorem dX5_piecesInBolt_61 : decode cX5_piecesInBolt 61 = .ok (.iconst 0, 1) := by decide +kernel
theorem dX5_piecesInBolt_62 : decode cX5_piecesInBolt 62 = .ok (.invokevirtual 58, 3) := by decide +kernel
theorem dX5_piecesInBolt_65 : decode cX5_piecesInBolt 65 = .ok (.invokestatic 55, 3) := by decide +kernel
theorem dX5_piecesInBolt_68 : decode cX5_piecesInBolt 68 = .ok (.isub, 1) := by decide +kernel
theorem dX5_piecesInBolt_69 : decode cX5_piecesInBolt 69 = .ok (.istore_n 3, 1) := by decide +kernel
theorem dX5_piecesInBolt_70 : decode cX5_piecesInBolt 70 = .ok (.iinc 4 1, 3) := by decide +kernel
theorem dX5_piecesInBolt_73 : decode cX5_piecesInBolt 73 = .ok (.goto (-49), 3) := by decide +kernel
theorem dX5_piecesInBolt_76 : decode cX5_piecesInBolt 76 = .ok (.iinc 5 1, 3) := by decide +kernel
theorem dX5_piecesInBolt_79 : decode cX5_piecesInBolt 79 = .ok (.goto (-71), 3) := by decide +kernel
theorem dX5_piecesInBolt_82 : decode cX5_piecesInBolt 82 = .ok (.iload 4, 2) := by decide +kernel
theorem dX5_piecesInBolt_84 : decode cX5_piecesInBolt 84 = .ok (.ireturn, 1) := by decide +kernel
theorem dX5_oddsForged_0 : decode cX5_oddsForged 0 = .ok (.iload_n 1, 1) := by decide +kernel
theorem dX5_oddsForged_1 : decode cX5_oddsForged 1 = .ok (.i2l, 1) := by decide +kernel
theorem dX5_oddsForged_2 : decode cX5_oddsForged 2 = .ok (.ldc2_w 61, 3) := by decide +kernel
theorem dX5_oddsForged_5 : decode cX5_oddsForged 5 = .ok (.lmul, 1) := by decide +kernel
theorem dX5_oddsForged_6 : decode cX5_oddsForged 6 = .ok (.lstore 4, 2) := by decide +kernel
theorem dX5_oddsForged_8 : decode cX5_oddsForged 8 = .ok (.iconst 0, 1) := by decide +kernel
theorem dX5_oddsForged_9 : decode cX5_oddsForged 9 = .ok (.istore 6, 2) := by decide +kernel
theorem dX5_oddsForged_11 : decode cX5_oddsForged 11 = .ok (.iload 6, 2) := by decide +kernel
theorem dX5_oddsForged_13 : decode cX5_oddsForged 13 = .ok (.aload_n 0, 1) := by decide +kernel
theorem dX5_oddsForged_14 : decode cX5_oddsForged 14 = .ok (.getfield 20, 3) := by decide +kernel
theorem dX5_oddsForged_17 : decode cX5_oddsForged 17 = .ok (.getfield 42, 3) := by decide +kernel
theorem dX5_oddsForged_20 : decode cX5_oddsForged 20 = .ok (.if_icmp .ge 92, 3) := by decide +kernel
theorem dX5_oddsForged_23 : decode cX5_oddsForged 23 = .ok (.iload_n 2, 1) := by decide +kernel
theorem dX5_oddsForged_24 : decode cX5_oddsForged 24 = .ok (.iload 6, 2) := by decide +kernel
theorem dX5_oddsForged_26 : decode cX5_oddsForged 26 = .ok (.invokestatic 63, 3) := by decide +kernel
theorem dX5_oddsForged_29 : decode cX5_oddsForged 29 = .ok (.ifCond .eq 33, 3) := by decide +kernel
theorem dX5_oddsForged_32 : decode cX5_oddsForged 32 = .ok (.lload 4, 2) := by decide +kernel
theorem dX5_oddsForged_34 : decode cX5_oddsForged 34 = .ok (.aload_n 0, 1) := by decide +kernel
theorem dX5_oddsForged_35 : decode cX5_oddsForged 35 = .ok (.getfield 20, 3) := by decide +kernel
theorem dX5_oddsForged_38 : decode cX5_oddsForged 38 = .ok (.iload 6, 2) := by decide +kernel
theorem dX5_oddsForged_40 : decode cX5_oddsForged 40 = .ok (.iconst 0, 1) := by decide +kernel
theorem dX5_oddsForged_41 : decode cX5_oddsForged 41 = .ok (.invokevirtual 58, 3) := by decide +kernel
theorem dX5_oddsForged_44 : decode cX5_oddsForged 44 = .ok (.aload_n 0, 1) := by decide +kernel
theorem dX5_oddsForged_45 : decode cX5_oddsForged 45 = .ok (.getfield 20, 3) := by decide +kernel
theorem dX5_oddsForged_48 : decode cX5_oddsForged 48 = .ok (.iload 6, 2) := by decide +kernel
theorem dX5_oddsForged_50 : decode cX5_oddsForged 50 = .ok (.iconst 1, 1) := by decide +kernel
theorem dX5_oddsForged_51 : decode cX5_oddsForged 51 = .ok (.invokevirtual 58, 3) := by decide +kernel
theorem dX5_oddsForged_54 : decode cX5_oddsForged 54 = .ok (.invokestatic 67, 3) := by decide +kernel
theorem dX5_oddsForged_57 : decode cX5_oddsForged 57 = .ok (.lstore 4, 2) := by decide +kernel
theorem dX5_oddsForged_59 : decode cX5_oddsForged 59 = .ok (.goto 47, 3) := by decide +kernel
theorem dX5_oddsForged_62 : decode cX5_oddsForged 62 = .ok (.iload_n 3, 1) := by decide +kernel
theorem dX5_oddsForged_63 : decode cX5_oddsForged 63 = .ok (.iload 6, 2) := by decide +kernel
theorem dX5_oddsForged_65 : decode cX5_oddsForged 65 = .ok (.invokestatic 63, 3) := by decide +kernel
theorem dX5_oddsForged_68 : decode cX5_oddsForged 68 = .ok (.ifCond .eq 38, 3) := by decide +kernel
theorem dX5_oddsForged_71 : decode cX5_oddsForged 71 = .ok (.lload 4, 2) := by decide +kernel
theorem dX5_oddsForged_73 : decode cX5_oddsForged 73 = .ok (.sipush 1000, 3) := by decide +kernel
theorem dX5_oddsForged_76 : decode cX5_oddsForged 76 = .ok (.aload_n 0, 1) := by decide +kernel
theorem dX5_oddsForged_77 : decode cX5_oddsForged 77 = .ok (.getfield 20, 3) := by decide +kernel
theorem dX5_oddsForged_80 : decode cX5_oddsForged 80 = .ok (.iload 6, 2) := by decide +kernel
theorem dX5_oddsForged_82 : decode cX5_oddsForged 82 = .ok (.iconst 0, 1) := by decide +kernel
theorem dX5_oddsForged_83 : decode cX5_oddsForged 83 = .ok (.invokevirtual 58, 3) := by decide +kernel
theorem dX5_oddsForged_86 : decode cX5_oddsForged 86 = .ok (.isub, 1) := by decide +kernel
theorem dX5_oddsForged_87 : decode cX5_oddsForged 87 = .ok (.sipush 1000, 3) := by decide +kernel
theorem dX5_oddsForged_90 : decode cX5_oddsForged 90 = .ok (.aload_n 0, 1) := by decide +kernel
theorem dX5_oddsForged_91 : decode cX5_oddsForged 91 = .ok (.getfield 20, 3) := by decide +kernel
theorem dX5_oddsForged_94 : decode cX5_oddsForged 94 = .ok (.iload 6, 2) := by decide +kernel
theorem dX5_oddsForged_96 : decode cX5_oddsForged 96 = .ok (.iconst 1, 1) := by decide +kernel
theorem dX5_oddsForged_97 : decode cX5_oddsForged 97 = .ok (.invokevirtual 58, 3) := by decide +kernel
theorem dX5_oddsForged_100 : decode cX5_oddsForged 100 = .ok (.isub, 1) := by decide +kernel
theorem dX5_oddsForged_101 : decode cX5_oddsForged 101 = .ok (.invokestatic 67, 3) := by decide +kernel
theorem dX5_oddsForged_104 : decode cX5_oddsForged 104 = .ok (.lstore 4, 2) := by decide +kernel
theorem dX5_oddsForged_106 : decode cX5_oddsForged 106 = .ok (.iinc 6 1, 3) := by decide +kernel
theorem dX5_oddsForged_109 : decode cX5_oddsForged 109 = .ok (.goto (-98), 3) := by decide +kernel
theorem dX5_oddsForged_112 : decode cX5_oddsForged 112 = .ok (.lload 4, 2) := by decide +kernel
theorem dX5_oddsForged_114 : decode cX5_oddsForged 114 = .ok (.l2i, 1) := by decide +kernel
theorem dX5_oddsForged_115 : decode cX5_oddsForged 115 = .ok (.ireturn, 1) := by decide +kernel
theorem dX5_oddsBehind_0 : decode cX5_oddsBehind 0 = .ok (.lload_n 0, 1) := by decide +kernel
theorem dX5_oddsBehind_1 : decode cX5_oddsBehind 1 = .ok (.iload_n 3, 1) := by decide +kernel
theorem dX5_oddsBehind_2 : decode cX5_oddsBehind 2 = .ok (.i2l, 1) := by decide +kernel
theorem dX5_oddsBehind_3 : decode cX5_oddsBehind 3 = .ok (.lmul, 1) := by decide +kernel
theorem dX5_oddsBehind_4 : decode cX5_oddsBehind 4 = .ok (.ldc2_w 71, 3) := by decide +kernel
theorem dX5_oddsBehind_7 : decode cX5_oddsBehind 7 = .ok (.lload_n 0, 1) := by decide +kernel
theorem dX5_oddsBehind_8 : decode cX5_oddsBehind 8 = .ok (.lsub, 1) := by decide +kernel
theorem dX5_oddsBehind_9 : decode cX5_oddsBehind 9 = .ok (.iload_n 2, 1) := by decide +kernel
theorem dX5_oddsBehind_10 : decode cX5_oddsBehind 10 = .ok (.i2l, 1) := by decide +kernel
theorem dX5_oddsBehind_11 : decode cX5_oddsBehind 11 = .ok (.lmul, 1) := by decide +kernel
theorem dX5_oddsBehind_12 : decode cX5_oddsBehind 12 = .ok (.ladd, 1) := by decide +kernel
theorem dX5_oddsBehind_13 : decode cX5_oddsBehind 13 = .ok (.lstore 4, 2) := by decide +kernel
theorem dX5_oddsBehind_15 : decode cX5_oddsBehind 15 = .ok (.lload 4, 2) := by decide +kernel
theorem dX5_oddsBehind_17 : decode cX5_oddsBehind 17 = .ok (.lconst 0, 1) := by decide +kernel
theorem dX5_oddsBehind_18 : decode cX5_oddsBehind 18 = .ok (.lcmp, 1) := by decide +kernel
theorem dX5_oddsBehind_19 : decode cX5_oddsBehind 19 = .ok (.ifCond .le 17, 3) := by decide +kernel
theorem dX5_oddsBehind_22 : decode cX5_oddsBehind 22 = .ok (.ldc2_w 71, 3) := by decide +kernel
theorem dX5_oddsBehind_25 : decode cX5_oddsBehind 25 = .ok (.lload_n 0, 1) := by decide +kernel
theorem dX5_oddsBehind_26 : decode cX5_oddsBehind 26 = .ok (.iload_n 3, 1) := by decide +kernel
theorem dX5_oddsBehind_27 : decode cX5_oddsBehind 27 = .ok (.i2l, 1) := by decide +kernel
theorem dX5_oddsBehind_28 : decode cX5_oddsBehind 28 = .ok (.lmul, 1) := by decide +kernel
theorem dX5_oddsBehind_29 : decode cX5_oddsBehind 29 = .ok (.lmul, 1) := by decide +kernel
theorem dX5_oddsBehind_30 : decode cX5_oddsBehind 30 = .ok (.lload 4, 2) := by decide +kernel
theorem dX5_oddsBehind_32 : decode cX5_oddsBehind 32 = .ok (.ldiv, 1) := by decide +kernel
theorem dX5_oddsBehind_33 : decode cX5_oddsBehind 33 = .ok (.goto 4, 3) := by decide +kernel
theorem dX5_oddsBehind_36 : decode cX5_oddsBehind 36 = .ok (.lconst 0, 1) := by decide +kernel
theorem dX5_oddsBehind_37 : decode cX5_oddsBehind 37 = .ok (.lreturn, 1) := by decide +kernel
theorem dX5_testToLookAt_0 : decode cX5_testToLookAt 0 = .ok (.iconst (-1), 1) := by decide +kernel
theorem dX5_testToLookAt_1 : decode cX5_testToLookAt 1 = .ok (.istore_n 2, 1) := by decide +kernel
theorem dX5_testToLookAt_2 : decode cX5_testToLookAt 2 = .ok (.iconst (-1), 1) := by decide +kernel
theorem dX5_testToLookAt_3 : decode cX5_testToLookAt 3 = .ok (.istore_n 3, 1) := by decide +kernel
theorem dX5_testToLookAt_4 : decode cX5_testToLookAt 4 = .ok (.iconst 0, 1) := by decide +kernel
theorem dX5_testToLookAt_5 : decode cX5_testToLookAt 5 = .ok (.istore 4, 2) := by decide +kernel
theorem dX5_testToLookAt_7 : decode cX5_testToLookAt 7 = .ok (.iload 4, 2) := by decide +kernel
theorem dX5_testToLookAt_9 : decode cX5_testToLookAt 9 = .ok (.aload_n 0, 1) := by decide +kernel
theorem dX5_testToLookAt_10 : decode cX5_testToLookAt 10 = .ok (.getfield 20, 3) := by decide +kernel
theorem dX5_testToLookAt_13 : decode cX5_testToLookAt 13 = .ok (.getfield 42, 3) := by decide +kernel
theorem dX5_testToLookAt_16 : decode cX5_testToLookAt 16 = .ok (.if_icmp .ge 49, 3) := by decide +kernel
theorem dX5_testToLookAt_19 : decode cX5_testToLookAt 19 = .ok (.aload_n 0, 1) := by decide +kernel
theorem dX5_testToLookAt_20 : decode cX5_testToLookAt 20 = .ok (.iload_n 1, 1) := by decide +kernel
theorem dX5_testToLookAt_21 : decode cX5_testToLookAt 21 = .ok (.iconst 1, 1) := by decide +kernel
theorem dX5_testToLookAt_22 : decode cX5_testToLookAt 22 = .ok (.iload 4, 2) := by decide +kernel
theorem dX5_testToLookAt_24 : decode cX5_testToLookAt 24 = .ok (.ishl, 1) := by decide +kernel
theorem dX5_testToLookAt_25 : decode cX5_testToLookAt 25 = .ok (.iconst 0, 1) := by decide +kernel
theorem dX5_testToLookAt_26 : decode cX5_testToLookAt 26 = .ok (.invokevirtual 73, 3) := by decide +kernel
theorem dX5_testToLookAt_29 : decode cX5_testToLookAt 29 = .ok (.ldc 77, 2) := by decide +kernel
theorem dX5_testToLookAt_31 : decode cX5_testToLookAt 31 = .ok (.aload_n 0, 1) := by decide +kernel
theorem dX5_testToLookAt_32 : decode cX5_testToLookAt 32 = .ok (.iload_n 1, 1) := by decide +kernel
theorem dX5_testToLookAt_33 : decode cX5_testToLookAt 33 = .ok (.iconst 0, 1) := by decide +kernel
theorem dX5_testToLookAt_34 : decode cX5_testToLookAt 34 = .ok (.iconst 1, 1) := by decide +kernel
theorem dX5_testToLookAt_35 : decode cX5_testToLookAt 35 = .ok (.iload 4, 2) := by decide +kernel
theorem dX5_testToLookAt_37 : decode cX5_testToLookAt 37 = .ok (.ishl, 1) := by decide +kernel
theorem dX5_testToLookAt_38 : decode cX5_testToLookAt 38 = .ok (.invokevirtual 73, 3) := by decide +kernel
theorem dX5_testToLookAt_41 : decode cX5_testToLookAt 41 = .ok (.isub, 1) := by decide +kernel
theorem dX5_testToLookAt_42 : decode cX5_testToLookAt 42 = .ok (.invokestatic 55, 3) := by decide +kernel
theorem dX5_testToLookAt_45 : decode cX5_testToLookAt 45 = .ok (.istore 5, 2) := by decide +kernel
theorem dX5_testToLookAt_47 : decode cX5_testToLookAt 47 = .ok (.iload 5, 2) := by decide +kernel
theorem dX5_testToLookAt_49 : decode cX5_testToLookAt 49 = .ok (.iload_n 3, 1) := by decide +kernel
theorem dX5_testToLookAt_50 : decode cX5_testToLookAt 50 = .ok (.if_icmp .le 9, 3) := by decide +kernel
theorem dX5_testToLookAt_53 : decode cX5_testToLookAt 53 = .ok (.iload 5, 2) := by decide +kernel
theorem dX5_testToLookAt_55 : decode cX5_testToLookAt 55 = .ok (.istore_n 3, 1) := by decide +kernel
theorem dX5_testToLookAt_56 : decode cX5_testToLookAt 56 = .ok (.iload 4, 2) := by decide +kernel
theorem dX5_testToLookAt_58 : decode cX5_testToLookAt 58 = .ok (.istore_n 2, 1) := by decide +kernel
theorem dX5_testToLookAt_59 : decode cX5_testToLookAt 59 = .ok (.iinc 4 1, 3) := by decide +kernel
theorem dX5_testToLookAt_62 : decode cX5_testToLookAt 62 = .ok (.goto (-55), 3) := by decide +kernel
theorem dX5_testToLookAt_65 : decode cX5_testToLookAt 65 = .ok (.iload_n 2, 1) := by decide +kernel
theorem dX5_testToLookAt_66 : decode cX5_testToLookAt 66 = .ok (.ireturn, 1) := by decide +kernel
theorem dX5_priceTaken_0 : decode cX5_priceTaken 0 = .ok (.iload_n 1, 1) := by decide +kernel
theorem dX5_priceTaken_1 : decode cX5_priceTaken 1 = .ok (.istore_n 3, 1) := by decide +kernel
theorem dX5_priceTaken_2 : decode cX5_priceTaken 2 = .ok (.iload_n 3, 1) := by decide +kernel
theorem dX5_priceTaken_3 : decode cX5_priceTaken 3 = .ok (.iconst 1, 1) := by decide +kernel
theorem dX5_priceTaken_4 : decode cX5_priceTaken 4 = .ok (.if_icmp .lt 25, 3) := by decide +kernel
theorem dX5_priceTaken_7 : decode cX5_priceTaken 7 = .ok (.aload_n 0, 1) := by decide +kernel
theorem dX5_priceTaken_8 : decode cX5_priceTaken 8 = .ok (.iload_n 3, 1) := by decide +kernel
theorem dX5_priceTaken_9 : decode cX5_priceTaken 9 = .ok (.invokevirtual 78, 3) := by decide +kernel
theorem dX5_priceTaken_12 : decode cX5_priceTaken 12 = .ok (.iconst (-1), 1) := by decide +kernel
theorem dX5_priceTaken_13 : decode cX5_priceTaken 13 = .ok (.if_icmp .eq 5, 3) := by decide +kernel
theorem dX5_priceTaken_16 : decode cX5_priceTaken 16 = .ok (.iload_n 3, 1) := by decide +kernel
theorem dX5_priceTaken_17 : decode cX5_priceTaken 17 = .ok (.ireturn, 1) := by decide +kernel
theorem dX5_priceTaken_18 : decode cX5_priceTaken 18 = .ok (.iload_n 3, 1) := by decide +kernel
theorem dX5_priceTaken_19 : decode cX5_priceTaken 19 = .ok (.iconst 1, 1) := by decide +kernel
theorem dX5_priceTaken_20 : decode cX5_priceTaken 20 = .ok (.iload_n 2, 1) := by decide +kernel
theorem dX5_priceTaken_21 : decode cX5_priceTaken 21 = .ok (.invokestatic 55, 3) := by decide +kernel
theorem dX5_priceTaken_24 : decode cX5_priceTaken 24 = .ok (.isub, 1) := by decide +kernel
theorem dX5_priceTaken_25 : decode cX5_priceTaken 25 = .ok (.istore_n 3, 1) := by decide +kernel
theorem dX5_priceTaken_26 : decode cX5_priceTaken 26 = .ok (.goto (-24), 3) := by decide +kernel
theorem dX5_priceTaken_29 : decode cX5_priceTaken 29 = .ok (.iconst (-1), 1) := by decide +kernel
theorem dX5_priceTaken_30 : decode cX5_priceTaken 30 = .ok (.ireturn, 1) := by decide +kernel
theorem dX5_firstLimitAtLeast_0 : decode cX5_firstLimitAtLeast 0 = .ok (.iload_n 1, 1) := by decide +kernel
theorem dX5_firstLimitAtLeast_1 : decode cX5_firstLimitAtLeast 1 = .ok (.iconst (-1), 1) := by decide +kernel
theorem dX5_firstLimitAtLeast_2 : decode cX5_firstLimitAtLeast 2 = .ok (.if_icmp .ne 5, 3) := by decide +kernel
theorem dX5_firstLimitAtLeast_5 : decode cX5_firstLimitAtLeast 5 = .ok (.iconst (-1), 1) := by decide +kernel
theorem dX5_firstLimitAtLeast_6 : decode cX5_firstLimitAtLeast 6 = .ok (.ireturn, 1) := by decide +kernel
theorem dX5_firstLimitAtLeast_7 : decode cX5_firstLimitAtLeast 7 = .ok (.iconst 0, 1) := by decide +kernel
theorem dX5_firstLimitAtLeast_8 : decode cX5_firstLimitAtLeast 8 = .ok (.istore_n 2, 1) := by decide +kernel
theorem dX5_firstLimitAtLeast_9 : decode cX5_firstLimitAtLeast 9 = .ok (.iload_n 2, 1) := by decide +kernel
theorem dX5_firstLimitAtLeast_10 : decode cX5_firstLimitAtLeast 10 = .ok (.aload_n 0, 1) := by decide +kernel
theorem dX5_firstLimitAtLeast_11 : decode cX5_firstLimitAtLeast 11 = .ok (.getfield 23, 3) := by decide +kernel
theorem dX5_firstLimitAtLeast_14 : decode cX5_firstLimitAtLeast 14 = .ok (.getfield 42, 3) := by decide +kernel
theorem dX5_firstLimitAtLeast_17 : decode cX5_firstLimitAtLeast 17 = .ok (.if_icmp .ge 24, 3) := by decide +kernel
theorem dX5_firstLimitAtLeast_20 : decode cX5_firstLimitAtLeast 20 = .ok (.aload_n 0, 1) := by decide +kernel
theorem dX5_firstLimitAtLeast_21 : decode cX5_firstLimitAtLeast 21 = .ok (.getfield 23, 3) := by decide +kernel
theorem dX5_firstLimitAtLeast_24 : decode cX5_firstLimitAtLeast 24 = .ok (.iload_n 2, 1) := by decide +kernel
theorem dX5_firstLimitAtLeast_25 : decode cX5_firstLimitAtLeast 25 = .ok (.iconst 0, 1) := by decide +kernel
theorem dX5_firstLimitAtLeast_26 : decode cX5_firstLimitAtLeast 26 = .ok (.invokevirtual 58, 3) := by decide +kernel
theorem dX5_firstLimitAtLeast_29 : decode cX5_firstLimitAtLeast 29 = .ok (.iload_n 1, 1) := by decide +kernel
theorem dX5_firstLimitAtLeast_30 : decode cX5_firstLimitAtLeast 30 = .ok (.if_icmp .lt 5, 3) := by decide +kernel
theorem dX5_firstLimitAtLeast_33 : decode cX5_firstLimitAtLeast 33 = .ok (.iload_n 2, 1) := by decide +kernel
theorem dX5_firstLimitAtLeast_34 : decode cX5_firstLimitAtLeast 34 = .ok (.ireturn, 1) := by decide +kernel
theorem dX5_firstLimitAtLeast_35 : decode cX5_firstLimitAtLeast 35 = .ok (.iinc 2 1, 3) := by decide +kernel
theorem dX5_firstLimitAtLeast_38 : decode cX5_firstLimitAtLeast 38 = .ok (.goto (-29), 3) := by decide +kernel
theorem dX5_firstLimitAtLeast_41 : decode cX5_firstLimitAtLeast 41 = .ok (.iconst (-1), 1) := by decide +kernel
theorem dX5_firstLimitAtLeast_42 : decode cX5_firstLimitAtLeast 42 = .ok (.ireturn, 1) := by decide +kernel
theorem dX5_fewestTradesTo_0 : decode cX5_fewestTradesTo 0 = .ok (.iconst 1, 1) := by decide +kernel
theorem dX5_fewestTradesTo_1 : decode cX5_fewestTradesTo 1 = .ok (.iload_n 1, 1) := by decide +kernel
theorem dX5_fewestTradesTo_2 : decode cX5_fewestTradesTo 2 = .ok (.ishl, 1) := by decide +kernel
theorem dX5_fewestTradesTo_3 : decode cX5_fewestTradesTo 3 = .ok (.istore_n 3, 1) := by decide +kernel
theorem dX5_fewestTradesTo_4 : decode cX5_fewestTradesTo 4 = .ok (.iconst 0, 1) := by decide +kernel
theorem dX5_fewestTradesTo_5 : decode cX5_fewestTradesTo 5 = .ok (.istore 4, 2) := by decide +kernel
theorem dX5_fewestTradesTo_7 : decode cX5_fewestTradesTo 7 = .ok (.iload 4, 2) := by decide +kernel
theorem dX5_fewestTradesTo_9 : decode cX5_fewestTradesTo 9 = .ok (.bipush 6, 2) := by decide +kernel
theorem dX5_fewestTradesTo_11 : decode cX5_fewestTradesTo 11 = .ok (.if_icmp .ge 28, 3) := by decide +kernel
theorem dX5_fewestTradesTo_14 : decode cX5_fewestTradesTo 14 = .ok (.iload_n 3, 1) := by decide +kernel
theorem dX5_fewestTradesTo_15 : decode cX5_fewestTradesTo 15 = .ok (.iload_n 2, 1) := by decide +kernel
theorem dX5_fewestTradesTo_16 : decode cX5_fewestTradesTo 16 = .ok (.invokestatic 63, 3) := by decide +kernel
theorem dX5_fewestTradesTo_19 : decode cX5_fewestTradesTo 19 = .ok (.ifCond .eq 6, 3) := by decide +kernel
theorem dX5_fewestTradesTo_22 : decode cX5_fewestTradesTo 22 = .ok (.iload 4, 2) := by decide +kernel
theorem dX5_fewestTradesTo_24 : decode cX5_fewestTradesTo 24 = .ok (.ireturn, 1) := by decide +kernel
theorem dX5_fewestTradesTo_25 : decode cX5_fewestTradesTo 25 = .ok (.iload_n 3, 1) := by decide +kernel
theorem dX5_fewestTradesTo_26 : decode cX5_fewestTradesTo 26 = .ok (.aload_n 0, 1) := by decide +kernel
theorem dX5_fewestTradesTo_27 : decode cX5_fewestTradesTo 27 = .ok (.iload_n 3, 1) := by decide +kernel
theorem dX5_fewestTradesTo_28 : decode cX5_fewestTradesTo 28 = .ok (.invokevirtual 82, 3) := by decide +kernel
theorem dX5_fewestTradesTo_31 : decode cX5_fewestTradesTo 31 = .ok (.ior, 1) := by decide +kernel
theorem dX5_fewestTradesTo_32 : decode cX5_fewestTradesTo 32 = .ok (.istore_n 3, 1) := by decide +kernel
theorem dX5_fewestTradesTo_33 : decode cX5_fewestTradesTo 33 = .ok (.iinc 4 1, 3) := by decide +kernel
theorem dX5_fewestTradesTo_36 : decode cX5_fewestTradesTo 36 = .ok (.goto (-29), 3) := by decide +kernel
theorem dX5_fewestTradesTo_39 : decode cX5_fewestTradesTo 39 = .ok (.iconst (-1), 1) := by decide +kernel
theorem dX5_fewestTradesTo_40 : decode cX5_fewestTradesTo 40 = .ok (.ireturn, 1) := by decide +kernel
theorem dX5_kindsBehind_0 : decode cX5_kindsBehind 0 = .ok (.iconst 0, 1) := by decide +kernel
theorem dX5_kindsBehind_1 : decode cX5_kindsBehind 1 = .ok (.istore_n 2, 1) := by decide +kernel
theorem dX5_kindsBehind_2 : decode cX5_kindsBehind 2 = .ok (.iconst 0, 1) := by decide +kernel
theorem dX5_kindsBehind_3 : decode cX5_kindsBehind 3 = .ok (.istore_n 3, 1) := by decide +kernel
theorem dX5_kindsBehind_4 : decode cX5_kindsBehind 4 = .ok (.iload_n 3, 1) := by decide +kernel
theorem dX5_kindsBehind_5 : decode cX5_kindsBehind 5 = .ok (.aload_n 0, 1) := by decide +kernel
theorem dX5_kindsBehind_6 : decode cX5_kindsBehind 6 = .ok (.getfield 26, 3) := by decide +kernel
theorem dX5_kindsBehind_9 : decode cX5_kindsBehind 9 = .ok (.getfield 42, 3) := by decide +kernel
theorem dX5_kindsBehind_12 : decode cX5_kindsBehind 12 = .ok (.if_icmp .ge 39, 3) := by decide +kernel
theorem dX5_kindsBehind_15 : decode cX5_kindsBehind 15 = .ok (.iload_n 1, 1) := by decide +kernel
theorem dX5_kindsBehind_16 : decode cX5_kindsBehind 16 = .ok (.aload_n 0, 1) := by decide +kernel
theorem dX5_kindsBehind_17 : decode cX5_kindsBehind 17 = .ok (.getfield 26, 3) := by decide +kernel
theorem dX5_kindsBehind_20 : decode cX5_kindsBehind 20 = .ok (.iload_n 3, 1) := by decide +kernel
theorem dX5_kindsBehind_21 : decode cX5_kindsBehind 21 = .ok (.iconst 0, 1) := by decide +kernel
theorem dX5_kindsBehind_22 : decode cX5_kindsBehind 22 = .ok (.invokevirtual 58, 3) := by decide +kernel
theorem dX5_kindsBehind_25 : decode cX5_kindsBehind 25 = .ok (.invokestatic 63, 3) := by decide +kernel
theorem dX5_kindsBehind_28 : decode cX5_kindsBehind 28 = .ok (.ifCond .eq 17, 3) := by decide +kernel
theorem dX5_kindsBehind_31 : decode cX5_kindsBehind 31 = .ok (.iload_n 2, 1) := by decide +kernel
theorem dX5_kindsBehind_32 : decode cX5_kindsBehind 32 = .ok (.iconst 1, 1) := by decide +kernel
theorem dX5_kindsBehind_33 : decode cX5_kindsBehind 33 = .ok (.aload_n 0, 1) := by decide +kernel
theorem dX5_kindsBehind_34 : decode cX5_kindsBehind 34 = .ok (.getfield 26, 3) := by decide +kernel
theorem dX5_kindsBehind_37 : decode cX5_kindsBehind 37 = .ok (.iload_n 3, 1) := by decide +kernel
theorem dX5_kindsBehind_38 : decode cX5_kindsBehind 38 = .ok (.iconst 1, 1) := by decide +kernel
theorem dX5_kindsBehind_39 : decode cX5_kindsBehind 39 = .ok (.invokevirtual 58, 3) := by decide +kernel
theorem dX5_kindsBehind_42 : decode cX5_kindsBehind 42 = .ok (.ishl, 1) := by decide +kernel
theorem dX5_kindsBehind_43 : decode cX5_kindsBehind 43 = .ok (.ior, 1) := by decide +kernel
theorem dX5_kindsBehind_44 : decode cX5_kindsBehind 44 = .ok (.istore_n 2, 1) := by decide +kernel
theorem dX5_kindsBehind_45 : decode cX5_kindsBehind 45 = .ok (.iinc 3 1, 3) := by decide +kernel
theorem dX5_kindsBehind_48 : decode cX5_kindsBehind 48 = .ok (.goto (-44), 3) := by decide +kernel
theorem dX5_kindsBehind_51 : decode cX5_kindsBehind 51 = .ok (.iload_n 2, 1) := by decide +kernel
theorem dX5_kindsBehind_52 : decode cX5_kindsBehind 52 = .ok (.ireturn, 1) := by decide +kernel
theorem dX5_fewestTradesBack_0 : decode cX5_fewestTradesBack 0 = .ok (.iconst 1, 1) := by decide +kernel
theorem dX5_fewestTradesBack_1 : decode cX5_fewestTradesBack 1 = .ok (.aload_n 0, 1) := by decide +kernel
theorem dX5_fewestTradesBack_2 : decode cX5_fewestTradesBack 2 = .ok (.getfield 26, 3) := by decide +kernel
theorem dX5_fewestTradesBack_5 : decode cX5_fewestTradesBack 5 = .ok (.getfield 42, 3) := by decide +kernel
theorem dX5_fewestTradesBack_8 : decode cX5_fewestTradesBack 8 = .ok (.ishl, 1) := by decide +kernel
theorem dX5_fewestTradesBack_9 : decode cX5_fewestTradesBack 9 = .ok (.aload_n 0, 1) := by decide +kernel
theorem dX5_fewestTradesBack_10 : decode cX5_fewestTradesBack 10 = .ok (.getfield 34, 3) := by decide +kernel
theorem dX5_fewestTradesBack_13 : decode cX5_fewestTradesBack 13 = .ok (.arraylength, 1) := by decide +kernel
theorem dX5_fewestTradesBack_14 : decode cX5_fewestTradesBack 14 = .ok (.invokestatic 46, 3) := by decide +kernel
theorem dX5_fewestTradesBack_17 : decode cX5_fewestTradesBack 17 = .ok (.istore_n 2, 1) := by decide +kernel
theorem dX5_fewestTradesBack_18 : decode cX5_fewestTradesBack 18 = .ok (.iconst 0, 1) := by decide +kernel
theorem dX5_fewestTradesBack_19 : decode cX5_fewestTradesBack 19 = .ok (.istore_n 3, 1) := by decide +kernel
theorem dX5_fewestTradesBack_20 : decode cX5_fewestTradesBack 20 = .ok (.iload_n 3, 1) := by decide +kernel
theorem dX5_fewestTradesBack_21 : decode cX5_fewestTradesBack 21 = .ok (.iload_n 2, 1) := by decide +kernel
theorem dX5_fewestTradesBack_22 : decode cX5_fewestTradesBack 22 = .ok (.if_icmp .ge 16, 3) := by decide +kernel
theorem dX5_fewestTradesBack_25 : decode cX5_fewestTradesBack 25 = .ok (.aload_n 0, 1) := by decide +kernel
theorem dX5_fewestTradesBack_26 : decode cX5_fewestTradesBack 26 = .ok (.getfield 34, 3) := by decide +kernel
theorem dX5_fewestTradesBack_29 : decode cX5_fewestTradesBack 29 = .ok (.iload_n 3, 1) := by decide +kernel
theorem dX5_fewestTradesBack_30 : decode cX5_fewestTradesBack 30 = .ok (.iconst 0, 1) := by decide +kernel
theorem dX5_fewestTradesBack_31 : decode cX5_fewestTradesBack 31 = .ok (.iastore, 1) := by decide +kernel
theorem dX5_fewestTradesBack_32 : decode cX5_fewestTradesBack 32 = .ok (.iinc 3 1, 3) := by decide +kernel
theorem dX5_fewestTradesBack_35 : decode cX5_fewestTradesBack 35 = .ok (.goto (-15), 3) := by decide +kernel
theorem dX5_fewestTradesBack_38 : decode cX5_fewestTradesBack 38 = .ok (.aload_n 0, 1) := by decide +kernel
theorem dX5_fewestTradesBack_39 : decode cX5_fewestTradesBack 39 = .ok (.getfield 34, 3) := by decide +kernel
theorem dX5_fewestTradesBack_42 : decode cX5_fewestTradesBack 42 = .ok (.iconst 0, 1) := by decide +kernel
theorem dX5_fewestTradesBack_43 : decode cX5_fewestTradesBack 43 = .ok (.iconst 1, 1) := by decide +kernel
theorem dX5_fewestTradesBack_44 : decode cX5_fewestTradesBack 44 = .ok (.iload_n 1, 1) := by decide +kernel
theorem dX5_fewestTradesBack_45 : decode cX5_fewestTradesBack 45 = .ok (.ishl, 1) := by decide +kernel
theorem dX5_fewestTradesBack_46 : decode cX5_fewestTradesBack 46 = .ok (.iastore, 1) := by decide +kernel
theorem dX5_fewestTradesBack_47 : decode cX5_fewestTradesBack 47 = .ok (.iconst (-1), 1) := by decide +kernel
theorem dX5_fewestTradesBack_48 : decode cX5_fewestTradesBack 48 = .ok (.istore_n 3, 1) := by decide +kernel
theorem dX5_fewestTradesBack_49 : decode cX5_fewestTradesBack 49 = .ok (.iconst 0, 1) := by decide +kernel
theorem dX5_fewestTradesBack_50 : decode cX5_fewestTradesBack 50 = .ok (.istore 4, 2) := by decide +kernel
theorem dX5_fewestTradesBack_52 : decode cX5_fewestTradesBack 52 = .ok (.iload 4, 2) := by decide +kernel
theorem dX5_fewestTradesBack_54 : decode cX5_fewestTradesBack 54 = .ok (.iload_n 2, 1) := by decide +kernel
theorem dX5_fewestTradesBack_55 : decode cX5_fewestTradesBack 55 = .ok (.if_icmp .ge 60, 3) := by decide +kernel
theorem dX5_fewestTradesBack_58 : decode cX5_fewestTradesBack 58 = .ok (.iload 4, 2) := by decide +kernel
theorem dX5_fewestTradesBack_60 : decode cX5_fewestTradesBack 60 = .ok (.invokestatic 85, 3) := by decide +kernel
theorem dX5_fewestTradesBack_63 : decode cX5_fewestTradesBack 63 = .ok (.istore 5, 2) := by decide +kernel
theorem dX5_fewestTradesBack_65 : decode cX5_fewestTradesBack 65 = .ok (.aload_n 0, 1) := by decide +kernel
theorem dX5_fewestTradesBack_66 : decode cX5_fewestTradesBack 66 = .ok (.getfield 34, 3) := by decide +kernel
theorem dX5_fewestTradesBack_69 : decode cX5_fewestTradesBack 69 = .ok (.iload 4, 2) := by decide +kernel
theorem dX5_fewestTradesBack_71 : decode cX5_fewestTradesBack 71 = .ok (.iaload, 1) := by decide +kernel
theorem dX5_fewestTradesBack_72 : decode cX5_fewestTradesBack 72 = .ok (.iload_n 1, 1) := by decide +kernel
theorem dX5_fewestTradesBack_73 : decode cX5_fewestTradesBack 73 = .ok (.invokestatic 63, 3) := by decide +kernel
theorem dX5_fewestTradesBack_76 : decode cX5_fewestTradesBack 76 = .ok (.ifCond .eq 26, 3) := by decide +kernel
theorem dX5_fewestTradesBack_79 : decode cX5_fewestTradesBack 79 = .ok (.iload_n 3, 1) := by decide +kernel
theorem dX5_fewestTradesBack_80 : decode cX5_fewestTradesBack 80 = .ok (.iconst (-1), 1) := by decide +kernel
theorem dX5_fewestTradesBack_81 : decode cX5_fewestTradesBack 81 = .ok (.if_icmp .eq 9, 3) := by decide +kernel
theorem dX5_fewestTradesBack_84 : decode cX5_fewestTradesBack 84 = .ok (.iload 5, 2) := by decide +kernel
theorem dX5_fewestTradesBack_86 : decode cX5_fewestTradesBack 86 = .ok (.iload_n 3, 1) := by decide +kernel
theorem dX5_fewestTradesBack_87 : decode cX5_fewestTradesBack 87 = .ok (.if_icmp .ge 15, 3) := by decide +kernel
theorem dX5_fewestTradesBack_90 : decode cX5_fewestTradesBack 90 = .ok (.aload_n 0, 1) := by decide +kernel
theorem dX5_fewestTradesBack_91 : decode cX5_fewestTradesBack 91 = .ok (.iload 4, 2) := by decide +kernel
theorem dX5_fewestTradesBack_93 : decode cX5_fewestTradesBack 93 = .ok (.invokevirtual 90, 3) := by decide +kernel
theorem dX5_fewestTradesBack_96 : decode cX5_fewestTradesBack 96 = .ok (.ifCond .eq 6, 3) := by decide +kernel
theorem dX5_fewestTradesBack_99 : decode cX5_fewestTradesBack 99 = .ok (.iload 5, 2) := by decide +kernel
theorem dX5_fewestTradesBack_101 : decode cX5_fewestTradesBack 101 = .ok (.istore_n 3, 1) := by decide +kernel
theorem dX5_fewestTradesBack_102 : decode cX5_fewestTradesBack 102 = .ok (.aload_n 0, 1) := by decide +kernel
theorem dX5_fewestTradesBack_103 : decode cX5_fewestTradesBack 103 = .ok (.iload 4, 2) := by decide +kernel
theorem dX5_fewestTradesBack_105 : decode cX5_fewestTradesBack 105 = .ok (.iload_n 2, 1) := by decide +kernel
theorem dX5_fewestTradesBack_106 : decode cX5_fewestTradesBack 106 = .ok (.invokevirtual 94, 3) := by decide +kernel
theorem dX5_fewestTradesBack_109 : decode cX5_fewestTradesBack 109 = .ok (.iinc 4 1, 3) := by decide +kernel
theorem dX5_fewestTradesBack_112 : decode cX5_fewestTradesBack 112 = .ok (.goto (-60), 3) := by decide +kernel
theorem dX5_fewestTradesBack_115 : decode cX5_fewestTradesBack 115 = .ok (.iload_n 3, 1) := by decide +kernel
theorem dX5_fewestTradesBack_116 : decode cX5_fewestTradesBack 116 = .ok (.ireturn, 1) := by decide +kernel
theorem dX5_walkOn_0 : decode cX5_walkOn 0 = .ok (.iconst 0, 1) := by decide +kernel
theorem dX5_walkOn_1 : decode cX5_walkOn 1 = .ok (.istore_n 3, 1) := by decide +kernel
theorem dX5_walkOn_2 : decode cX5_walkOn 2 = .ok (.iload_n 3, 1) := by decide +kernel
theorem dX5_walkOn_3 : decode cX5_walkOn 3 = .ok (.aload_n 0, 1) := by decide +kernel
theorem dX5_walkOn_4 : decode cX5_walkOn 4 = .ok (.getfield 26, 3) := by decide +kernel
theorem dX5_walkOn_7 : decode cX5_walkOn 7 = .ok (.getfield 42, 3) := by decide +kernel
theorem dX5_walkOn_10 : decode cX5_walkOn 10 = .ok (.if_icmp .ge 92, 3) := by decide +kernel
theorem dX5_walkOn_13 : decode cX5_walkOn 13 = .ok (.iload_n 1, 1) := by decide +kernel
theorem dX5_walkOn_14 : decode cX5_walkOn 14 = .ok (.iconst 1, 1) := by decide +kernel
theorem dX5_walkOn_15 : decode cX5_walkOn 15 = .ok (.iload_n 3, 1) := by decide +kernel
theorem dX5_walkOn_16 : decode cX5_walkOn 16 = .ok (.ishl, 1) := by decide +kernel
theorem dX5_walkOn_17 : decode cX5_walkOn 17 = .ok (.ior, 1) := by decide +kernel
theorem dX5_walkOn_18 : decode cX5_walkOn 18 = .ok (.istore 4, 2) := by decide +kernel
theorem dX5_walkOn_20 : decode cX5_walkOn 20 = .ok (.iload 4, 2) := by decide +kernel
theorem dX5_walkOn_22 : decode cX5_walkOn 22 = .ok (.iload_n 1, 1) := by decide +kernel
theorem dX5_walkOn_23 : decode cX5_walkOn 23 = .ok (.if_icmp .eq 44, 3) := by decide +kernel
theorem dX5_walkOn_26 : decode cX5_walkOn 26 = .ok (.iload 4, 2) := by decide +kernel
theorem dX5_walkOn_28 : decode cX5_walkOn 28 = .ok (.iload_n 2, 1) := by decide +kernel
theorem dX5_walkOn_29 : decode cX5_walkOn 29 = .ok (.if_icmp .ge 38, 3) := by decide +kernel
theorem dX5_walkOn_32 : decode cX5_walkOn 32 = .ok (.iload 4, 2) := by decide +kernel
theorem dX5_walkOn_34 : decode cX5_walkOn 34 = .ok (.aload_n 0, 1) := by decide +kernel
theorem dX5_walkOn_35 : decode cX5_walkOn 35 = .ok (.getfield 34, 3) := by decide +kernel
theorem dX5_walkOn_38 : decode cX5_walkOn 38 = .ok (.arraylength, 1) := by decide +kernel
theorem dX5_walkOn_39 : decode cX5_walkOn 39 = .ok (.if_icmp .ge 28, 3) := by decide +kernel
theorem dX5_walkOn_42 : decode cX5_walkOn 42 = .ok (.aload_n 0, 1) := by decide +kernel
theorem dX5_walkOn_43 : decode cX5_walkOn 43 = .ok (.getfield 34, 3) := by decide +kernel
theorem dX5_walkOn_46 : decode cX5_walkOn 46 = .ok (.iload_n 1, 1) := by decide +kernel
theorem dX5_walkOn_47 : decode cX5_walkOn 47 = .ok (.iaload, 1) := by decide +kernel
theorem dX5_walkOn_48 : decode cX5_walkOn 48 = .ok (.aload_n 0, 1) := by decide +kernel
theorem dX5_walkOn_49 : decode cX5_walkOn 49 = .ok (.getfield 26, 3) := by decide +kernel
theorem dX5_walkOn_52 : decode cX5_walkOn 52 = .ok (.iload_n 3, 1) := by decide +kernel
theorem dX5_walkOn_53 : decode cX5_walkOn 53 = .ok (.iconst 0, 1) := by decide +kernel
theorem dX5_walkOn_54 : decode cX5_walkOn 54 = .ok (.invokevirtual 58, 3) := by decide +kernel
theorem dX5_walkOn_57 : decode cX5_walkOn 57 = .ok (.invokestatic 63, 3) := by decide +kernel
theorem dX5_walkOn_60 : decode cX5_walkOn 60 = .ok (.ifCond .eq 7, 3) := by decide +kernel
theorem dX5_walkOn_63 : decode cX5_walkOn 63 = .ok (.iconst 1, 1) := by decide +kernel
theorem dX5_walkOn_64 : decode cX5_walkOn 64 = .ok (.goto 4, 3) := by decide +kernel
theorem dX5_walkOn_67 : decode cX5_walkOn 67 = .ok (.iconst 0, 1) := by decide +kernel
theorem dX5_walkOn_68 : decode cX5_walkOn 68 = .ok (.istore 5, 2) := by decide +kernel
theorem dX5_walkOn_70 : decode cX5_walkOn 70 = .ok (.iload 5, 2) := by decide +kernel
theorem dX5_walkOn_72 : decode cX5_walkOn 72 = .ok (.ifCond .eq 24, 3) := by decide +kernel
theorem dX5_walkOn_75 : decode cX5_walkOn 75 = .ok (.aload_n 0, 1) := by decide +kernel
theorem dX5_walkOn_76 : decode cX5_walkOn 76 = .ok (.getfield 34, 3) := by decide +kernel
theorem dX5_walkOn_79 : decode cX5_walkOn 79 = .ok (.iload 4, 2) := by decide +kernel
theorem dX5_walkOn_81 : decode cX5_walkOn 81 = .ok (.dup2, 1) := by decide +kernel
theorem dX5_walkOn_82 : decode cX5_walkOn 82 = .ok (.iaload, 1) := by decide +kernel
theorem dX5_walkOn_83 : decode cX5_walkOn 83 = .ok (.iconst 1, 1) := by decide +kernel
theorem dX5_walkOn_84 : decode cX5_walkOn 84 = .ok (.aload_n 0, 1) := by decide +kernel
theorem dX5_walkOn_85 : decode cX5_walkOn 85 = .ok (.getfield 26, 3) := by decide +kernel
theorem dX5_walkOn_88 : decode cX5_walkOn 88 = .ok (.iload_n 3, 1) := by decide +kernel
theorem dX5_walkOn_89 : decode cX5_walkOn 89 = .ok (.iconst 1, 1) := by decide +kernel
theorem dX5_walkOn_90 : decode cX5_walkOn 90 = .ok (.invokevirtual 58, 3) := by decide +kernel
theorem dX5_walkOn_93 : decode cX5_walkOn 93 = .ok (.ishl, 1) := by decide +kernel
theorem dX5_walkOn_94 : decode cX5_walkOn 94 = .ok (.ior, 1) := by decide +kernel
theorem dX5_walkOn_95 : decode cX5_walkOn 95 = .ok (.iastore, 1) := by decide +kernel
theorem dX5_walkOn_96 : decode cX5_walkOn 96 = .ok (.iinc 3 1, 3) := by decide +kernel
theorem dX5_walkOn_99 : decode cX5_walkOn 99 = .ok (.goto (-97), 3) := by decide +kernel
theorem dX5_walkOn_102 : decode cX5_walkOn 102 = .ok (.return_, 1) := by decide +kernel
theorem dX5_gains_0 : decode cX5_gains 0 = .ok (.iconst 1, 1) := by decide +kernel
theorem dX5_gains_1 : decode cX5_gains 1 = .ok (.istore_n 2, 1) := by decide +kernel
theorem dX5_gains_2 : decode cX5_gains 2 = .ok (.iconst 1, 1) := by decide +kernel
theorem dX5_gains_3 : decode cX5_gains 3 = .ok (.istore_n 3, 1) := by decide +kernel
theorem dX5_gains_4 : decode cX5_gains 4 = .ok (.iconst 0, 1) := by decide +kernel
theorem dX5_gains_5 : decode cX5_gains 5 = .ok (.istore 4, 2) := by decide +kernel
theorem dX5_gains_7 : decode cX5_gains 7 = .ok (.iload 4, 2) := by decide +kernel
theorem dX5_gains_9 : decode cX5_gains 9 = .ok (.aload_n 0, 1) := by decide +kernel
theorem dX5_gains_10 : decode cX5_gains 10 = .ok (.getfield 26, 3) := by decide +kernel
theorem dX5_gains_13 : decode cX5_gains 13 = .ok (.getfield 42, 3) := by decide +kernel
theorem dX5_gains_16 : decode cX5_gains 16 = .ok (.if_icmp .ge 44, 3) := by decide +kernel
theorem dX5_gains_19 : decode cX5_gains 19 = .ok (.iload_n 1, 1) := by decide +kernel
theorem dX5_gains_20 : decode cX5_gains 20 = .ok (.iload 4, 2) := by decide +kernel
theorem dX5_gains_22 : decode cX5_gains 22 = .ok (.invokestatic 63, 3) := by decide +kernel
theorem dX5_gains_25 : decode cX5_gains 25 = .ok (.ifCond .eq 29, 3) := by decide +kernel
theorem dX5_gains_28 : decode cX5_gains 28 = .ok (.iload_n 2, 1) := by decide +kernel
theorem dX5_gains_29 : decode cX5_gains 29 = .ok (.aload_n 0, 1) := by decide +kernel
theorem dX5_gains_30 : decode cX5_gains 30 = .ok (.getfield 26, 3) := by decide +kernel
theorem dX5_gains_33 : decode cX5_gains 33 = .ok (.iload 4, 2) := by decide +kernel
theorem dX5_gains_35 : decode cX5_gains 35 = .ok (.iconst 2, 1) := by decide +kernel
theorem dX5_gains_36 : decode cX5_gains 36 = .ok (.invokevirtual 58, 3) := by decide +kernel
theorem dX5_gains_39 : decode cX5_gains 39 = .ok (.imul, 1) := by decide +kernel
theorem dX5_gains_40 : decode cX5_gains 40 = .ok (.istore_n 2, 1) := by decide +kernel
theorem dX5_gains_41 : decode cX5_gains 41 = .ok (.iload_n 3, 1) := by decide +kernel
theorem dX5_gains_42 : decode cX5_gains 42 = .ok (.aload_n 0, 1) := by decide +kernel
theorem dX5_gains_43 : decode cX5_gains 43 = .ok (.getfield 26, 3) := by decide +kernel
theorem dX5_gains_46 : decode cX5_gains 46 = .ok (.iload 4, 2) := by decide +kernel
theorem dX5_gains_48 : decode cX5_gains 48 = .ok (.iconst 3, 1) := by decide +kernel
theorem dX5_gains_49 : decode cX5_gains 49 = .ok (.invokevirtual 58, 3) := by decide +kernel
theorem dX5_gains_52 : decode cX5_gains 52 = .ok (.imul, 1) := by decide +kernel
theorem dX5_gains_53 : decode cX5_gains 53 = .ok (.istore_n 3, 1) := by decide +kernel
theorem dX5_gains_54 : decode cX5_gains 54 = .ok (.iinc 4 1, 3) := by decide +kernel
theorem dX5_gains_57 : decode cX5_gains 57 = .ok (.goto (-50), 3) := by decide +kernel
theorem dX5_gains_60 : decode cX5_gains 60 = .ok (.iload_n 3, 1) := by decide +kernel
theorem dX5_gains_61 : decode cX5_gains 61 = .ok (.iload_n 2, 1) := by decide +kernel
theorem dX5_gains_62 : decode cX5_gains 62 = .ok (.if_icmp .le 7, 3) := by decide +kernel
theorem dX5_gains_65 : decode cX5_gains 65 = .ok (.iconst 1, 1) := by decide +kernel
theorem dX5_gains_66 : decode cX5_gains 66 = .ok (.goto 4, 3) := by decide +kernel
theorem dX5_gains_69 : decode cX5_gains 69 = .ok (.iconst 0, 1) := by decide +kernel
theorem dX5_gains_70 : decode cX5_gains 70 = .ok (.ireturn, 1) := by decide +kernel
theorem dX6_init_0 : decode cX6_init 0 = .ok (.aload_n 0, 1) := by decide +kernel
theorem dX6_init_1 : decode cX6_init 1 = .ok (.invokespecial 3, 3) := by decide +kernel
theorem dX6_init_4 : decode cX6_init 4 = .ok (.aload_n 0, 1) := by decide +kernel
theorem dX6_init_5 : decode cX6_init 5 = .ok (.new 9, 3) := by decide +kernel
theorem dX6_init_8 : decode cX6_init 8 = .ok (.dup, 1) := by decide +kernel
theorem dX6_init_9 : decode cX6_init 9 = .ok (.bipush 6, 2) := by decide +kernel
theorem dX6_init_11 : decode cX6_init 11 = .ok (.iconst 2, 1) := by decide +kernel
theorem dX6_init_12 : decode cX6_init 12 = .ok (.invokespecial 11, 3) := by decide +kernel
theorem dX6_init_15 : decode cX6_init 15 = .ok (.putfield 14, 3) := by decide +kernel
theorem dX6_init_18 : decode cX6_init 18 = .ok (.aload_n 0, 1) := by decide +kernel
theorem dX6_init_19 : decode cX6_init 19 = .ok (.new 9, 3) := by decide +kernel
theorem dX6_init_22 : decode cX6_init 22 = .ok (.dup, 1) := by decide +kernel
theorem dX6_init_23 : decode cX6_init 23 = .ok (.bipush 12, 2) := by decide +kernel
theorem dX6_init_25 : decode cX6_init 25 = .ok (.iconst 3, 1) := by decide +kernel
theorem dX6_init_26 : decode cX6_init 26 = .ok (.invokespecial 11, 3) := by decide +kernel
theorem dX6_init_29 : decode cX6_init 29 = .ok (.putfield 20, 3) := by decide +kernel
theorem dX6_init_32 : decode cX6_init 32 = .ok (.aload_n 0, 1) := by decide +kernel
theorem dX6_init_33 : decode cX6_init 33 = .ok (.new 9, 3) := by decide +kernel
theorem dX6_init_36 : decode cX6_init 36 = .ok (.dup, 1) := by decide +kernel
theorem dX6_init_37 : decode cX6_init 37 = .ok (.bipush 12, 2) := by decide +kernel
theorem dX6_init_39 : decode cX6_init 39 = .ok (.iconst 5, 1) := by decide +kernel
theorem dX6_init_40 : decode cX6_init 40 = .ok (.invokespecial 11, 3) := by decide +kernel
theorem dX6_init_43 : decode cX6_init 43 = .ok (.putfield 23, 3) := by decide +kernel
theorem dX6_init_46 : decode cX6_init 46 = .ok (.aload_n 0, 1) := by decide +kernel
theorem dX6_init_47 : decode cX6_init 47 = .ok (.new 9, 3) := by decide +kernel
theorem dX6_init_50 : decode cX6_init 50 = .ok (.dup, 1) := by decide +kernel
theorem dX6_init_51 : decode cX6_init 51 = .ok (.bipush 12, 2) := by decide +kernel
theorem dX6_init_53 : decode cX6_init 53 = .ok (.bipush 7, 2) := by decide +kernel
theorem dX6_init_55 : decode cX6_init 55 = .ok (.invokespecial 11, 3) := by decide +kernel
theorem dX6_init_58 : decode cX6_init 58 = .ok (.putfield 26, 3) := by decide +kernel
theorem dX6_init_61 : decode cX6_init 61 = .ok (.aload_n 0, 1) := by decide +kernel
theorem dX6_init_62 : decode cX6_init 62 = .ok (.new 9, 3) := by decide +kernel
theorem dX6_init_65 : decode cX6_init 65 = .ok (.dup, 1) := by decide +kernel
theorem dX6_init_66 : decode cX6_init 66 = .ok (.bipush 14, 2) := by decide +kernel
theorem dX6_init_68 : decode cX6_init 68 = .ok (.iconst 5, 1) := by decide +kernel
theorem dX6_init_69 : decode cX6_init 69 = .ok (.invokespecial 11, 3) := by decide +kernel
theorem dX6_init_72 : decode cX6_init 72 = .ok (.putfield 29, 3) := by decide +kernel
theorem dX6_init_75 : decode cX6_init 75 = .ok (.aload_n 0, 1) := by decide +kernel
theorem dX6_init_76 : decode cX6_init 76 = .ok (.new 9, 3) := by decide +kernel
theorem dX6_init_79 : decode cX6_init 79 = .ok (.dup, 1) := by decide +kernel
theorem dX6_init_80 : decode cX6_init 80 = .ok (.sipush 150, 3) := by decide +kernel
theorem dX6_init_83 : decode cX6_init 83 = .ok (.iconst 4, 1) := by decide +kernel
theorem dX6_init_84 : decode cX6_init 84 = .ok (.invokespecial 11, 3) := by decide +kernel
theorem dX6_init_87 : decode cX6_init 87 = .ok (.putfield 32, 3) := by decide +kernel
theorem dX6_init_90 : decode cX6_init 90 = .ok (.aload_n 0, 1) := by decide +kernel
theorem dX6_init_91 : decode cX6_init 91 = .ok (.new 35, 3) := by decide +kernel
theorem dX6_init_94 : decode cX6_init 94 = .ok (.dup, 1) := by decide +kernel
theorem dX6_init_95 : decode cX6_init 95 = .ok (.invokespecial 37, 3) := by decide +kernel
theorem dX6_init_98 : decode cX6_init 98 = .ok (.putfield 38, 3) := by decide +kernel
theorem dX6_init_101 : decode cX6_init 101 = .ok (.aload_n 0, 1) := by decide +kernel
theorem dX6_init_102 : decode cX6_init 102 = .ok (.new 42, 3) := by decide +kernel
theorem dX6_init_105 : decode cX6_init 105 = .ok (.dup, 1) := by decide +kernel
theorem dX6_init_106 : decode cX6_init 106 = .ok (.invokespecial 44, 3) := by decide +kernel
theorem dX6_init_109 : decode cX6_init 109 = .ok (.putfield 45, 3) := by decide +kernel
theorem dX6_init_112 : decode cX6_init 112 = .ok (.aload_n 0, 1) := by decide +kernel
theorem dX6_init_113 : decode cX6_init 113 = .ok (.bipush 7, 2) := by decide +kernel
theorem dX6_init_115 : decode cX6_init 115 = .ok (.newarray .int, 2) := by decide +kernel
theorem dX6_init_117 : decode cX6_init 117 = .ok (.putfield 49, 3) := by decide +kernel
theorem dX6_init_120 : decode cX6_init 120 = .ok (.aload_n 0, 1) := by decide +kernel
theorem dX6_init_121 : decode cX6_init 121 = .ok (.bipush 100, 2) := by decide +kernel
theorem dX6_init_123 : decode cX6_init 123 = .ok (.putfield 53, 3) := by decide +kernel
theorem dX6_init_126 : decode cX6_init 126 = .ok (.return_, 1) := by decide +kernel
theorem dX6_copyFrom_0 : decode cX6_copyFrom 0 = .ok (.aload_n 0, 1) := by decide +kernel
theorem dX6_copyFrom_1 : decode cX6_copyFrom 1 = .ok (.getfield 14, 3) := by decide +kernel
theorem dX6_copyFrom_4 : decode cX6_copyFrom 4 = .ok (.aload_n 1, 1) := by decide +kernel
theorem dX6_copyFrom_5 : decode cX6_copyFrom 5 = .ok (.getfield 14, 3) := by decide +kernel
theorem dX6_copyFrom_8 : decode cX6_copyFrom 8 = .ok (.invokevirtual 57, 3) := by decide +kernel
theorem dX6_copyFrom_11 : decode cX6_copyFrom 11 = .ok (.aload_n 0, 1) := by decide +kernel
theorem dX6_copyFrom_12 : decode cX6_copyFrom 12 = .ok (.getfield 20, 3) := by decide +kernel
theorem dX6_copyFrom_15 : decode cX6_copyFrom 15 = .ok (.aload_n 1, 1) := by decide +kernel
theorem dX6_copyFrom_16 : decode cX6_copyFrom 16 = .ok (.getfield 20, 3) := by decide +kernel
theorem dX6_copyFrom_19 : decode cX6_copyFrom 19 = .ok (.invokevirtual 57, 3) := by decide +kernel
theorem dX6_copyFrom_22 : decode cX6_copyFrom 22 = .ok (.aload_n 0, 1) := by decide +kernel
theorem dX6_copyFrom_23 : decode cX6_copyFrom 23 = .ok (.getfield 23, 3) := by decide +kernel
theorem dX6_copyFrom_26 : decode cX6_copyFrom 26 = .ok (.aload_n 1, 1) := by decide +kernel
theorem dX6_copyFrom_27 : decode cX6_copyFrom 27 = .ok (.getfield 23, 3) := by decide +kernel
theorem dX6_copyFrom_30 : decode cX6_copyFrom 30 = .ok (.invokevirtual 57, 3) := by decide +kernel
theorem dX6_copyFrom_33 : decode cX6_copyFrom 33 = .ok (.aload_n 0, 1) := by decide +kernel
theorem dX6_copyFrom_34 : decode cX6_copyFrom 34 = .ok (.getfield 26, 3) := by decide +kernel
theorem dX6_copyFrom_37 : decode cX6_copyFrom 37 = .ok (.aload_n 1, 1) := by decide +kernel
theorem dX6_copyFrom_38 : decode cX6_copyFrom 38 = .ok (.getfield 26, 3) := by decide +kernel
theorem dX6_copyFrom_41 : decode cX6_copyFrom 41 = .ok (.invokevirtual 57, 3) := by decide +kernel
theorem dX6_copyFrom_44 : decode cX6_copyFrom 44 = .ok (.aload_n 0, 1) := by decide +kernel
theorem dX6_copyFrom_45 : decode cX6_copyFrom 45 = .ok (.getfield 29, 3) := by decide +kernel
theorem dX6_copyFrom_48 : decode cX6_copyFrom 48 = .ok (.aload_n 1, 1) := by decide +kernel
theorem dX6_copyFrom_49 : decode cX6_copyFrom 49 = .ok (.getfield 29, 3) := by decide +kernel
theorem dX6_copyFrom_52 : decode cX6_copyFrom 52 = .ok (.invokevirtual 57, 3) := by decide +kernel
theorem dX6_copyFrom_55 : decode cX6_copyFrom 55 = .ok (.aload_n 0, 1) := by decide +kernel
theorem dX6_copyFrom_56 : decode cX6_copyFrom 56 = .ok (.getfield 32, 3) := by decide +kernel
theorem dX6_copyFrom_59 : decode cX6_copyFrom 59 = .ok (.aload_n 1, 1) := by decide +kernel
theorem dX6_copyFrom_60 : decode cX6_copyFrom 60 = .ok (.getfield 32, 3) := by decide +kernel
theorem dX6_copyFrom_63 : decode cX6_copyFrom 63 = .ok (.invokevirtual 57, 3) := by decide +kernel
theorem dX6_copyFrom_66 : decode cX6_copyFrom 66 = .ok (.aload_n 0, 1) := by decide +kernel
theorem dX6_copyFrom_67 : decode cX6_copyFrom 67 = .ok (.getfield 38, 3) := by decide +kernel
theorem dX6_copyFrom_70 : decode cX6_copyFrom 70 = .ok (.aload_n 1, 1) := by decide +kernel
theorem dX6_copyFrom_71 : decode cX6_copyFrom 71 = .ok (.getfield 38, 3) := by decide +kernel
theorem dX6_copyFrom_74 : decode cX6_copyFrom 74 = .ok (.invokevirtual 61, 3) := by decide +kernel
theorem dX6_copyFrom_77 : decode cX6_copyFrom 77 = .ok (.aload_n 0, 1) := by decide +kernel
theorem dX6_copyFrom_78 : decode cX6_copyFrom 78 = .ok (.aload_n 1, 1) := by decide +kernel
theorem dX6_copyFrom_79 : decode cX6_copyFrom 79 = .ok (.getfield 64, 3) := by decide +kernel
theorem dX6_copyFrom_82 : decode cX6_copyFrom 82 = .ok (.putfield 64, 3) := by decide +kernel
theorem dX6_copyFrom_85 : decode cX6_copyFrom 85 = .ok (.aload_n 0, 1) := by decide +kernel
theorem dX6_copyFrom_86 : decode cX6_copyFrom 86 = .ok (.aload_n 1, 1) := by decide +kernel
theorem dX6_copyFrom_87 : decode cX6_copyFrom 87 = .ok (.getfield 67, 3) := by decide +kernel
theorem dX6_copyFrom_90 : decode cX6_copyFrom 90 = .ok (.putfield 67, 3) := by decide +kernel
theorem dX6_copyFrom_93 : decode cX6_copyFrom 93 = .ok (.aload_n 0, 1) := by decide +kernel
theorem dX6_copyFrom_94 : decode cX6_copyFrom 94 = .ok (.aload_n 1, 1) := by decide +kernel
theorem dX6_copyFrom_95 : decode cX6_copyFrom 95 = .ok (.getfield 53, 3) := by decide +kernel
theorem dX6_copyFrom_98 : decode cX6_copyFrom 98 = .ok (.putfield 53, 3) := by decide +kernel
theorem dX6_copyFrom_101 : decode cX6_copyFrom 101 = .ok (.aload_n 0, 1) := by decide +kernel
theorem dX6_copyFrom_102 : decode cX6_copyFrom 102 = .ok (.aload_n 1, 1) := by decide +kernel
theorem dX6_copyFrom_103 : decode cX6_copyFrom 103 = .ok (.getfield 70, 3) := by decide +kernel
theorem dX6_copyFrom_106 : decode cX6_copyFrom 106 = .ok (.putfield 70, 3) := by decide +kernel
theorem dX6_copyFrom_109 : decode cX6_copyFrom 109 = .ok (.aload_n 0, 1) := by decide +kernel
theorem dX6_copyFrom_110 : decode cX6_copyFrom 110 = .ok (.aload_n 1, 1) := by decide +kernel
theorem dX6_copyFrom_111 : decode cX6_copyFrom 111 = .ok (.getfield 73, 3) := by decide +kernel
theorem dX6_copyFrom_114 : decode cX6_copyFrom 114 = .ok (.putfield 73, 3) := by decide +kernel
theorem dX6_copyFrom_117 : decode cX6_copyFrom 117 = .ok (.aload_n 0, 1) := by decide +kernel
theorem dX6_copyFrom_118 : decode cX6_copyFrom 118 = .ok (.aload_n 1, 1) := by decide +kernel
theorem dX6_copyFrom_119 : decode cX6_copyFrom 119 = .ok (.getfield 76, 3) := by decide +kernel
theorem dX6_copyFrom_122 : decode cX6_copyFrom 122 = .ok (.putfield 76, 3) := by decide +kernel
theorem dX6_copyFrom_125 : decode cX6_copyFrom 125 = .ok (.aload_n 0, 1) := by decide +kernel
theorem dX6_copyFrom_126 : decode cX6_copyFrom 126 = .ok (.aload_n 1, 1) := by decide +kernel
theorem dX6_copyFrom_127 : decode cX6_copyFrom 127 = .ok (.getfield 79, 3) := by decide +kernel
theorem dX6_copyFrom_130 : decode cX6_copyFrom 130 = .ok (.putfield 79, 3) := by decide +kernel
theorem dX6_copyFrom_133 : decode cX6_copyFrom 133 = .ok (.return_, 1) := by decide +kernel
theorem dX6_linesOf_0 : decode cX6_linesOf 0 = .ok (.iload_n 1, 1) := by decide +kernel
theorem dX6_linesOf_1 : decode cX6_linesOf 1 = .ok (.tableswitch 46 0 3 #[31, 46, 36, 41], 31) := by decide +kernel
theorem dX6_linesOf_32 : decode cX6_linesOf 32 = .ok (.aload_n 0, 1) := by decide +kernel
theorem dX6_linesOf_33 : decode cX6_linesOf 33 = .ok (.getfield 14, 3) := by decide +kernel
theorem dX6_linesOf_36 : decode cX6_linesOf 36 = .ok (.areturn, 1) := by decide +kernel
theorem dX6_linesOf_37 : decode cX6_linesOf 37 = .ok (.aload_n 0, 1) := by decide +kernel
theorem dX6_linesOf_38 : decode cX6_linesOf 38 = .ok (.getfield 20, 3) := by decide +kernel
theorem dX6_linesOf_41 : decode cX6_linesOf 41 = .ok (.areturn, 1) := by decide +kernel
theorem dX6_linesOf_42 : decode cX6_linesOf 42 = .ok (.aload_n 0, 1) := by decide +kernel
theorem dX6_linesOf_43 : decode cX6_linesOf 43 = .ok (.getfield 23, 3) := by decide +kernel
theorem dX6_linesOf_46 : decode cX6_linesOf 46 = .ok (.areturn, 1) := by decide +kernel
theorem dX6_linesOf_47 : decode cX6_linesOf 47 = .ok (.aload_n 0, 1) := by decide +kernel
theorem dX6_linesOf_48 : decode cX6_linesOf 48 = .ok (.getfield 26, 3) := by decide +kernel
theorem dX6_linesOf_51 : decode cX6_linesOf 51 = .ok (.areturn, 1) := by decide +kernel
theorem dX6_feastCanBe_0 : decode cX6_feastCanBe 0 = .ok (.aload_n 0, 1) := by decide +kernel
theorem dX6_feastCanBe_1 : decode cX6_feastCanBe 1 = .ok (.getfield 14, 3) := by decide +kernel
theorem dX6_feastCanBe_4 : decode cX6_feastCanBe 4 = .ok (.iload_n 1, 1) := by decide +kernel
theorem dX6_feastCanBe_5 : decode cX6_feastCanBe 5 = .ok (.invokevirtual 82, 3) := by decide +kernel
theorem dX6_feastCanBe_8 : decode cX6_feastCanBe 8 = .ok (.ifCond .eq 17, 3) := by decide +kernel
theorem dX6_feastCanBe_11 : decode cX6_feastCanBe 11 = .ok (.iload_n 2, 1) := by decide +kernel
theorem dX6_feastCanBe_12 : decode cX6_feastCanBe 12 = .ok (.iconst 1, 1) := by decide +kernel
theorem dX6_feastCanBe_13 : decode cX6_feastCanBe 13 = .ok (.bipush 20, 2) := by decide +kernel
theorem dX6_feastCanBe_15 : decode cX6_feastCanBe 15 = .ok (.invokestatic 86, 3) := by decide +kernel
theorem dX6_feastCanBe_18 : decode cX6_feastCanBe 18 = .ok (.ifCond .eq 7, 3) := by decide +kernel
theorem dX6_feastCanBe_21 : decode cX6_feastCanBe 21 = .ok (.iconst 1, 1) := by decide +kernel
theorem dX6_feastCanBe_22 : decode cX6_feastCanBe 22 = .ok (.goto 4, 3) := by decide +kernel
theorem dX6_feastCanBe_25 : decode cX6_feastCanBe 25 = .ok (.iconst 0, 1) := by decide +kernel
theorem dX6_feastCanBe_26 : decode cX6_feastCanBe 26 = .ok (.ireturn, 1) := by decide +kernel
theorem dX6_forgingCanBe_0 : decode cX6_forgingCanBe 0 = .ok (.aload_n 0, 1) := by decide +kernel
theorem dX6_forgingCanBe_1 : decode cX6_forgingCanBe 1 = .ok (.getfield 14, 3) := by decide +kernel
theorem dX6_forgingCanBe_4 : decode cX6_forgingCanBe 4 = .ok (.iload_n 1, 1) := by decide +kernel
theorem dX6_forgingCanBe_5 : decode cX6_forgingCanBe 5 = .ok (.invokevirtual 82, 3) := by decide +kernel
theorem dX6_forgingCanBe_8 : decode cX6_forgingCanBe 8 = .ok (.ifCond .eq 45, 3) := by decide +kernel
theorem dX6_forgingCanBe_11 : decode cX6_forgingCanBe 11 = .ok (.iload_n 2, 1) := by decide +kernel
theorem dX6_forgingCanBe_12 : decode cX6_forgingCanBe 12 = .ok (.iconst 1, 1) := by decide +kernel
theorem dX6_forgingCanBe_13 : decode cX6_forgingCanBe 13 = .ok (.aload_n 0, 1) := by decide +kernel
theorem dX6_forgingCanBe_14 : decode cX6_forgingCanBe 14 = .ok (.getfield 14, 3) := by decide +kernel
theorem dX6_forgingCanBe_17 : decode cX6_forgingCanBe 17 = .ok (.iload_n 1, 1) := by decide +kernel
theorem dX6_forgingCanBe_18 : decode cX6_forgingCanBe 18 = .ok (.iconst 0, 1) := by decide +kernel
theorem dX6_forgingCanBe_19 : decode cX6_forgingCanBe 19 = .ok (.invokevirtual 90, 3) := by decide +kernel
theorem dX6_forgingCanBe_22 : decode cX6_forgingCanBe 22 = .ok (.iconst 1, 1) := by decide +kernel
theorem dX6_forgingCanBe_23 : decode cX6_forgingCanBe 23 = .ok (.isub, 1) := by decide +kernel
theorem dX6_forgingCanBe_24 : decode cX6_forgingCanBe 24 = .ok (.invokestatic 86, 3) := by decide +kernel
theorem dX6_forgingCanBe_27 : decode cX6_forgingCanBe 27 = .ok (.ifCond .eq 26, 3) := by decide +kernel
theorem dX6_forgingCanBe_30 : decode cX6_forgingCanBe 30 = .ok (.aload_n 0, 1) := by decide +kernel
theorem dX6_forgingCanBe_31 : decode cX6_forgingCanBe 31 = .ok (.getfield 53, 3) := by decide +kernel
theorem dX6_forgingCanBe_34 : decode cX6_forgingCanBe 34 = .ok (.bipush 20, 2) := by decide +kernel
theorem dX6_forgingCanBe_36 : decode cX6_forgingCanBe 36 = .ok (.if_icmp .lt 17, 3) := by decide +kernel
theorem dX6_forgingCanBe_39 : decode cX6_forgingCanBe 39 = .ok (.aload_n 0, 1) := by decide +kernel
theorem dX6_forgingCanBe_40 : decode cX6_forgingCanBe 40 = .ok (.getfield 29, 3) := by decide +kernel
theorem dX6_forgingCanBe_43 : decode cX6_forgingCanBe 43 = .ok (.invokevirtual 94, 3) := by decide +kernel
theorem dX6_forgingCanBe_46 : decode cX6_forgingCanBe 46 = .ok (.ifCond .ne 7, 3) := by decide +kernel
theorem dX6_forgingCanBe_49 : decode cX6_forgingCanBe 49 = .ok (.iconst 1, 1) := by decide +kernel
theorem dX6_forgingCanBe_50 : decode cX6_forgingCanBe 50 = .ok (.goto 4, 3) := by decide +kernel
theorem dX6_forgingCanBe_53 : decode cX6_forgingCanBe 53 = .ok (.iconst 0, 1) := by decide +kernel
theorem dX6_forgingCanBe_54 : decode cX6_forgingCanBe 54 = .ok (.ireturn, 1) := by decide +kernel
theorem dX6_cutCanBe_0 : decode cX6_cutCanBe 0 = .ok (.aload_n 0, 1) := by decide +kernel
theorem dX6_cutCanBe_1 : decode cX6_cutCanBe 1 = .ok (.getfield 29, 3) := by decide +kernel
theorem dX6_cutCanBe_4 : decode cX6_cutCanBe 4 = .ok (.iload_n 1, 1) := by decide +kernel
theorem dX6_cutCanBe_5 : decode cX6_cutCanBe 5 = .ok (.invokevirtual 82, 3) := by decide +kernel
theorem dX6_cutCanBe_8 : decode cX6_cutCanBe 8 = .ok (.ifCond .eq 36, 3) := by decide +kernel
theorem dX6_cutCanBe_11 : decode cX6_cutCanBe 11 = .ok (.iload_n 2, 1) := by decide +kernel
theorem dX6_cutCanBe_12 : decode cX6_cutCanBe 12 = .ok (.iconst 1, 1) := by decide +kernel
theorem dX6_cutCanBe_13 : decode cX6_cutCanBe 13 = .ok (.aload_n 0, 1) := by decide +kernel
theorem dX6_cutCanBe_14 : decode cX6_cutCanBe 14 = .ok (.getfield 29, 3) := by decide +kernel
theorem dX6_cutCanBe_17 : decode cX6_cutCanBe 17 = .ok (.iload_n 1, 1) := by decide +kernel
theorem dX6_cutCanBe_18 : decode cX6_cutCanBe 18 = .ok (.iconst 1, 1) := by decide +kernel
theorem dX6_cutCanBe_19 : decode cX6_cutCanBe 19 = .ok (.invokevirtual 90, 3) := by decide +kernel
theorem dX6_cutCanBe_22 : decode cX6_cutCanBe 22 = .ok (.iconst 1, 1) := by decide +kernel
theorem dX6_cutCanBe_23 : decode cX6_cutCanBe 23 = .ok (.isub, 1) := by decide +kernel
theorem dX6_cutCanBe_24 : decode cX6_cutCanBe 24 = .ok (.invokestatic 86, 3) := by decide +kernel
theorem dX6_cutCanBe_27 : decode cX6_cutCanBe 27 = .ok (.ifCond .eq 17, 3) := by decide +kernel
theorem dX6_cutCanBe_30 : decode cX6_cutCanBe 30 = .ok (.aload_n 0, 1) := by decide +kernel
theorem dX6_cutCanBe_31 : decode cX6_cutCanBe 31 = .ok (.getfield 29, 3) := by decide +kernel
theorem dX6_cutCanBe_34 : decode cX6_cutCanBe 34 = .ok (.invokevirtual 94, 3) := by decide +kernel
theorem dX6_cutCanBe_37 : decode cX6_cutCanBe 37 = .ok (.ifCond .ne 7, 3) := by decide +kernel
theorem dX6_cutCanBe_40 : decode cX6_cutCanBe 40 = .ok (.iconst 1, 1) := by decide +kernel
theorem dX6_cutCanBe_41 : decode cX6_cutCanBe 41 = .ok (.goto 4, 3) := by decide +kernel
theorem dX6_cutCanBe_44 : decode cX6_cutCanBe 44 = .ok (.iconst 0, 1) := by decide +kernel
theorem dX6_cutCanBe_45 : decode cX6_cutCanBe 45 = .ok (.ireturn, 1) := by decide +kernel
theorem dX6_joiningCanBe_0 : decode cX6_joiningCanBe 0 = .ok (.aload_n 0, 1) := by decide +kernel
theorem dX6_joiningCanBe_1 : decode cX6_joiningCanBe 1 = .ok (.getfield 29, 3) := by decide +kernel
theorem dX6_joiningCanBe_4 : decode cX6_joiningCanBe 4 = .ok (.iload_n 1, 1) := by decide +kernel
theorem dX6_joiningCanBe_5 : decode cX6_joiningCanBe 5 = .ok (.invokevirtual 82, 3) := by decide +kernel
theorem dX6_joiningCanBe_8 : decode cX6_joiningCanBe 8 = .ok (.ifCond .eq 44, 3) := by decide +kernel
theorem dX6_joiningCanBe_11 : decode cX6_joiningCanBe 11 = .ok (.aload_n 0, 1) := by decide +kernel
theorem dX6_joiningCanBe_12 : decode cX6_joiningCanBe 12 = .ok (.getfield 29, 3) := by decide +kernel
theorem dX6_joiningCanBe_15 : decode cX6_joiningCanBe 15 = .ok (.iload_n 2, 1) := by decide +kernel
theorem dX6_joiningCanBe_16 : decode cX6_joiningCanBe 16 = .ok (.invokevirtual 82, 3) := by decide +kernel
theorem dX6_joiningCanBe_19 : decode cX6_joiningCanBe 19 = .ok (.ifCond .eq 33, 3) := by decide +kernel
theorem dX6_joiningCanBe_22 : decode cX6_joiningCanBe 22 = .ok (.iload_n 1, 1) := by decide +kernel
theorem dX6_joiningCanBe_23 : decode cX6_joiningCanBe 23 = .ok (.iload_n 2, 1) := by decide +kernel
theorem dX6_joiningCanBe_24 : decode cX6_joiningCanBe 24 = .ok (.if_icmp .eq 28, 3) := by decide +kernel
theorem dX6_joiningCanBe_27 : decode cX6_joiningCanBe 27 = .ok (.aload_n 0, 1) := by decide +kernel
theorem dX6_joiningCanBe_28 : decode cX6_joiningCanBe 28 = .ok (.getfield 29, 3) := by decide +kernel
theorem dX6_joiningCanBe_31 : decode cX6_joiningCanBe 31 = .ok (.iload_n 1, 1) := by decide +kernel
theorem dX6_joiningCanBe_32 : decode cX6_joiningCanBe 32 = .ok (.iconst 0, 1) := by decide +kernel
theorem dX6_joiningCanBe_33 : decode cX6_joiningCanBe 33 = .ok (.invokevirtual 90, 3) := by decide +kernel
theorem dX6_joiningCanBe_36 : decode cX6_joiningCanBe 36 = .ok (.aload_n 0, 1) := by decide +kernel
theorem dX6_joiningCanBe_37 : decode cX6_joiningCanBe 37 = .ok (.getfield 29, 3) := by decide +kernel
theorem dX6_joiningCanBe_40 : decode cX6_joiningCanBe 40 = .ok (.iload_n 2, 1) := by decide +kernel
theorem dX6_joiningCanBe_41 : decode cX6_joiningCanBe 41 = .ok (.iconst 0, 1) := by decide +kernel
theorem dX6_joiningCanBe_42 : decode cX6_joiningCanBe 42 = .ok (.invokevirtual 90, 3) := by decide +kernel
theorem dX6_joiningCanBe_45 : decode cX6_joiningCanBe 45 = .ok (.if_icmp .ne 7, 3) := by decide +kernel
theorem dX6_joiningCanBe_48 : decode cX6_joiningCanBe 48 = .ok (.iconst 1, 1) := by decide +kernel
theorem dX6_joiningCanBe_49 : decode cX6_joiningCanBe 49 = .ok (.goto 4, 3) := by decide +kernel
theorem dX6_joiningCanBe_52 : decode cX6_joiningCanBe 52 = .ok (.iconst 0, 1) := by decide +kernel
theorem dX6_joiningCanBe_53 : decode cX6_joiningCanBe 53 = .ok (.ireturn, 1) := by decide +kernel
theorem dX6_askOfFeast_0 : decode cX6_askOfFeast 0 = .ok (.aload_n 0, 1) := by decide +kernel
theorem dX6_askOfFeast_1 : decode cX6_askOfFeast 1 = .ok (.getfield 49, 3) := by decide +kernel
theorem dX6_askOfFeast_4 : decode cX6_askOfFeast 4 = .ok (.iconst 0, 1) := by decide +kernel
theorem dX6_askOfFeast_5 : decode cX6_askOfFeast 5 = .ok (.iload_n 1, 1) := by decide +kernel
theorem dX6_askOfFeast_6 : decode cX6_askOfFeast 6 = .ok (.iastore, 1) := by decide +kernel
theorem dX6_askOfFeast_7 : decode cX6_askOfFeast 7 = .ok (.aload_n 0, 1) := by decide +kernel
theorem dX6_askOfFeast_8 : decode cX6_askOfFeast 8 = .ok (.getfield 49, 3) := by decide +kernel
theorem dX6_askOfFeast_11 : decode cX6_askOfFeast 11 = .ok (.iconst 1, 1) := by decide +kernel
theorem dX6_askOfFeast_12 : decode cX6_askOfFeast 12 = .ok (.aload_n 0, 1) := by decide +kernel
theorem dX6_askOfFeast_13 : decode cX6_askOfFeast 13 = .ok (.getfield 14, 3) := by decide +kernel
theorem dX6_askOfFeast_16 : decode cX6_askOfFeast 16 = .ok (.iload_n 1, 1) := by decide +kernel
theorem dX6_askOfFeast_17 : decode cX6_askOfFeast 17 = .ok (.iconst 0, 1) := by decide +kernel
theorem dX6_askOfFeast_18 : decode cX6_askOfFeast 18 = .ok (.invokevirtual 90, 3) := by decide +kernel
theorem dX6_askOfFeast_21 : decode cX6_askOfFeast 21 = .ok (.iastore, 1) := by decide +kernel
theorem dX6_askOfFeast_22 : decode cX6_askOfFeast 22 = .ok (.aload_n 0, 1) := by decide +kernel
theorem dX6_askOfFeast_23 : decode cX6_askOfFeast 23 = .ok (.getfield 49, 3) := by decide +kernel
theorem dX6_askOfFeast_26 : decode cX6_askOfFeast 26 = .ok (.iconst 2, 1) := by decide +kernel
theorem dX6_askOfFeast_27 : decode cX6_askOfFeast 27 = .ok (.iload_n 2, 1) := by decide +kernel
theorem dX6_askOfFeast_28 : decode cX6_askOfFeast 28 = .ok (.iastore, 1) := by decide +kernel
theorem dX6_askOfFeast_29 : decode cX6_askOfFeast 29 = .ok (.aload_n 0, 1) := by decide +kernel
theorem dX6_askOfFeast_30 : decode cX6_askOfFeast 30 = .ok (.getfield 49, 3) := by decide +kernel
theorem dX6_askOfFeast_33 : decode cX6_askOfFeast 33 = .ok (.iconst 3, 1) := by decide +kernel
theorem dX6_askOfFeast_34 : decode cX6_askOfFeast 34 = .ok (.iconst 0, 1) := by decide +kernel
theorem dX6_askOfFeast_35 : decode cX6_askOfFeast 35 = .ok (.iastore, 1) := by decide +kernel
theorem dX6_askOfFeast_36 : decode cX6_askOfFeast 36 = .ok (.aload_n 0, 1) := by decide +kernel
theorem dX6_askOfFeast_37 : decode cX6_askOfFeast 37 = .ok (.getfield 49, 3) := by decide +kernel
theorem dX6_askOfFeast_40 : decode cX6_askOfFeast 40 = .ok (.iconst 4, 1) := by decide +kernel
theorem dX6_askOfFeast_41 : decode cX6_askOfFeast 41 = .ok (.iconst 0, 1) := by decide +kernel
theorem dX6_askOfFeast_42 : decode cX6_askOfFeast 42 = .ok (.iastore, 1) := by decide +kernel
theorem dX6_askOfFeast_43 : decode cX6_askOfFeast 43 = .ok (.aload_n 0, 1) := by decide +kernel
theorem dX6_askOfFeast_44 : decode cX6_askOfFeast 44 = .ok (.getfield 49, 3) := by decide +kernel
theorem dX6_askOfFeast_47 : decode cX6_askOfFeast 47 = .ok (.iconst 5, 1) := by decide +kernel
theorem dX6_askOfFeast_48 : decode cX6_askOfFeast 48 = .ok (.iconst 0, 1) := by decide +kernel
theorem dX6_askOfFeast_49 : decode cX6_askOfFeast 49 = .ok (.iastore, 1) := by decide +kernel
theorem dX6_askOfFeast_50 : decode cX6_askOfFeast 50 = .ok (.aload_n 0, 1) := by decide +kernel
theorem dX6_askOfFeast_51 : decode cX6_askOfFeast 51 = .ok (.getfield 49, 3) := by decide +kernel
theorem dX6_askOfFeast_54 : decode cX6_askOfFeast 54 = .ok (.bipush 6, 2) := by decide +kernel
theorem dX6_askOfFeast_56 : decode cX6_askOfFeast 56 = .ok (.aload_n 0, 1) := by decide +kernel
theorem dX6_askOfFeast_57 : decode cX6_askOfFeast 57 = .ok (.getfield 67, 3) := by decide +kernel
theorem dX6_askOfFeast_60 : decode cX6_askOfFeast 60 = .ok (.iastore, 1) := by decide +kernel
theorem dX6_askOfFeast_61 : decode cX6_askOfFeast 61 = .ok (.return_, 1) := by decide +kernel
theorem dX6_askOfRemain_0 : decode cX6_askOfRemain 0 = .ok (.aload_n 0, 1) := by decide +kernel
theorem dX6_askOfRemain_1 : decode cX6_askOfRemain 1 = .ok (.getfield 29, 3) := by decide +kernel
theorem dX6_askOfRemain_4 : decode cX6_askOfRemain 4 = .ok (.iload_n 1, 1) := by decide +kernel
theorem dX6_askOfRemain_5 : decode cX6_askOfRemain 5 = .ok (.iconst 0, 1) := by decide +kernel
theorem dX6_askOfRemain_6 : decode cX6_askOfRemain 6 = .ok (.invokevirtual 90, 3) := by decide +kernel
theorem dX6_askOfRemain_9 : decode cX6_askOfRemain 9 = .ok (.istore_n 3, 1) := by decide +kernel
theorem dX6_askOfRemain_10 : decode cX6_askOfRemain 10 = .ok (.aload_n 0, 1) := by decide +kernel
theorem dX6_askOfRemain_11 : decode cX6_askOfRemain 11 = .ok (.getfield 49, 3) := by decide +kernel
theorem dX6_askOfRemain_14 : decode cX6_askOfRemain 14 = .ok (.iconst 0, 1) := by decide +kernel
theorem dX6_askOfRemain_15 : decode cX6_askOfRemain 15 = .ok (.iload_n 3, 1) := by decide +kernel
theorem dX6_askOfRemain_16 : decode cX6_askOfRemain 16 = .ok (.iastore, 1) := by decide +kernel
theorem dX6_askOfRemain_17 : decode cX6_askOfRemain 17 = .ok (.aload_n 0, 1) := by decide +kernel
theorem dX6_askOfRemain_18 : decode cX6_askOfRemain 18 = .ok (.getfield 49, 3) := by decide +kernel
theorem dX6_askOfRemain_21 : decode cX6_askOfRemain 21 = .ok (.iconst 1, 1) := by decide +kernel
theorem dX6_askOfRemain_22 : decode cX6_askOfRemain 22 = .ok (.aload_n 0, 1) := by decide +kernel
theorem dX6_askOfRemain_23 : decode cX6_askOfRemain 23 = .ok (.getfield 14, 3) := by decide +kernel
theorem dX6_askOfRemain_26 : decode cX6_askOfRemain 26 = .ok (.iload_n 3, 1) := by decide +kernel
theorem dX6_askOfRemain_27 : decode cX6_askOfRemain 27 = .ok (.iconst 0, 1) := by decide +kernel
theorem dX6_askOfRemain_28 : decode cX6_askOfRemain 28 = .ok (.invokevirtual 90, 3) := by decide +kernel
theorem dX6_askOfRemain_31 : decode cX6_askOfRemain 31 = .ok (.iastore, 1) := by decide +kernel
theorem dX6_askOfRemain_32 : decode cX6_askOfRemain 32 = .ok (.aload_n 0, 1) := by decide +kernel
theorem dX6_askOfRemain_33 : decode cX6_askOfRemain 33 = .ok (.getfield 49, 3) := by decide +kernel
theorem dX6_askOfRemain_36 : decode cX6_askOfRemain 36 = .ok (.iconst 2, 1) := by decide +kernel
theorem dX6_askOfRemain_37 : decode cX6_askOfRemain 37 = .ok (.iconst 0, 1) := by decide +kernel
theorem dX6_askOfRemain_38 : decode cX6_askOfRemain 38 = .ok (.iastore, 1) := by decide +kernel
theorem dX6_askOfRemain_39 : decode cX6_askOfRemain 39 = .ok (.aload_n 0, 1) := by decide +kernel
theorem dX6_askOfRemain_40 : decode cX6_askOfRemain 40 = .ok (.getfield 49, 3) := by decide +kernel
theorem dX6_askOfRemain_43 : decode cX6_askOfRemain 43 = .ok (.iconst 3, 1) := by decide +kernel
theorem dX6_askOfRemain_44 : decode cX6_askOfRemain 44 = .ok (.aload_n 0, 1) := by decide +kernel
theorem dX6_askOfRemain_45 : decode cX6_askOfRemain 45 = .ok (.getfield 29, 3) := by decide +kernel
theorem dX6_askOfRemain_48 : decode cX6_askOfRemain 48 = .ok (.iload_n 1, 1) := by decide +kernel
theorem dX6_askOfRemain_49 : decode cX6_askOfRemain 49 = .ok (.iconst 1, 1) := by decide +kernel
theorem dX6_askOfRemain_50 : decode cX6_askOfRemain 50 = .ok (.invokevirtual 90, 3) := by decide +kernel
theorem dX6_askOfRemain_53 : decode cX6_askOfRemain 53 = .ok (.iastore, 1) := by decide +kernel
theorem dX6_askOfRemain_54 : decode cX6_askOfRemain 54 = .ok (.aload_n 0, 1) := by decide +kernel
theorem dX6_askOfRemain_55 : decode cX6_askOfRemain 55 = .ok (.getfield 49, 3) := by decide +kernel
theorem dX6_askOfRemain_58 : decode cX6_askOfRemain 58 = .ok (.iconst 4, 1) := by decide +kernel
theorem dX6_askOfRemain_59 : decode cX6_askOfRemain 59 = .ok (.aload_n 0, 1) := by decide +kernel
theorem dX6_askOfRemain_60 : decode cX6_askOfRemain 60 = .ok (.iload_n 1, 1) := by decide +kernel
theorem dX6_askOfRemain_61 : decode cX6_askOfRemain 61 = .ok (.invokevirtual 98, 3) := by decide +kernel
theorem dX6_askOfRemain_64 : decode cX6_askOfRemain 64 = .ok (.iload_n 2, 1) := by decide +kernel
theorem dX6_askOfRemain_65 : decode cX6_askOfRemain 65 = .ok (.iadd, 1) := by decide +kernel
theorem dX6_askOfRemain_66 : decode cX6_askOfRemain 66 = .ok (.iastore, 1) := by decide +kernel
theorem dX6_askOfRemain_67 : decode cX6_askOfRemain 67 = .ok (.aload_n 0, 1) := by decide +kernel
theorem dX6_askOfRemain_68 : decode cX6_askOfRemain 68 = .ok (.getfield 49, 3) := by decide +kernel
theorem dX6_askOfRemain_71 : decode cX6_askOfRemain 71 = .ok (.iconst 5, 1) := by decide +kernel
theorem dX6_askOfRemain_72 : decode cX6_askOfRemain 72 = .ok (.aload_n 0, 1) := by decide +kernel
theorem dX6_askOfRemain_73 : decode cX6_askOfRemain 73 = .ok (.getfield 29, 3) := by decide +kernel
theorem dX6_askOfRemain_76 : decode cX6_askOfRemain 76 = .ok (.iload_n 1, 1) := by decide +kernel
theorem dX6_askOfRemain_77 : decode cX6_askOfRemain 77 = .ok (.iconst 3, 1) := by decide +kernel
theorem dX6_askOfRemain_78 : decode cX6_askOfRemain 78 = .ok (.invokevirtual 90, 3) := by decide +kernel
theorem dX6_askOfRemain_81 : decode cX6_askOfRemain 81 = .ok (.iastore, 1) := by decide +kernel
theorem dX6_askOfRemain_82 : decode cX6_askOfRemain 82 = .ok (.aload_n 0, 1) := by decide +kernel
theorem dX6_askOfRemain_83 : decode cX6_askOfRemain 83 = .ok (.getfield 49, 3) := by decide +kernel
theorem dX6_askOfRemain_86 : decode cX6_askOfRemain 86 = .ok (.bipush 6, 2) := by decide +kernel
theorem dX6_askOfRemain_88 : decode cX6_askOfRemain 88 = .ok (.aload_n 0, 1) := by decide +kernel
theorem dX6_askOfRemain_89 : decode cX6_askOfRemain 89 = .ok (.getfield 67, 3) := by decide +kernel
theorem dX6_askOfRemain_92 : decode cX6_askOfRemain 92 = .ok (.iload_n 2, 1) := by decide +kernel
theorem dX6_askOfRemain_93 : decode cX6_askOfRemain 93 = .ok (.iadd, 1) := by decide +kernel
theorem dX6_askOfRemain_94 : decode cX6_askOfRemain 94 = .ok (.iastore, 1) := by decide +kernel
theorem dX6_askOfRemain_95 : decode cX6_askOfRemain 95 = .ok (.return_, 1) := by decide +kernel
theorem dX6_leftByFeast_0 : decode cX6_leftByFeast 0 = .ok (.aload_n 0, 1) := by decide +kernel
theorem dX6_leftByFeast_1 : decode cX6_leftByFeast 1 = .ok (.getfield 14, 3) := by decide +kernel
theorem dX6_leftByFeast_4 : decode cX6_leftByFeast 4 = .ok (.iload_n 1, 1) := by decide +kernel
theorem dX6_leftByFeast_5 : decode cX6_leftByFeast 5 = .ok (.iconst 0, 1) := by decide +kernel
theorem dX6_leftByFeast_6 : decode cX6_leftByFeast 6 = .ok (.invokevirtual 90, 3) := by decide +kernel
theorem dX6_leftByFeast_9 : decode cX6_leftByFeast 9 = .ok (.istore_n 3, 1) := by decide +kernel
theorem dX6_leftByFeast_10 : decode cX6_leftByFeast 10 = .ok (.aload_n 0, 1) := by decide +kernel
theorem dX6_leftByFeast_11 : decode cX6_leftByFeast 11 = .ok (.iload_n 1, 1) := by decide +kernel
theorem dX6_leftByFeast_12 : decode cX6_leftByFeast 12 = .ok (.iload_n 2, 1) := by decide +kernel
theorem dX6_leftByFeast_13 : decode cX6_leftByFeast 13 = .ok (.invokevirtual 102, 3) := by decide +kernel
theorem dX6_leftByFeast_16 : decode cX6_leftByFeast 16 = .ok (.aload_n 0, 1) := by decide +kernel
theorem dX6_leftByFeast_17 : decode cX6_leftByFeast 17 = .ok (.getfield 38, 3) := by decide +kernel
theorem dX6_leftByFeast_20 : decode cX6_leftByFeast 20 = .ok (.sipush 307, 3) := by decide +kernel
theorem dX6_leftByFeast_23 : decode cX6_leftByFeast 23 = .ok (.aload_n 0, 1) := by decide +kernel
theorem dX6_leftByFeast_24 : decode cX6_leftByFeast 24 = .ok (.getfield 49, 3) := by decide +kernel
theorem dX6_leftByFeast_27 : decode cX6_leftByFeast 27 = .ok (.iload_n 3, 1) := by decide +kernel
theorem dX6_leftByFeast_28 : decode cX6_leftByFeast 28 = .ok (.iconst 5, 1) := by decide +kernel
theorem dX6_leftByFeast_29 : decode cX6_leftByFeast 29 = .ok (.iload_n 2, 1) := by decide +kernel
theorem dX6_leftByFeast_30 : decode cX6_leftByFeast 30 = .ok (.imul, 1) := by decide +kernel
theorem dX6_leftByFeast_31 : decode cX6_leftByFeast 31 = .ok (.isub, 1) := by decide +kernel
theorem dX6_leftByFeast_32 : decode cX6_leftByFeast 32 = .ok (.invokevirtual 105, 3) := by decide +kernel
theorem dX6_leftByFeast_35 : decode cX6_leftByFeast 35 = .ok (.iconst 0, 1) := by decide +kernel
theorem dX6_leftByFeast_36 : decode cX6_leftByFeast 36 = .ok (.iload_n 3, 1) := by decide +kernel
theorem dX6_leftByFeast_37 : decode cX6_leftByFeast 37 = .ok (.iconst 1, 1) := by decide +kernel
theorem dX6_leftByFeast_38 : decode cX6_leftByFeast 38 = .ok (.isub, 1) := by decide +kernel
theorem dX6_leftByFeast_39 : decode cX6_leftByFeast 39 = .ok (.invokestatic 109, 3) := by decide +kernel
theorem dX6_leftByFeast_42 : decode cX6_leftByFeast 42 = .ok (.ireturn, 1) := by decide +kernel
theorem dX6_edgeOfFeast_0 : decode cX6_edgeOfFeast 0 = .ok (.aload_n 0, 1) := by decide +kernel
theorem dX6_edgeOfFeast_1 : decode cX6_edgeOfFeast 1 = .ok (.iload_n 1, 1) := by decide +kernel
theorem dX6_edgeOfFeast_2 : decode cX6_edgeOfFeast 2 = .ok (.iload_n 2, 1) := by decide +kernel
theorem dX6_edgeOfFeast_3 : decode cX6_edgeOfFeast 3 = .ok (.invokevirtual 102, 3) := by decide +kernel
theorem dX6_edgeOfFeast_6 : decode cX6_edgeOfFeast 6 = .ok (.aload_n 0, 1) := by decide +kernel
theorem dX6_edgeOfFeast_7 : decode cX6_edgeOfFeast 7 = .ok (.getfield 38, 3) := by decide +kernel
theorem dX6_edgeOfFeast_10 : decode cX6_edgeOfFeast 10 = .ok (.sipush 310, 3) := by decide +kernel
theorem dX6_edgeOfFeast_13 : decode cX6_edgeOfFeast 13 = .ok (.aload_n 0, 1) := by decide +kernel
theorem dX6_edgeOfFeast_14 : decode cX6_edgeOfFeast 14 = .ok (.getfield 49, 3) := by decide +kernel
theorem dX6_edgeOfFeast_17 : decode cX6_edgeOfFeast 17 = .ok (.iconst 3, 1) := by decide +kernel
theorem dX6_edgeOfFeast_18 : decode cX6_edgeOfFeast 18 = .ok (.invokevirtual 105, 3) := by decide +kernel
theorem dX6_edgeOfFeast_21 : decode cX6_edgeOfFeast 21 = .ok (.iconst 0, 1) := by decide +kernel
theorem dX6_edgeOfFeast_22 : decode cX6_edgeOfFeast 22 = .ok (.bipush 9, 2) := by decide +kernel
theorem dX6_edgeOfFeast_24 : decode cX6_edgeOfFeast 24 = .ok (.invokestatic 109, 3) := by decide +kernel
theorem dX6_edgeOfFeast_27 : decode cX6_edgeOfFeast 27 = .ok (.ireturn, 1) := by decide +kernel
theorem dX6_priceOf_0 : decode cX6_priceOf 0 = .ok (.aload_n 0, 1) := by decide +kernel
theorem dX6_priceOf_1 : decode cX6_priceOf 1 = .ok (.iload_n 1, 1) := by decide +kernel
theorem dX6_priceOf_2 : decode cX6_priceOf 2 = .ok (.iload_n 2, 1) := by decide +kernel
theorem dX6_priceOf_3 : decode cX6_priceOf 3 = .ok (.invokevirtual 113, 3) := by decide +kernel
theorem dX6_priceOf_6 : decode cX6_priceOf 6 = .ok (.aload_n 0, 1) := by decide +kernel
theorem dX6_priceOf_7 : decode cX6_priceOf 7 = .ok (.getfield 38, 3) := by decide +kernel
theorem dX6_priceOf_10 : decode cX6_priceOf 10 = .ok (.sipush 308, 3) := by decide +kernel
theorem dX6_priceOf_13 : decode cX6_priceOf 13 = .ok (.aload_n 0, 1) := by decide +kernel
theorem dX6_priceOf_14 : decode cX6_priceOf 14 = .ok (.getfield 49, 3) := by decide +kernel
theorem dX6_priceOf_17 : decode cX6_priceOf 17 = .ok (.aload_n 0, 1) := by decide +kernel
theorem dX6_priceOf_18 : decode cX6_priceOf 18 = .ok (.getfield 29, 3) := by decide +kernel
theorem dX6_priceOf_21 : decode cX6_priceOf 21 = .ok (.iload_n 1, 1) := by decide +kernel
theorem dX6_priceOf_22 : decode cX6_priceOf 22 = .ok (.iconst 1, 1) := by decide +kernel
theorem dX6_priceOf_23 : decode cX6_priceOf 23 = .ok (.invokevirtual 90, 3) := by decide +kernel
theorem dX6_priceOf_26 : decode cX6_priceOf 26 = .ok (.invokevirtual 105, 3) := by decide +kernel
theorem dX6_priceOf_29 : decode cX6_priceOf 29 = .ok (.iconst 0, 1) := by decide +kernel
theorem dX6_priceOf_30 : decode cX6_priceOf 30 = .ok (.sipush 999, 3) := by decide +kernel
theorem dX6_priceOf_33 : decode cX6_priceOf 33 = .ok (.invokestatic 109, 3) := by decide +kernel
theorem dX6_priceOf_36 : decode cX6_priceOf 36 = .ok (.ireturn, 1) := by decide +kernel
theorem dX6_spoilOf_0 : decode cX6_spoilOf 0 = .ok (.aload_n 0, 1) := by decide +kernel
theorem dX6_spoilOf_1 : decode cX6_spoilOf 1 = .ok (.iload_n 1, 1) := by decide +kernel
theorem dX6_spoilOf_2 : decode cX6_spoilOf 2 = .ok (.iconst 0, 1) := by decide +kernel
theorem dX6_spoilOf_3 : decode cX6_spoilOf 3 = .ok (.invokevirtual 113, 3) := by decide +kernel
theorem dX6_spoilOf_6 : decode cX6_spoilOf 6 = .ok (.aload_n 0, 1) := by decide +kernel
theorem dX6_spoilOf_7 : decode cX6_spoilOf 7 = .ok (.getfield 38, 3) := by decide +kernel
theorem dX6_spoilOf_10 : decode cX6_spoilOf 10 = .ok (.sipush 309, 3) := by decide +kernel
theorem dX6_spoilOf_13 : decode cX6_spoilOf 13 = .ok (.aload_n 0, 1) := by decide +kernel
theorem dX6_spoilOf_14 : decode cX6_spoilOf 14 = .ok (.getfield 49, 3) := by decide +kernel
theorem dX6_spoilOf_17 : decode cX6_spoilOf 17 = .ok (.iconst 0, 1) := by decide +kernel
theorem dX6_spoilOf_18 : decode cX6_spoilOf 18 = .ok (.invokevirtual 105, 3) := by decide +kernel
theorem dX6_spoilOf_21 : decode cX6_spoilOf 21 = .ok (.iconst 0, 1) := by decide +kernel
theorem dX6_spoilOf_22 : decode cX6_spoilOf 22 = .ok (.sipush 1000, 3) := by decide +kernel
theorem dX6_spoilOf_25 : decode cX6_spoilOf 25 = .ok (.invokestatic 109, 3) := by decide +kernel
theorem dX6_spoilOf_28 : decode cX6_spoilOf 28 = .ok (.ireturn, 1) := by decide +kernel
theorem dX6_ageOf_0 : decode cX6_ageOf 0 = .ok (.aload_n 0, 1) := by decide +kernel
theorem dX6_ageOf_1 : decode cX6_ageOf 1 = .ok (.getfield 67, 3) := by decide +kernel
theorem dX6_ageOf_4 : decode cX6_ageOf 4 = .ok (.aload_n 0, 1) := by decide +kernel
theorem dX6_ageOf_5 : decode cX6_ageOf 5 = .ok (.getfield 29, 3) := by decide +kernel
theorem dX6_ageOf_8 : decode cX6_ageOf 8 = .ok (.iload_n 1, 1) := by decide +kernel
theorem dX6_ageOf_9 : decode cX6_ageOf 9 = .ok (.iconst 2, 1) := by decide +kernel
theorem dX6_ageOf_10 : decode cX6_ageOf 10 = .ok (.invokevirtual 90, 3) := by decide +kernel
theorem dX6_ageOf_13 : decode cX6_ageOf 13 = .ok (.isub, 1) := by decide +kernel
theorem dX6_ageOf_14 : decode cX6_ageOf 14 = .ok (.ireturn, 1) := by decide +kernel
theorem dX6_isTooOld_0 : decode cX6_isTooOld 0 = .ok (.aload_n 0, 1) := by decide +kernel
theorem dX6_isTooOld_1 : decode cX6_isTooOld 1 = .ok (.iload_n 1, 1) := by decide +kernel
theorem dX6_isTooOld_2 : decode cX6_isTooOld 2 = .ok (.invokevirtual 98, 3) := by decide +kernel
theorem dX6_isTooOld_5 : decode cX6_isTooOld 5 = .ok (.iload_n 2, 1) := by decide +kernel
theorem dX6_isTooOld_6 : decode cX6_isTooOld 6 = .ok (.iadd, 1) := by decide +kernel
theorem dX6_isTooOld_7 : decode cX6_isTooOld 7 = .ok (.aload_n 0, 1) := by decide +kernel
theorem dX6_isTooOld_8 : decode cX6_isTooOld 8 = .ok (.getfield 14, 3) := by decide +kernel
theorem dX6_isTooOld_11 : decode cX6_isTooOld 11 = .ok (.aload_n 0, 1) := by decide +kernel
theorem dX6_isTooOld_12 : decode cX6_isTooOld 12 = .ok (.getfield 29, 3) := by decide +kernel
theorem dX6_isTooOld_15 : decode cX6_isTooOld 15 = .ok (.iload_n 1, 1) := by decide +kernel
theorem dX6_isTooOld_16 : decode cX6_isTooOld 16 = .ok (.iconst 0, 1) := by decide +kernel
theorem dX6_isTooOld_17 : decode cX6_isTooOld 17 = .ok (.invokevirtual 90, 3) := by decide +kernel
theorem dX6_isTooOld_20 : decode cX6_isTooOld 20 = .ok (.iconst 1, 1) := by decide +kernel
theorem dX6_isTooOld_21 : decode cX6_isTooOld 21 = .ok (.invokevirtual 90, 3) := by decide +kernel
theorem dX6_isTooOld_24 : decode cX6_isTooOld 24 = .ok (.if_icmp .lt 7, 3) := by decide +kernel
theorem dX6_isTooOld_27 : decode cX6_isTooOld 27 = .ok (.iconst 1, 1) := by decide +kernel
theorem dX6_isTooOld_28 : decode cX6_isTooOld 28 = .ok (.goto 4, 3) := by decide +kernel
theorem dX6_isTooOld_31 : decode cX6_isTooOld 31 = .ok (.iconst 0, 1) := by decide +kernel
theorem dX6_isTooOld_32 : decode cX6_isTooOld 32 = .ok (.ireturn, 1) := by decide +kernel
theorem dX6_remainsOfKind_0 : decode cX6_remainsOfKind 0 = .ok (.iconst 0, 1) := by decide +kernel
theorem dX6_remainsOfKind_1 : decode cX6_remainsOfKind 1 = .ok (.istore_n 2, 1) := by decide +kernel
theorem dX6_remainsOfKind_2 : decode cX6_remainsOfKind 2 = .ok (.iconst 0, 1) := by decide +kernel
theorem dX6_remainsOfKind_3 : decode cX6_remainsOfKind 3 = .ok (.istore_n 3, 1) := by decide +kernel
theorem dX6_remainsOfKind_4 : decode cX6_remainsOfKind 4 = .ok (.iload_n 3, 1) := by decide +kernel
theorem dX6_remainsOfKind_5 : decode cX6_remainsOfKind 5 = .ok (.aload_n 0, 1) := by decide +kernel
theorem dX6_remainsOfKind_6 : decode cX6_remainsOfKind 6 = .ok (.getfield 29, 3) := by decide +kernel
theorem dX6_remainsOfKind_9 : decode cX6_remainsOfKind 9 = .ok (.getfield 116, 3) := by decide +kernel
theorem dX6_remainsOfKind_12 : decode cX6_remainsOfKind 12 = .ok (.if_icmp .ge 25, 3) := by decide +kernel
theorem dX6_remainsOfKind_15 : decode cX6_remainsOfKind 15 = .ok (.aload_n 0, 1) := by decide +kernel
theorem dX6_remainsOfKind_16 : decode cX6_remainsOfKind 16 = .ok (.getfield 29, 3) := by decide +kernel
theorem dX6_remainsOfKind_19 : decode cX6_remainsOfKind 19 = .ok (.iload_n 3, 1) := by decide +kernel
theorem dX6_remainsOfKind_20 : decode cX6_remainsOfKind 20 = .ok (.iconst 0, 1) := by decide +kernel
theorem dX6_remainsOfKind_21 : decode cX6_remainsOfKind 21 = .ok (.invokevirtual 90, 3) := by decide +kernel
theorem dX6_remainsOfKind_24 : decode cX6_remainsOfKind 24 = .ok (.iload_n 1, 1) := by decide +kernel
theorem dX6_remainsOfKind_25 : decode cX6_remainsOfKind 25 = .ok (.if_icmp .ne 6, 3) := by decide +kernel
theorem dX6_remainsOfKind_28 : decode cX6_remainsOfKind 28 = .ok (.iinc 2 1, 3) := by decide +kernel
theorem dX6_remainsOfKind_31 : decode cX6_remainsOfKind 31 = .ok (.iinc 3 1, 3) := by decide +kernel
theorem dX6_remainsOfKind_34 : decode cX6_remainsOfKind 34 = .ok (.goto (-30), 3) := by decide +kernel
theorem dX6_remainsOfKind_37 : decode cX6_remainsOfKind 37 = .ok (.iload_n 2, 1) := by decide +kernel
theorem dX6_remainsOfKind_38 : decode cX6_remainsOfKind 38 = .ok (.ireturn, 1) := by decide +kernel
theorem dX6_sizesOfKind_0 : decode cX6_sizesOfKind 0 = .ok (.iconst 0, 1) := by decide +kernel
theorem dX6_sizesOfKind_1 : decode cX6_sizesOfKind 1 = .ok (.istore_n 2, 1) := by decide +kernel
theorem dX6_sizesOfKind_2 : decode cX6_sizesOfKind 2 = .ok (.iconst 0, 1) := by decide +kernel
theorem dX6_sizesOfKind_3 : decode cX6_sizesOfKind 3 = .ok (.istore_n 3, 1) := by decide +kernel
theorem dX6_sizesOfKind_4 : decode cX6_sizesOfKind 4 = .ok (.iload_n 3, 1) := by decide +kernel
theorem dX6_sizesOfKind_5 : decode cX6_sizesOfKind 5 = .ok (.aload_n 0, 1) := by decide +kernel
theorem dX6_sizesOfKind_6 : decode cX6_sizesOfKind 6 = .ok (.getfield 29, 3) := by decide +kernel
theorem dX6_sizesOfKind_9 : decode cX6_sizesOfKind 9 = .ok (.getfield 116, 3) := by decide +kernel
theorem dX6_sizesOfKind_12 : decode cX6_sizesOfKind 12 = .ok (.if_icmp .ge 34, 3) := by decide +kernel
theorem dX6_sizesOfKind_15 : decode cX6_sizesOfKind 15 = .ok (.aload_n 0, 1) := by decide +kernel
theorem dX6_sizesOfKind_16 : decode cX6_sizesOfKind 16 = .ok (.getfield 29, 3) := by decide +kernel
theorem dX6_sizesOfKind_19 : decode cX6_sizesOfKind 19 = .ok (.iload_n 3, 1) := by decide +kernel
theorem dX6_sizesOfKind_20 : decode cX6_sizesOfKind 20 = .ok (.iconst 0, 1) := by decide +kernel
theorem dX6_sizesOfKind_21 : decode cX6_sizesOfKind 21 = .ok (.invokevirtual 90, 3) := by decide +kernel
theorem dX6_sizesOfKind_24 : decode cX6_sizesOfKind 24 = .ok (.iload_n 1, 1) := by decide +kernel
theorem dX6_sizesOfKind_25 : decode cX6_sizesOfKind 25 = .ok (.if_icmp .ne 15, 3) := by decide +kernel
theorem dX6_sizesOfKind_28 : decode cX6_sizesOfKind 28 = .ok (.iload_n 2, 1) := by decide +kernel
theorem dX6_sizesOfKind_29 : decode cX6_sizesOfKind 29 = .ok (.aload_n 0, 1) := by decide +kernel
theorem dX6_sizesOfKind_30 : decode cX6_sizesOfKind 30 = .ok (.getfield 29, 3) := by decide +kernel
theorem dX6_sizesOfKind_33 : decode cX6_sizesOfKind 33 = .ok (.iload_n 3, 1) := by decide +kernel
theorem dX6_sizesOfKind_34 : decode cX6_sizesOfKind 34 = .ok (.iconst 1, 1) := by decide +kernel
theorem dX6_sizesOfKind_35 : decode cX6_sizesOfKind 35 = .ok (.invokevirtual 90, 3) := by decide +kernel
theorem dX6_sizesOfKind_38 : decode cX6_sizesOfKind 38 = .ok (.iadd, 1) := by decide +kernel
theorem dX6_sizesOfKind_39 : decode cX6_sizesOfKind 39 = .ok (.istore_n 2, 1) := by decide +kernel
theorem dX6_sizesOfKind_40 : decode cX6_sizesOfKind 40 = .ok (.iinc 3 1, 3) := by decide +kernel
theorem dX6_sizesOfKind_43 : decode cX6_sizesOfKind 43 = .ok (.goto (-39), 3) := by decide +kernel
theorem dX6_sizesOfKind_46 : decode cX6_sizesOfKind 46 = .ok (.iload_n 2, 1) := by decide +kernel
theorem dX6_sizesOfKind_47 : decode cX6_sizesOfKind 47 = .ok (.ireturn, 1) := by decide +kernel
theorem dX6_holdFeast_0 : decode cX6_holdFeast 0 = .ok (.aload_n 0, 1) := by decide +kernel
theorem dX6_holdFeast_1 : decode cX6_holdFeast 1 = .ok (.dup, 1) := by decide +kernel
theorem dX6_holdFeast_2 : decode cX6_holdFeast 2 = .ok (.getfield 79, 3) := by decide +kernel
theorem dX6_holdFeast_5 : decode cX6_holdFeast 5 = .ok (.iconst 1, 1) := by decide +kernel
theorem dX6_holdFeast_6 : decode cX6_holdFeast 6 = .ok (.iadd, 1) := by decide +kernel
theorem dX6_holdFeast_7 : decode cX6_holdFeast 7 = .ok (.putfield 79, 3) := by decide +kernel
theorem dX6_holdFeast_10 : decode cX6_holdFeast 10 = .ok (.aload_n 0, 1) := by decide +kernel
theorem dX6_holdFeast_11 : decode cX6_holdFeast 11 = .ok (.getfield 29, 3) := by decide +kernel
theorem dX6_holdFeast_14 : decode cX6_holdFeast 14 = .ok (.invokevirtual 94, 3) := by decide +kernel
theorem dX6_holdFeast_17 : decode cX6_holdFeast 17 = .ok (.ifCond .eq 7, 3) := by decide +kernel
theorem dX6_holdFeast_20 : decode cX6_holdFeast 20 = .ok (.iconst 0, 1) := by decide +kernel
theorem dX6_holdFeast_21 : decode cX6_holdFeast 21 = .ok (.goto 9, 3) := by decide +kernel
theorem dX6_holdFeast_24 : decode cX6_holdFeast 24 = .ok (.aload_n 0, 1) := by decide +kernel
theorem dX6_holdFeast_25 : decode cX6_holdFeast 25 = .ok (.iload_n 1, 1) := by decide +kernel
theorem dX6_holdFeast_26 : decode cX6_holdFeast 26 = .ok (.iload_n 2, 1) := by decide +kernel
theorem dX6_holdFeast_27 : decode cX6_holdFeast 27 = .ok (.invokevirtual 119, 3) := by decide +kernel
theorem dX6_holdFeast_30 : decode cX6_holdFeast 30 = .ok (.istore_n 3, 1) := by decide +kernel
theorem dX6_holdFeast_31 : decode cX6_holdFeast 31 = .ok (.iload_n 3, 1) := by decide +kernel
theorem dX6_holdFeast_32 : decode cX6_holdFeast 32 = .ok (.ifCond .le 23, 3) := by decide +kernel
theorem dX6_holdFeast_35 : decode cX6_holdFeast 35 = .ok (.aload_n 0, 1) := by decide +kernel
theorem dX6_holdFeast_36 : decode cX6_holdFeast 36 = .ok (.getfield 29, 3) := by decide +kernel
theorem dX6_holdFeast_39 : decode cX6_holdFeast 39 = .ok (.iload_n 1, 1) := by decide +kernel
theorem dX6_holdFeast_40 : decode cX6_holdFeast 40 = .ok (.iload_n 3, 1) := by decide +kernel
theorem dX6_holdFeast_41 : decode cX6_holdFeast 41 = .ok (.aload_n 0, 1) := by decide +kernel
theorem dX6_holdFeast_42 : decode cX6_holdFeast 42 = .ok (.getfield 67, 3) := by decide +kernel
theorem dX6_holdFeast_45 : decode cX6_holdFeast 45 = .ok (.aload_n 0, 1) := by decide +kernel
theorem dX6_holdFeast_46 : decode cX6_holdFeast 46 = .ok (.iload_n 1, 1) := by decide +kernel
theorem dX6_holdFeast_47 : decode cX6_holdFeast 47 = .ok (.iload_n 2, 1) := by decide +kernel
theorem dX6_holdFeast_48 : decode cX6_holdFeast 48 = .ok (.invokevirtual 122, 3) := by decide +kernel
theorem dX6_holdFeast_51 : decode cX6_holdFeast 51 = .ok (.invokevirtual 125, 3) := by decide +kernel
theorem dX6_holdFeast_54 : decode cX6_holdFeast 54 = .ok (.pop, 1) := by decide +kernel
theorem dX6_holdFeast_55 : decode cX6_holdFeast 55 = .ok (.aload_n 0, 1) := by decide +kernel
theorem dX6_holdFeast_56 : decode cX6_holdFeast 56 = .ok (.getfield 32, 3) := by decide +kernel
theorem dX6_holdFeast_59 : decode cX6_holdFeast 59 = .ok (.aload_n 0, 1) := by decide +kernel
theorem dX6_holdFeast_60 : decode cX6_holdFeast 60 = .ok (.getfield 67, 3) := by decide +kernel
theorem dX6_holdFeast_63 : decode cX6_holdFeast 63 = .ok (.iconst 0, 1) := by decide +kernel
theorem dX6_holdFeast_64 : decode cX6_holdFeast 64 = .ok (.iload_n 1, 1) := by decide +kernel
theorem dX6_holdFeast_65 : decode cX6_holdFeast 65 = .ok (.iload_n 3, 1) := by decide +kernel
theorem dX6_holdFeast_66 : decode cX6_holdFeast 66 = .ok (.invokevirtual 125, 3) := by decide +kernel
theorem dX6_holdFeast_69 : decode cX6_holdFeast 69 = .ok (.pop, 1) := by decide +kernel
theorem dX6_holdFeast_70 : decode cX6_holdFeast 70 = .ok (.iload_n 3, 1) := by decide +kernel
theorem dX6_holdFeast_71 : decode cX6_holdFeast 71 = .ok (.ireturn, 1) := by decide +kernel
theorem dX6_forgeOne_0 : decode cX6_forgeOne 0 = .ok (.aload_n 0, 1) := by decide +kernel
theorem dX6_forgeOne_1 : decode cX6_forgeOne 1 = .ok (.getfield 29, 3) := by decide +kernel
theorem dX6_forgeOne_4 : decode cX6_forgeOne 4 = .ok (.iload_n 1, 1) := by decide +kernel
theorem dX6_forgeOne_5 : decode cX6_forgeOne 5 = .ok (.iload_n 2, 1) := by decide +kernel
theorem dX6_forgeOne_6 : decode cX6_forgeOne 6 = .ok (.aload_n 0, 1) := by decide +kernel
theorem dX6_forgeOne_7 : decode cX6_forgeOne 7 = .ok (.getfield 67, 3) := by decide +kernel
theorem dX6_forgeOne_10 : decode cX6_forgeOne 10 = .ok (.bipush 9, 2) := by decide +kernel
theorem dX6_forgeOne_12 : decode cX6_forgeOne 12 = .ok (.invokevirtual 125, 3) := by decide +kernel
theorem dX6_forgeOne_15 : decode cX6_forgeOne 15 = .ok (.istore_n 3, 1) := by decide +kernel
theorem dX6_forgeOne_16 : decode cX6_forgeOne 16 = .ok (.aload_n 0, 1) := by decide +kernel
theorem dX6_forgeOne_17 : decode cX6_forgeOne 17 = .ok (.getfield 29, 3) := by decide +kernel
theorem dX6_forgeOne_20 : decode cX6_forgeOne 20 = .ok (.iload_n 3, 1) := by decide +kernel
theorem dX6_forgeOne_21 : decode cX6_forgeOne 21 = .ok (.iconst 4, 1) := by decide +kernel
theorem dX6_forgeOne_22 : decode cX6_forgeOne 22 = .ok (.iconst 1, 1) := by decide +kernel
theorem dX6_forgeOne_23 : decode cX6_forgeOne 23 = .ok (.invokevirtual 129, 3) := by decide +kernel
theorem dX6_forgeOne_26 : decode cX6_forgeOne 26 = .ok (.aload_n 0, 1) := by decide +kernel
theorem dX6_forgeOne_27 : decode cX6_forgeOne 27 = .ok (.dup, 1) := by decide +kernel
theorem dX6_forgeOne_28 : decode cX6_forgeOne 28 = .ok (.getfield 53, 3) := by decide +kernel
theorem dX6_forgeOne_31 : decode cX6_forgeOne 31 = .ok (.bipush 20, 2) := by decide +kernel
theorem dX6_forgeOne_33 : decode cX6_forgeOne 33 = .ok (.isub, 1) := by decide +kernel
theorem dX6_forgeOne_34 : decode cX6_forgeOne 34 = .ok (.putfield 53, 3) := by decide +kernel
theorem dX6_forgeOne_37 : decode cX6_forgeOne 37 = .ok (.aload_n 0, 1) := by decide +kernel
theorem dX6_forgeOne_38 : decode cX6_forgeOne 38 = .ok (.getfield 32, 3) := by decide +kernel
theorem dX6_forgeOne_41 : decode cX6_forgeOne 41 = .ok (.aload_n 0, 1) := by decide +kernel
theorem dX6_forgeOne_42 : decode cX6_forgeOne 42 = .ok (.getfield 67, 3) := by decide +kernel
theorem dX6_forgeOne_45 : decode cX6_forgeOne 45 = .ok (.iconst 1, 1) := by decide +kernel
theorem dX6_forgeOne_46 : decode cX6_forgeOne 46 = .ok (.iload_n 1, 1) := by decide +kernel
theorem dX6_forgeOne_47 : decode cX6_forgeOne 47 = .ok (.iload_n 2, 1) := by decide +kernel
theorem dX6_forgeOne_48 : decode cX6_forgeOne 48 = .ok (.invokevirtual 125, 3) := by decide +kernel
theorem dX6_forgeOne_51 : decode cX6_forgeOne 51 = .ok (.pop, 1) := by decide +kernel
theorem dX6_forgeOne_52 : decode cX6_forgeOne 52 = .ok (.iload_n 3, 1) := by decide +kernel
theorem dX6_forgeOne_53 : decode cX6_forgeOne 53 = .ok (.ireturn, 1) := by decide +kernel
theorem dX6_cutOne_0 : decode cX6_cutOne 0 = .ok (.aload_n 0, 1) := by decide +kernel
theorem dX6_cutOne_1 : decode cX6_cutOne 1 = .ok (.getfield 29, 3) := by decide +kernel
theorem dX6_cutOne_4 : decode cX6_cutOne 4 = .ok (.iload_n 1, 1) := by decide +kernel
theorem dX6_cutOne_5 : decode cX6_cutOne 5 = .ok (.iconst 0, 1) := by decide +kernel
theorem dX6_cutOne_6 : decode cX6_cutOne 6 = .ok (.invokevirtual 90, 3) := by decide +kernel
theorem dX6_cutOne_9 : decode cX6_cutOne 9 = .ok (.istore_n 3, 1) := by decide +kernel
theorem dX6_cutOne_10 : decode cX6_cutOne 10 = .ok (.bipush 9, 2) := by decide +kernel
theorem dX6_cutOne_12 : decode cX6_cutOne 12 = .ok (.aload_n 0, 1) := by decide +kernel
theorem dX6_cutOne_13 : decode cX6_cutOne 13 = .ok (.getfield 29, 3) := by decide +kernel
theorem dX6_cutOne_16 : decode cX6_cutOne 16 = .ok (.iload_n 1, 1) := by decide +kernel
theorem dX6_cutOne_17 : decode cX6_cutOne 17 = .ok (.iconst 3, 1) := by decide +kernel
theorem dX6_cutOne_18 : decode cX6_cutOne 18 = .ok (.invokevirtual 90, 3) := by decide +kernel
theorem dX6_cutOne_21 : decode cX6_cutOne 21 = .ok (.iconst 1, 1) := by decide +kernel
theorem dX6_cutOne_22 : decode cX6_cutOne 22 = .ok (.iadd, 1) := by decide +kernel
theorem dX6_cutOne_23 : decode cX6_cutOne 23 = .ok (.invokestatic 133, 3) := by decide +kernel
theorem dX6_cutOne_26 : decode cX6_cutOne 26 = .ok (.istore 4, 2) := by decide +kernel
theorem dX6_cutOne_28 : decode cX6_cutOne 28 = .ok (.aload_n 0, 1) := by decide +kernel
theorem dX6_cutOne_29 : decode cX6_cutOne 29 = .ok (.getfield 29, 3) := by decide +kernel
theorem dX6_cutOne_32 : decode cX6_cutOne 32 = .ok (.iload_n 1, 1) := by decide +kernel
theorem dX6_cutOne_33 : decode cX6_cutOne 33 = .ok (.iconst 1, 1) := by decide +kernel
theorem dX6_cutOne_34 : decode cX6_cutOne 34 = .ok (.invokevirtual 90, 3) := by decide +kernel
theorem dX6_cutOne_37 : decode cX6_cutOne 37 = .ok (.iload_n 2, 1) := by decide +kernel
theorem dX6_cutOne_38 : decode cX6_cutOne 38 = .ok (.isub, 1) := by decide +kernel
theorem dX6_cutOne_39 : decode cX6_cutOne 39 = .ok (.istore 5, 2) := by decide +kernel
theorem dX6_cutOne_41 : decode cX6_cutOne 41 = .ok (.aload_n 0, 1) := by decide +kernel
theorem dX6_cutOne_42 : decode cX6_cutOne 42 = .ok (.getfield 29, 3) := by decide +kernel
theorem dX6_cutOne_45 : decode cX6_cutOne 45 = .ok (.iload_n 3, 1) := by decide +kernel
theorem dX6_cutOne_46 : decode cX6_cutOne 46 = .ok (.iload 5, 2) := by decide +kernel
theorem dX6_cutOne_48 : decode cX6_cutOne 48 = .ok (.aload_n 0, 1) := by decide +kernel
theorem dX6_cutOne_49 : decode cX6_cutOne 49 = .ok (.getfield 29, 3) := by decide +kernel
theorem dX6_cutOne_52 : decode cX6_cutOne 52 = .ok (.iload_n 1, 1) := by decide +kernel
theorem dX6_cutOne_53 : decode cX6_cutOne 53 = .ok (.iconst 2, 1) := by decide +kernel
theorem dX6_cutOne_54 : decode cX6_cutOne 54 = .ok (.invokevirtual 90, 3) := by decide +kernel
theorem dX6_cutOne_57 : decode cX6_cutOne 57 = .ok (.iload 4, 2) := by decide +kernel
theorem dX6_cutOne_59 : decode cX6_cutOne 59 = .ok (.invokevirtual 125, 3) := by decide +kernel
theorem dX6_cutOne_62 : decode cX6_cutOne 62 = .ok (.istore 6, 2) := by decide +kernel
theorem dX6_cutOne_64 : decode cX6_cutOne 64 = .ok (.aload_n 0, 1) := by decide +kernel
theorem dX6_cutOne_65 : decode cX6_cutOne 65 = .ok (.getfield 29, 3) := by decide +kernel
theorem dX6_cutOne_68 : decode cX6_cutOne 68 = .ok (.iload 6, 2) := by decide +kernel
theorem dX6_cutOne_70 : decode cX6_cutOne 70 = .ok (.iconst 4, 1) := by decide +kernel
theorem dX6_cutOne_71 : decode cX6_cutOne 71 = .ok (.aload_n 0, 1) := by decide +kernel
theorem dX6_cutOne_72 : decode cX6_cutOne 72 = .ok (.getfield 29, 3) := by decide +kernel
theorem dX6_cutOne_75 : decode cX6_cutOne 75 = .ok (.iload_n 1, 1) := by decide +kernel
theorem dX6_cutOne_76 : decode cX6_cutOne 76 = .ok (.iconst 4, 1) := by decide +kernel
theorem dX6_cutOne_77 : decode cX6_cutOne 77 = .ok (.invokevirtual 90, 3) := by decide +kernel
theorem dX6_cutOne_80 : decode cX6_cutOne 80 = .ok (.invokevirtual 129, 3) := by decide +kernel
theorem dX6_cutOne_83 : decode cX6_cutOne 83 = .ok (.aload_n 0, 1) := by decide +kernel
theorem dX6_cutOne_84 : decode cX6_cutOne 84 = .ok (.getfield 29, 3) := by decide +kernel
theorem dX6_cutOne_87 : decode cX6_cutOne 87 = .ok (.iload_n 1, 1) := by decide +kernel
theorem dX6_cutOne_88 : decode cX6_cutOne 88 = .ok (.iconst 1, 1) := by decide +kernel
theorem dX6_cutOne_89 : decode cX6_cutOne 89 = .ok (.iload_n 2, 1) := by decide +kernel
theorem dX6_cutOne_90 : decode cX6_cutOne 90 = .ok (.invokevirtual 129, 3) := by decide +kernel
theorem dX6_cutOne_93 : decode cX6_cutOne 93 = .ok (.aload_n 0, 1) := by decide +kernel
theorem dX6_cutOne_94 : decode cX6_cutOne 94 = .ok (.getfield 29, 3) := by decide +kernel
theorem dX6_cutOne_97 : decode cX6_cutOne 97 = .ok (.iload_n 1, 1) := by decide +kernel
theorem dX6_cutOne_98 : decode cX6_cutOne 98 = .ok (.iconst 3, 1) := by decide +kernel
theorem dX6_cutOne_99 : decode cX6_cutOne 99 = .ok (.iload 4, 2) := by decide +kernel
theorem dX6_cutOne_101 : decode cX6_cutOne 101 = .ok (.invokevirtual 129, 3) := by decide +kernel
theorem dX6_cutOne_104 : decode cX6_cutOne 104 = .ok (.aload_n 0, 1) := by decide +kernel
theorem dX6_cutOne_105 : decode cX6_cutOne 105 = .ok (.getfield 32, 3) := by decide +kernel
theorem dX6_cutOne_108 : decode cX6_cutOne 108 = .ok (.aload_n 0, 1) := by decide +kernel
theorem dX6_cutOne_109 : decode cX6_cutOne 109 = .ok (.getfield 67, 3) := by decide +kernel
theorem dX6_cutOne_112 : decode cX6_cutOne 112 = .ok (.iconst 2, 1) := by decide +kernel
theorem dX6_cutOne_113 : decode cX6_cutOne 113 = .ok (.iload_n 3, 1) := by decide +kernel
theorem dX6_cutOne_114 : decode cX6_cutOne 114 = .ok (.iload_n 2, 1) := by decide +kernel
theorem dX6_cutOne_115 : decode cX6_cutOne 115 = .ok (.invokevirtual 125, 3) := by decide +kernel
theorem dX6_cutOne_118 : decode cX6_cutOne 118 = .ok (.pop, 1) := by decide +kernel
theorem dX6_cutOne_119 : decode cX6_cutOne 119 = .ok (.iload 6, 2) := by decide +kernel
theorem dX6_cutOne_121 : decode cX6_cutOne 121 = .ok (.ireturn, 1) := by decide +kernel
theorem dX6_joinTwo_0 : decode cX6_joinTwo 0 = .ok (.aload_n 0, 1) := by decide +kernel
theorem dX6_joinTwo_1 : decode cX6_joinTwo 1 = .ok (.getfield 29, 3) := by decide +kernel
theorem dX6_joinTwo_4 : decode cX6_joinTwo 4 = .ok (.iload_n 1, 1) := by decide +kernel
theorem dX6_joinTwo_5 : decode cX6_joinTwo 5 = .ok (.iconst 1, 1) := by decide +kernel
theorem dX6_joinTwo_6 : decode cX6_joinTwo 6 = .ok (.invokevirtual 90, 3) := by decide +kernel
theorem dX6_joinTwo_9 : decode cX6_joinTwo 9 = .ok (.aload_n 0, 1) := by decide +kernel
theorem dX6_joinTwo_10 : decode cX6_joinTwo 10 = .ok (.getfield 29, 3) := by decide +kernel
theorem dX6_joinTwo_13 : decode cX6_joinTwo 13 = .ok (.iload_n 2, 1) := by decide +kernel
theorem dX6_joinTwo_14 : decode cX6_joinTwo 14 = .ok (.iconst 1, 1) := by decide +kernel
theorem dX6_joinTwo_15 : decode cX6_joinTwo 15 = .ok (.invokevirtual 90, 3) := by decide +kernel
theorem dX6_joinTwo_18 : decode cX6_joinTwo 18 = .ok (.iadd, 1) := by decide +kernel
theorem dX6_joinTwo_19 : decode cX6_joinTwo 19 = .ok (.istore_n 3, 1) := by decide +kernel
theorem dX6_joinTwo_20 : decode cX6_joinTwo 20 = .ok (.iload_n 3, 1) := by decide +kernel
theorem dX6_joinTwo_21 : decode cX6_joinTwo 21 = .ok (.bipush 9, 2) := by decide +kernel
theorem dX6_joinTwo_23 : decode cX6_joinTwo 23 = .ok (.imul, 1) := by decide +kernel
theorem dX6_joinTwo_24 : decode cX6_joinTwo 24 = .ok (.bipush 10, 2) := by decide +kernel
theorem dX6_joinTwo_26 : decode cX6_joinTwo 26 = .ok (.idiv, 1) := by decide +kernel
theorem dX6_joinTwo_27 : decode cX6_joinTwo 27 = .ok (.iconst 1, 1) := by decide +kernel
theorem dX6_joinTwo_28 : decode cX6_joinTwo 28 = .ok (.bipush 99, 2) := by decide +kernel
theorem dX6_joinTwo_30 : decode cX6_joinTwo 30 = .ok (.invokestatic 109, 3) := by decide +kernel
theorem dX6_joinTwo_33 : decode cX6_joinTwo 33 = .ok (.istore 4, 2) := by decide +kernel
theorem dX6_joinTwo_35 : decode cX6_joinTwo 35 = .ok (.aload_n 0, 1) := by decide +kernel
theorem dX6_joinTwo_36 : decode cX6_joinTwo 36 = .ok (.getfield 29, 3) := by decide +kernel
theorem dX6_joinTwo_39 : decode cX6_joinTwo 39 = .ok (.iload_n 1, 1) := by decide +kernel
theorem dX6_joinTwo_40 : decode cX6_joinTwo 40 = .ok (.iconst 1, 1) := by decide +kernel
theorem dX6_joinTwo_41 : decode cX6_joinTwo 41 = .ok (.iload 4, 2) := by decide +kernel
theorem dX6_joinTwo_43 : decode cX6_joinTwo 43 = .ok (.invokevirtual 129, 3) := by decide +kernel
theorem dX6_joinTwo_46 : decode cX6_joinTwo 46 = .ok (.aload_n 0, 1) := by decide +kernel
theorem dX6_joinTwo_47 : decode cX6_joinTwo 47 = .ok (.getfield 29, 3) := by decide +kernel
theorem dX6_joinTwo_50 : decode cX6_joinTwo 50 = .ok (.iload_n 1, 1) := by decide +kernel
theorem dX6_joinTwo_51 : decode cX6_joinTwo 51 = .ok (.iconst 2, 1) := by decide +kernel
theorem dX6_joinTwo_52 : decode cX6_joinTwo 52 = .ok (.aload_n 0, 1) := by decide +kernel
theorem dX6_joinTwo_53 : decode cX6_joinTwo 53 = .ok (.getfield 29, 3) := by decide +kernel
theorem dX6_joinTwo_56 : decode cX6_joinTwo 56 = .ok (.iload_n 1, 1) := by decide +kernel
theorem dX6_joinTwo_57 : decode cX6_joinTwo 57 = .ok (.iconst 2, 1) := by decide +kernel
theorem dX6_joinTwo_58 : decode cX6_joinTwo 58 = .ok (.invokevirtual 90, 3) := by decide +kernel
theorem dX6_joinTwo_61 : decode cX6_joinTwo 61 = .ok (.aload_n 0, 1) := by decide +kernel
theorem dX6_joinTwo_62 : decode cX6_joinTwo 62 = .ok (.getfield 29, 3) := by decide +kernel
theorem dX6_joinTwo_65 : decode cX6_joinTwo 65 = .ok (.iload_n 2, 1) := by decide +kernel
theorem dX6_joinTwo_66 : decode cX6_joinTwo 66 = .ok (.iconst 2, 1) := by decide +kernel
theorem dX6_joinTwo_67 : decode cX6_joinTwo 67 = .ok (.invokevirtual 90, 3) := by decide +kernel
theorem dX6_joinTwo_70 : decode cX6_joinTwo 70 = .ok (.invokestatic 133, 3) := by decide +kernel
theorem dX6_joinTwo_73 : decode cX6_joinTwo 73 = .ok (.invokevirtual 129, 3) := by decide +kernel
theorem dX6_joinTwo_76 : decode cX6_joinTwo 76 = .ok (.aload_n 0, 1) := by decide +kernel
theorem dX6_joinTwo_77 : decode cX6_joinTwo 77 = .ok (.getfield 29, 3) := by decide +kernel
theorem dX6_joinTwo_80 : decode cX6_joinTwo 80 = .ok (.iload_n 1, 1) := by decide +kernel
theorem dX6_joinTwo_81 : decode cX6_joinTwo 81 = .ok (.iconst 3, 1) := by decide +kernel
theorem dX6_joinTwo_82 : decode cX6_joinTwo 82 = .ok (.aload_n 0, 1) := by decide +kernel
theorem dX6_joinTwo_83 : decode cX6_joinTwo 83 = .ok (.getfield 29, 3) := by decide +kernel
theorem dX6_joinTwo_86 : decode cX6_joinTwo 86 = .ok (.iload_n 1, 1) := by decide +kernel
theorem dX6_joinTwo_87 : decode cX6_joinTwo 87 = .ok (.iconst 3, 1) := by decide +kernel
theorem dX6_joinTwo_88 : decode cX6_joinTwo 88 = .ok (.invokevirtual 90, 3) := by decide +kernel
theorem dX6_joinTwo_91 : decode cX6_joinTwo 91 = .ok (.aload_n 0, 1) := by decide +kernel
theorem dX6_joinTwo_92 : decode cX6_joinTwo 92 = .ok (.getfield 29, 3) := by decide +kernel
theorem dX6_joinTwo_95 : decode cX6_joinTwo 95 = .ok (.iload_n 2, 1) := by decide +kernel
theorem dX6_joinTwo_96 : decode cX6_joinTwo 96 = .ok (.iconst 3, 1) := by decide +kernel
theorem dX6_joinTwo_97 : decode cX6_joinTwo 97 = .ok (.invokevirtual 90, 3) := by decide +kernel
theorem dX6_joinTwo_100 : decode cX6_joinTwo 100 = .ok (.invokestatic 138, 3) := by decide +kernel
theorem dX6_joinTwo_103 : decode cX6_joinTwo 103 = .ok (.invokevirtual 129, 3) := by decide +kernel
theorem dX6_joinTwo_106 : decode cX6_joinTwo 106 = .ok (.aload_n 0, 1) := by decide +kernel
theorem dX6_joinTwo_107 : decode cX6_joinTwo 107 = .ok (.getfield 29, 3) := by decide +kernel
theorem dX6_joinTwo_110 : decode cX6_joinTwo 110 = .ok (.iload_n 1, 1) := by decide +kernel
theorem dX6_joinTwo_111 : decode cX6_joinTwo 111 = .ok (.iconst 4, 1) := by decide +kernel
theorem dX6_joinTwo_112 : decode cX6_joinTwo 112 = .ok (.aload_n 0, 1) := by decide +kernel
theorem dX6_joinTwo_113 : decode cX6_joinTwo 113 = .ok (.getfield 29, 3) := by decide +kernel
theorem dX6_joinTwo_116 : decode cX6_joinTwo 116 = .ok (.iload_n 1, 1) := by decide +kernel
theorem dX6_joinTwo_117 : decode cX6_joinTwo 117 = .ok (.iconst 4, 1) := by decide +kernel
theorem dX6_joinTwo_118 : decode cX6_joinTwo 118 = .ok (.invokevirtual 90, 3) := by decide +kernel
theorem dX6_joinTwo_121 : decode cX6_joinTwo 121 = .ok (.aload_n 0, 1) := by decide +kernel
theorem dX6_joinTwo_122 : decode cX6_joinTwo 122 = .ok (.getfield 29, 3) := by decide +kernel
theorem dX6_joinTwo_125 : decode cX6_joinTwo 125 = .ok (.iload_n 2, 1) := by decide +kernel
theorem dX6_joinTwo_126 : decode cX6_joinTwo 126 = .ok (.iconst 4, 1) := by decide +kernel
theorem dX6_joinTwo_127 : decode cX6_joinTwo 127 = .ok (.invokevirtual 90, 3) := by decide +kernel
theorem dX6_joinTwo_130 : decode cX6_joinTwo 130 = .ok (.invokestatic 138, 3) := by decide +kernel
theorem dX6_joinTwo_133 : decode cX6_joinTwo 133 = .ok (.invokevirtual 129, 3) := by decide +kernel
theorem dX6_joinTwo_136 : decode cX6_joinTwo 136 = .ok (.aload_n 0, 1) := by decide +kernel
theorem dX6_joinTwo_137 : decode cX6_joinTwo 137 = .ok (.getfield 32, 3) := by decide +kernel
theorem dX6_joinTwo_140 : decode cX6_joinTwo 140 = .ok (.aload_n 0, 1) := by decide +kernel
theorem dX6_joinTwo_141 : decode cX6_joinTwo 141 = .ok (.getfield 67, 3) := by decide +kernel
theorem dX6_joinTwo_144 : decode cX6_joinTwo 144 = .ok (.iconst 3, 1) := by decide +kernel
theorem dX6_joinTwo_145 : decode cX6_joinTwo 145 = .ok (.aload_n 0, 1) := by decide +kernel
theorem dX6_joinTwo_146 : decode cX6_joinTwo 146 = .ok (.getfield 29, 3) := by decide +kernel
theorem dX6_joinTwo_149 : decode cX6_joinTwo 149 = .ok (.iload_n 1, 1) := by decide +kernel
theorem dX6_joinTwo_150 : decode cX6_joinTwo 150 = .ok (.iconst 0, 1) := by decide +kernel
theorem dX6_joinTwo_151 : decode cX6_joinTwo 151 = .ok (.invokevirtual 90, 3) := by decide +kernel
theorem dX6_joinTwo_154 : decode cX6_joinTwo 154 = .ok (.iload 4, 2) := by decide +kernel
theorem dX6_joinTwo_156 : decode cX6_joinTwo 156 = .ok (.invokevirtual 125, 3) := by decide +kernel
theorem dX6_joinTwo_159 : decode cX6_joinTwo 159 = .ok (.pop, 1) := by decide +kernel
theorem dX6_joinTwo_160 : decode cX6_joinTwo 160 = .ok (.aload_n 0, 1) := by decide +kernel
theorem dX6_joinTwo_161 : decode cX6_joinTwo 161 = .ok (.getfield 29, 3) := by decide +kernel
theorem dX6_joinTwo_164 : decode cX6_joinTwo 164 = .ok (.iload_n 2, 1) := by decide +kernel
theorem dX6_joinTwo_165 : decode cX6_joinTwo 165 = .ok (.invokevirtual 141, 3) := by decide +kernel
theorem dX6_joinTwo_168 : decode cX6_joinTwo 168 = .ok (.iload 4, 2) := by decide +kernel
theorem dX6_joinTwo_170 : decode cX6_joinTwo 170 = .ok (.ireturn, 1) := by decide +kernel
theorem dX6_sellOne_0 : decode cX6_sellOne 0 = .ok (.aload_n 0, 1) := by decide +kernel
theorem dX6_sellOne_1 : decode cX6_sellOne 1 = .ok (.iload_n 1, 1) := by decide +kernel
theorem dX6_sellOne_2 : decode cX6_sellOne 2 = .ok (.iconst 0, 1) := by decide +kernel
theorem dX6_sellOne_3 : decode cX6_sellOne 3 = .ok (.invokevirtual 145, 3) := by decide +kernel
theorem dX6_sellOne_6 : decode cX6_sellOne 6 = .ok (.istore_n 2, 1) := by decide +kernel
theorem dX6_sellOne_7 : decode cX6_sellOne 7 = .ok (.aload_n 0, 1) := by decide +kernel
theorem dX6_sellOne_8 : decode cX6_sellOne 8 = .ok (.dup, 1) := by decide +kernel
theorem dX6_sellOne_9 : decode cX6_sellOne 9 = .ok (.getfield 53, 3) := by decide +kernel
theorem dX6_sellOne_12 : decode cX6_sellOne 12 = .ok (.iload_n 2, 1) := by decide +kernel
theorem dX6_sellOne_13 : decode cX6_sellOne 13 = .ok (.iadd, 1) := by decide +kernel
theorem dX6_sellOne_14 : decode cX6_sellOne 14 = .ok (.putfield 53, 3) := by decide +kernel
theorem dX6_sellOne_17 : decode cX6_sellOne 17 = .ok (.aload_n 0, 1) := by decide +kernel
theorem dX6_sellOne_18 : decode cX6_sellOne 18 = .ok (.getfield 32, 3) := by decide +kernel
theorem dX6_sellOne_21 : decode cX6_sellOne 21 = .ok (.aload_n 0, 1) := by decide +kernel
theorem dX6_sellOne_22 : decode cX6_sellOne 22 = .ok (.getfield 67, 3) := by decide +kernel
theorem dX6_sellOne_25 : decode cX6_sellOne 25 = .ok (.iconst 4, 1) := by decide +kernel
theorem dX6_sellOne_26 : decode cX6_sellOne 26 = .ok (.aload_n 0, 1) := by decide +kernel
theorem dX6_sellOne_27 : decode cX6_sellOne 27 = .ok (.getfield 29, 3) := by decide +kernel
theorem dX6_sellOne_30 : decode cX6_sellOne 30 = .ok (.iload_n 1, 1) := by decide +kernel
theorem dX6_sellOne_31 : decode cX6_sellOne 31 = .ok (.iconst 0, 1) := by decide +kernel
theorem dX6_sellOne_32 : decode cX6_sellOne 32 = .ok (.invokevirtual 90, 3) := by decide +kernel
theorem dX6_sellOne_35 : decode cX6_sellOne 35 = .ok (.iload_n 2, 1) := by decide +kernel
theorem dX6_sellOne_36 : decode cX6_sellOne 36 = .ok (.invokevirtual 125, 3) := by decide +kernel
theorem dX6_sellOne_39 : decode cX6_sellOne 39 = .ok (.pop, 1) := by decide +kernel
theorem dX6_sellOne_40 : decode cX6_sellOne 40 = .ok (.aload_n 0, 1) := by decide +kernel
theorem dX6_sellOne_41 : decode cX6_sellOne 41 = .ok (.getfield 29, 3) := by decide +kernel
theorem dX6_sellOne_44 : decode cX6_sellOne 44 = .ok (.iload_n 1, 1) := by decide +kernel
theorem dX6_sellOne_45 : decode cX6_sellOne 45 = .ok (.invokevirtual 141, 3) := by decide +kernel
theorem dX6_sellOne_48 : decode cX6_sellOne 48 = .ok (.iload_n 2, 1) := by decide +kernel
theorem dX6_sellOne_49 : decode cX6_sellOne 49 = .ok (.ireturn, 1) := by decide +kernel
theorem dX6_beginDay_0 : decode cX6_beginDay 0 = .ok (.iconst 0, 1) := by decide +kernel
theorem dX6_beginDay_1 : decode cX6_beginDay 1 = .ok (.istore_n 1, 1) := by decide +kernel
theorem dX6_beginDay_2 : decode cX6_beginDay 2 = .ok (.iload_n 1, 1) := by decide +kernel
theorem dX6_beginDay_3 : decode cX6_beginDay 3 = .ok (.aload_n 0, 1) := by decide +kernel
theorem dX6_beginDay_4 : decode cX6_beginDay 4 = .ok (.getfield 20, 3) := by decide +kernel
theorem dX6_beginDay_7 : decode cX6_beginDay 7 = .ok (.getfield 116, 3) := by decide +kernel
theorem dX6_beginDay_10 : decode cX6_beginDay 10 = .ok (.if_icmp .ge 48, 3) := by decide +kernel
theorem dX6_beginDay_13 : decode cX6_beginDay 13 = .ok (.aload_n 0, 1) := by decide +kernel
theorem dX6_beginDay_14 : decode cX6_beginDay 14 = .ok (.getfield 20, 3) := by decide +kernel
theorem dX6_beginDay_17 : decode cX6_beginDay 17 = .ok (.iload_n 1, 1) := by decide +kernel
theorem dX6_beginDay_18 : decode cX6_beginDay 18 = .ok (.iconst 0, 1) := by decide +kernel
theorem dX6_beginDay_19 : decode cX6_beginDay 19 = .ok (.invokevirtual 90, 3) := by decide +kernel
theorem dX6_beginDay_22 : decode cX6_beginDay 22 = .ok (.aload_n 0, 1) := by decide +kernel
theorem dX6_beginDay_23 : decode cX6_beginDay 23 = .ok (.getfield 67, 3) := by decide +kernel
theorem dX6_beginDay_26 : decode cX6_beginDay 26 = .ok (.if_icmp .ne 26, 3) := by decide +kernel
theorem dX6_beginDay_29 : decode cX6_beginDay 29 = .ok (.aload_n 0, 1) := by decide +kernel
theorem dX6_beginDay_30 : decode cX6_beginDay 30 = .ok (.aload_n 0, 1) := by decide +kernel
theorem dX6_beginDay_31 : decode cX6_beginDay 31 = .ok (.getfield 20, 3) := by decide +kernel
theorem dX6_beginDay_34 : decode cX6_beginDay 34 = .ok (.iload_n 1, 1) := by decide +kernel
theorem dX6_beginDay_35 : decode cX6_beginDay 35 = .ok (.iconst 1, 1) := by decide +kernel
theorem dX6_beginDay_36 : decode cX6_beginDay 36 = .ok (.invokevirtual 90, 3) := by decide +kernel
theorem dX6_beginDay_39 : decode cX6_beginDay 39 = .ok (.aload_n 0, 1) := by decide +kernel
theorem dX6_beginDay_40 : decode cX6_beginDay 40 = .ok (.getfield 20, 3) := by decide +kernel
theorem dX6_beginDay_43 : decode cX6_beginDay 43 = .ok (.iload_n 1, 1) := by decide +kernel
theorem dX6_beginDay_44 : decode cX6_beginDay 44 = .ok (.iconst 2, 1) := by decide +kernel
theorem dX6_beginDay_45 : decode cX6_beginDay 45 = .ok (.invokevirtual 90, 3) := by decide +kernel
theorem dX6_beginDay_48 : decode cX6_beginDay 48 = .ok (.invokevirtual 148, 3) := by decide +kernel
theorem dX6_beginDay_51 : decode cX6_beginDay 51 = .ok (.pop, 1) := by decide +kernel
theorem dX6_beginDay_52 : decode cX6_beginDay 52 = .ok (.iinc 1 1, 3) := by decide +kernel
theorem dX6_beginDay_55 : decode cX6_beginDay 55 = .ok (.goto (-53), 3) := by decide +kernel
theorem dX6_beginDay_58 : decode cX6_beginDay 58 = .ok (.iconst 0, 1) := by decide +kernel
theorem dX6_beginDay_59 : decode cX6_beginDay 59 = .ok (.istore_n 1, 1) := by decide +kernel
theorem dX6_beginDay_60 : decode cX6_beginDay 60 = .ok (.iconst 0, 1) := by decide +kernel
theorem dX6_beginDay_61 : decode cX6_beginDay 61 = .ok (.istore_n 2, 1) := by decide +kernel
theorem dX6_beginDay_62 : decode cX6_beginDay 62 = .ok (.iload_n 2, 1) := by decide +kernel
theorem dX6_beginDay_63 : decode cX6_beginDay 63 = .ok (.aload_n 0, 1) := by decide +kernel
theorem dX6_beginDay_64 : decode cX6_beginDay 64 = .ok (.getfield 23, 3) := by decide +kernel
theorem dX6_beginDay_67 : decode cX6_beginDay 67 = .ok (.getfield 116, 3) := by decide +kernel
theorem dX6_beginDay_70 : decode cX6_beginDay 70 = .ok (.if_icmp .ge 58, 3) := by decide +kernel
theorem dX6_beginDay_73 : decode cX6_beginDay 73 = .ok (.aload_n 0, 1) := by decide +kernel
theorem dX6_beginDay_74 : decode cX6_beginDay 74 = .ok (.getfield 23, 3) := by decide +kernel
theorem dX6_beginDay_77 : decode cX6_beginDay 77 = .ok (.iload_n 2, 1) := by decide +kernel
theorem dX6_beginDay_78 : decode cX6_beginDay 78 = .ok (.iconst 4, 1) := by decide +kernel
theorem dX6_beginDay_79 : decode cX6_beginDay 79 = .ok (.invokevirtual 90, 3) := by decide +kernel
theorem dX6_beginDay_82 : decode cX6_beginDay 82 = .ok (.ifCond .ne 23, 3) := by decide +kernel
theorem dX6_beginDay_85 : decode cX6_beginDay 85 = .ok (.aload_n 0, 1) := by decide +kernel
theorem dX6_beginDay_86 : decode cX6_beginDay 86 = .ok (.getfield 67, 3) := by decide +kernel
theorem dX6_beginDay_89 : decode cX6_beginDay 89 = .ok (.aload_n 0, 1) := by decide +kernel
theorem dX6_beginDay_90 : decode cX6_beginDay 90 = .ok (.getfield 23, 3) := by decide +kernel
theorem dX6_beginDay_93 : decode cX6_beginDay 93 = .ok (.iload_n 2, 1) := by decide +kernel
theorem dX6_beginDay_94 : decode cX6_beginDay 94 = .ok (.iconst 2, 1) := by decide +kernel
theorem dX6_beginDay_95 : decode cX6_beginDay 95 = .ok (.invokevirtual 90, 3) := by decide +kernel
theorem dX6_beginDay_98 : decode cX6_beginDay 98 = .ok (.if_icmp .gt 7, 3) := by decide +kernel
theorem dX6_beginDay_101 : decode cX6_beginDay 101 = .ok (.iconst 1, 1) := by decide +kernel
theorem dX6_beginDay_102 : decode cX6_beginDay 102 = .ok (.goto 4, 3) := by decide +kernel
theorem dX6_beginDay_105 : decode cX6_beginDay 105 = .ok (.iconst 0, 1) := by decide +kernel
theorem dX6_beginDay_106 : decode cX6_beginDay 106 = .ok (.istore_n 3, 1) := by decide +kernel
theorem dX6_beginDay_107 : decode cX6_beginDay 107 = .ok (.iload_n 3, 1) := by decide +kernel
theorem dX6_beginDay_108 : decode cX6_beginDay 108 = .ok (.ifCond .eq 14, 3) := by decide +kernel
theorem dX6_beginDay_111 : decode cX6_beginDay 111 = .ok (.aload_n 0, 1) := by decide +kernel
theorem dX6_beginDay_112 : decode cX6_beginDay 112 = .ok (.iload_n 2, 1) := by decide +kernel
theorem dX6_beginDay_113 : decode cX6_beginDay 113 = .ok (.invokevirtual 151, 3) := by decide +kernel
theorem dX6_beginDay_116 : decode cX6_beginDay 116 = .ok (.ifCond .eq 6, 3) := by decide +kernel
theorem dX6_beginDay_119 : decode cX6_beginDay 119 = .ok (.iinc 1 1, 3) := by decide +kernel
theorem dX6_beginDay_122 : decode cX6_beginDay 122 = .ok (.iinc 2 1, 3) := by decide +kernel
theorem dX6_beginDay_125 : decode cX6_beginDay 125 = .ok (.goto (-63), 3) := by decide +kernel
theorem dX6_beginDay_128 : decode cX6_beginDay 128 = .ok (.iload_n 1, 1) := by decide +kernel
theorem dX6_beginDay_129 : decode cX6_beginDay 129 = .ok (.ireturn, 1) := by decide +kernel
theorem dX6_meets_0 : decode cX6_meets 0 = .ok (.aload_n 0, 1) := by decide +kernel
theorem dX6_meets_1 : decode cX6_meets 1 = .ok (.getfield 45, 3) := by decide +kernel
theorem dX6_meets_4 : decode cX6_meets 4 = .ok (.aload_n 0, 1) := by decide +kernel
theorem dX6_meets_5 : decode cX6_meets 5 = .ok (.getfield 29, 3) := by decide +kernel
theorem dX6_meets_8 : decode cX6_meets 8 = .ok (.aload_n 0, 1) := by decide +kernel
theorem dX6_meets_9 : decode cX6_meets 9 = .ok (.getfield 23, 3) := by decide +kernel
theorem dX6_meets_12 : decode cX6_meets 12 = .ok (.iload_n 1, 1) := by decide +kernel
theorem dX6_meets_13 : decode cX6_meets 13 = .ok (.iconst 0, 1) := by decide +kernel
theorem dX6_meets_14 : decode cX6_meets 14 = .ok (.invokevirtual 90, 3) := by decide +kernel
theorem dX6_meets_17 : decode cX6_meets 17 = .ok (.aload_n 0, 1) := by decide +kernel
theorem dX6_meets_18 : decode cX6_meets 18 = .ok (.getfield 23, 3) := by decide +kernel
theorem dX6_meets_21 : decode cX6_meets 21 = .ok (.iload_n 1, 1) := by decide +kernel
theorem dX6_meets_22 : decode cX6_meets 22 = .ok (.iconst 1, 1) := by decide +kernel
theorem dX6_meets_23 : decode cX6_meets 23 = .ok (.invokevirtual 90, 3) := by decide +kernel
theorem dX6_meets_26 : decode cX6_meets 26 = .ok (.invokevirtual 154, 3) := by decide +kernel
theorem dX6_meets_29 : decode cX6_meets 29 = .ok (.istore_n 2, 1) := by decide +kernel
theorem dX6_meets_30 : decode cX6_meets 30 = .ok (.iload_n 2, 1) := by decide +kernel
theorem dX6_meets_31 : decode cX6_meets 31 = .ok (.ifCond .ne 5, 3) := by decide +kernel
theorem dX6_meets_34 : decode cX6_meets 34 = .ok (.iconst 0, 1) := by decide +kernel
theorem dX6_meets_35 : decode cX6_meets 35 = .ok (.ireturn, 1) := by decide +kernel
theorem dX6_meets_36 : decode cX6_meets 36 = .ok (.aload_n 0, 1) := by decide +kernel
theorem dX6_meets_37 : decode cX6_meets 37 = .ok (.getfield 29, 3) := by decide +kernel
theorem dX6_meets_40 : decode cX6_meets 40 = .ok (.getfield 116, 3) := by decide +kernel
theorem dX6_meets_43 : decode cX6_meets 43 = .ok (.iconst 1, 1) := by decide +kernel
theorem dX6_meets_44 : decode cX6_meets 44 = .ok (.isub, 1) := by decide +kernel
theorem dX6_meets_45 : decode cX6_meets 45 = .ok (.istore_n 3, 1) := by decide +kernel
theorem dX6_meets_46 : decode cX6_meets 46 = .ok (.iload_n 3, 1) := by decide +kernel
theorem dX6_meets_47 : decode cX6_meets 47 = .ok (.ifCond .lt 25, 3) := by decide +kernel
theorem dX6_meets_50 : decode cX6_meets 50 = .ok (.iload_n 2, 1) := by decide +kernel
theorem dX6_meets_51 : decode cX6_meets 51 = .ok (.iload_n 3, 1) := by decide +kernel
theorem dX6_meets_52 : decode cX6_meets 52 = .ok (.invokestatic 158, 3) := by decide +kernel
theorem dX6_meets_55 : decode cX6_meets 55 = .ok (.ifCond .eq 11, 3) := by decide +kernel
theorem dX6_meets_58 : decode cX6_meets 58 = .ok (.aload_n 0, 1) := by decide +kernel
theorem dX6_meets_59 : decode cX6_meets 59 = .ok (.getfield 29, 3) := by decide +kernel
theorem dX6_meets_62 : decode cX6_meets 62 = .ok (.iload_n 3, 1) := by decide +kernel
theorem dX6_meets_63 : decode cX6_meets 63 = .ok (.invokevirtual 141, 3) := by decide +kernel
theorem dX6_meets_66 : decode cX6_meets 66 = .ok (.iinc 3 (-1), 3) := by decide +kernel
theorem dX6_meets_69 : decode cX6_meets 69 = .ok (.goto (-23), 3) := by decide +kernel
theorem dX6_meets_72 : decode cX6_meets 72 = .ok (.aload_n 0, 1) := by decide +kernel
theorem dX6_meets_73 : decode cX6_meets 73 = .ok (.getfield 23, 3) := by decide +kernel
theorem dX6_meets_76 : decode cX6_meets 76 = .ok (.iload_n 1, 1) := by decide +kernel
theorem dX6_meets_77 : decode cX6_meets 77 = .ok (.iconst 4, 1) := by decide +kernel
theorem dX6_meets_78 : decode cX6_meets 78 = .ok (.iconst 1, 1) := by decide +kernel
theorem dX6_meets_79 : decode cX6_meets 79 = .ok (.invokevirtual 129, 3) := by decide +kernel
theorem dX6_meets_82 : decode cX6_meets 82 = .ok (.aload_n 0, 1) := by decide +kernel
theorem dX6_meets_83 : decode cX6_meets 83 = .ok (.dup, 1) := by decide +kernel
theorem dX6_meets_84 : decode cX6_meets 84 = .ok (.getfield 53, 3) := by decide +kernel
theorem dX6_meets_87 : decode cX6_meets 87 = .ok (.aload_n 0, 1) := by decide +kernel
theorem dX6_meets_88 : decode cX6_meets 88 = .ok (.getfield 23, 3) := by decide +kernel
theorem dX6_meets_91 : decode cX6_meets 91 = .ok (.iload_n 1, 1) := by decide +kernel
theorem dX6_meets_92 : decode cX6_meets 92 = .ok (.iconst 3, 1) := by decide +kernel
theorem dX6_meets_93 : decode cX6_meets 93 = .ok (.invokevirtual 90, 3) := by decide +kernel
theorem dX6_meets_96 : decode cX6_meets 96 = .ok (.iadd, 1) := by decide +kernel
theorem dX6_meets_97 : decode cX6_meets 97 = .ok (.putfield 53, 3) := by decide +kernel
theorem dX6_meets_100 : decode cX6_meets 100 = .ok (.aload_n 0, 1) := by decide +kernel
theorem dX6_meets_101 : decode cX6_meets 101 = .ok (.getfield 32, 3) := by decide +kernel
theorem dX6_meets_104 : decode cX6_meets 104 = .ok (.aload_n 0, 1) := by decide +kernel
theorem dX6_meets_105 : decode cX6_meets 105 = .ok (.getfield 67, 3) := by decide +kernel
theorem dX6_meets_108 : decode cX6_meets 108 = .ok (.iconst 5, 1) := by decide +kernel
theorem dX6_meets_109 : decode cX6_meets 109 = .ok (.iload_n 1, 1) := by decide +kernel
theorem dX6_meets_110 : decode cX6_meets 110 = .ok (.iload_n 2, 1) := by decide +kernel
theorem dX6_meets_111 : decode cX6_meets 111 = .ok (.invokestatic 162, 3) := by decide +kernel
theorem dX6_meets_114 : decode cX6_meets 114 = .ok (.invokevirtual 125, 3) := by decide +kernel
theorem dX6_meets_117 : decode cX6_meets 117 = .ok (.pop, 1) := by decide +kernel
theorem dX6_meets_118 : decode cX6_meets 118 = .ok (.iconst 1, 1) := by decide +kernel
theorem dX6_meets_119 : decode cX6_meets 119 = .ok (.ireturn, 1) := by decide +kernel
theorem dX6_firstMissed_0 : decode cX6_firstMissed 0 = .ok (.iconst 0, 1) := by decide +kernel
theorem dX6_firstMissed_1 : decode cX6_firstMissed 1 = .ok (.istore_n 1, 1) := by decide +kernel
theorem dX6_firstMissed_2 : decode cX6_firstMissed 2 = .ok (.iload_n 1, 1) := by decide +kernel
theorem dX6_firstMissed_3 : decode cX6_firstMissed 3 = .ok (.aload_n 0, 1) := by decide +kernel
theorem dX6_firstMissed_4 : decode cX6_firstMissed 4 = .ok (.getfield 23, 3) := by decide +kernel
theorem dX6_firstMissed_7 : decode cX6_firstMissed 7 = .ok (.getfield 116, 3) := by decide +kernel
theorem dX6_firstMissed_10 : decode cX6_firstMissed 10 = .ok (.if_icmp .ge 39, 3) := by decide +kernel
theorem dX6_firstMissed_13 : decode cX6_firstMissed 13 = .ok (.aload_n 0, 1) := by decide +kernel
theorem dX6_firstMissed_14 : decode cX6_firstMissed 14 = .ok (.getfield 23, 3) := by decide +kernel
theorem dX6_firstMissed_17 : decode cX6_firstMissed 17 = .ok (.iload_n 1, 1) := by decide +kernel
theorem dX6_firstMissed_18 : decode cX6_firstMissed 18 = .ok (.iconst 2, 1) := by decide +kernel
theorem dX6_firstMissed_19 : decode cX6_firstMissed 19 = .ok (.invokevirtual 90, 3) := by decide +kernel
theorem dX6_firstMissed_22 : decode cX6_firstMissed 22 = .ok (.aload_n 0, 1) := by decide +kernel
theorem dX6_firstMissed_23 : decode cX6_firstMissed 23 = .ok (.getfield 67, 3) := by decide +kernel
theorem dX6_firstMissed_26 : decode cX6_firstMissed 26 = .ok (.if_icmp .ne 17, 3) := by decide +kernel
theorem dX6_firstMissed_29 : decode cX6_firstMissed 29 = .ok (.aload_n 0, 1) := by decide +kernel
theorem dX6_firstMissed_30 : decode cX6_firstMissed 30 = .ok (.getfield 23, 3) := by decide +kernel
theorem dX6_firstMissed_33 : decode cX6_firstMissed 33 = .ok (.iload_n 1, 1) := by decide +kernel
theorem dX6_firstMissed_34 : decode cX6_firstMissed 34 = .ok (.iconst 4, 1) := by decide +kernel
theorem dX6_firstMissed_35 : decode cX6_firstMissed 35 = .ok (.invokevirtual 90, 3) := by decide +kernel
theorem dX6_firstMissed_38 : decode cX6_firstMissed 38 = .ok (.ifCond .ne 5, 3) := by decide +kernel
theorem dX6_firstMissed_41 : decode cX6_firstMissed 41 = .ok (.iload_n 1, 1) := by decide +kernel
theorem dX6_firstMissed_42 : decode cX6_firstMissed 42 = .ok (.ireturn, 1) := by decide +kernel
theorem dX6_firstMissed_43 : decode cX6_firstMissed 43 = .ok (.iinc 1 1, 3) := by decide +kernel
theorem dX6_firstMissed_46 : decode cX6_firstMissed 46 = .ok (.goto (-44), 3) := by decide +kernel
theorem dX6_firstMissed_49 : decode cX6_firstMissed 49 = .ok (.iconst (-1), 1) := by decide +kernel
theorem dX6_firstMissed_50 : decode cX6_firstMissed 50 = .ok (.ireturn, 1) := by decide +kernel
theorem dX6_endDay_0 : decode cX6_endDay 0 = .ok (.iconst 0, 1) := by decide +kernel
theorem dX6_endDay_1 : decode cX6_endDay 1 = .ok (.istore_n 2, 1) := by decide +kernel
theorem dX6_endDay_2 : decode cX6_endDay 2 = .ok (.aload_n 0, 1) := by decide +kernel
theorem dX6_endDay_3 : decode cX6_endDay 3 = .ok (.getfield 29, 3) := by decide +kernel
theorem dX6_endDay_6 : decode cX6_endDay 6 = .ok (.getfield 116, 3) := by decide +kernel
theorem dX6_endDay_9 : decode cX6_endDay 9 = .ok (.istore_n 3, 1) := by decide +kernel
theorem dX6_endDay_10 : decode cX6_endDay 10 = .ok (.iconst 0, 1) := by decide +kernel
theorem dX6_endDay_11 : decode cX6_endDay 11 = .ok (.istore 4, 2) := by decide +kernel
theorem dX6_endDay_13 : decode cX6_endDay 13 = .ok (.iload 4, 2) := by decide +kernel
theorem dX6_endDay_15 : decode cX6_endDay 15 = .ok (.iload_n 3, 1) := by decide +kernel
theorem dX6_endDay_16 : decode cX6_endDay 16 = .ok (.if_icmp .ge 43, 3) := by decide +kernel
theorem dX6_endDay_19 : decode cX6_endDay 19 = .ok (.aload_n 0, 1) := by decide +kernel
theorem dX6_endDay_20 : decode cX6_endDay 20 = .ok (.iload_n 2, 1) := by decide +kernel
theorem dX6_endDay_21 : decode cX6_endDay 21 = .ok (.iconst 0, 1) := by decide +kernel
theorem dX6_endDay_22 : decode cX6_endDay 22 = .ok (.invokevirtual 167, 3) := by decide +kernel
theorem dX6_endDay_25 : decode cX6_endDay 25 = .ok (.ifCond .ne 15, 3) := by decide +kernel
theorem dX6_endDay_28 : decode cX6_endDay 28 = .ok (.iload_n 1, 1) := by decide +kernel
theorem dX6_endDay_29 : decode cX6_endDay 29 = .ok (.ifCond .ne 21, 3) := by decide +kernel
theorem dX6_endDay_32 : decode cX6_endDay 32 = .ok (.aload_n 0, 1) := by decide +kernel
theorem dX6_endDay_33 : decode cX6_endDay 33 = .ok (.iload_n 2, 1) := by decide +kernel
theorem dX6_endDay_34 : decode cX6_endDay 34 = .ok (.invokevirtual 170, 3) := by decide +kernel
theorem dX6_endDay_37 : decode cX6_endDay 37 = .ok (.ifCond .eq 13, 3) := by decide +kernel
theorem dX6_endDay_40 : decode cX6_endDay 40 = .ok (.aload_n 0, 1) := by decide +kernel
theorem dX6_endDay_41 : decode cX6_endDay 41 = .ok (.iload_n 2, 1) := by decide +kernel
theorem dX6_endDay_42 : decode cX6_endDay 42 = .ok (.bipush 6, 2) := by decide +kernel
theorem dX6_endDay_44 : decode cX6_endDay 44 = .ok (.invokevirtual 173, 3) := by decide +kernel
theorem dX6_endDay_47 : decode cX6_endDay 47 = .ok (.goto 6, 3) := by decide +kernel
theorem dX6_endDay_50 : decode cX6_endDay 50 = .ok (.iinc 2 1, 3) := by decide +kernel
theorem dX6_endDay_53 : decode cX6_endDay 53 = .ok (.iinc 4 1, 3) := by decide +kernel
theorem dX6_endDay_56 : decode cX6_endDay 56 = .ok (.goto (-43), 3) := by decide +kernel
theorem dX6_endDay_59 : decode cX6_endDay 59 = .ok (.iload_n 1, 1) := by decide +kernel
theorem dX6_endDay_60 : decode cX6_endDay 60 = .ok (.ifCond .ne 11, 3) := by decide +kernel
theorem dX6_endDay_63 : decode cX6_endDay 63 = .ok (.aload_n 0, 1) := by decide +kernel
theorem dX6_endDay_64 : decode cX6_endDay 64 = .ok (.invokevirtual 176, 3) := by decide +kernel
theorem dX6_endDay_67 : decode cX6_endDay 67 = .ok (.aload_n 0, 1) := by decide +kernel
theorem dX6_endDay_68 : decode cX6_endDay 68 = .ok (.invokevirtual 179, 3) := by decide +kernel
theorem dX6_endDay_71 : decode cX6_endDay 71 = .ok (.aload_n 0, 1) := by decide +kernel
theorem dX6_endDay_72 : decode cX6_endDay 72 = .ok (.dup, 1) := by decide +kernel
theorem dX6_endDay_73 : decode cX6_endDay 73 = .ok (.getfield 67, 3) := by decide +kernel
theorem dX6_endDay_76 : decode cX6_endDay 76 = .ok (.iconst 1, 1) := by decide +kernel
theorem dX6_endDay_77 : decode cX6_endDay 77 = .ok (.iadd, 1) := by decide +kernel
theorem dX6_endDay_78 : decode cX6_endDay 78 = .ok (.putfield 67, 3) := by decide +kernel
theorem dX6_endDay_81 : decode cX6_endDay 81 = .ok (.return_, 1) := by decide +kernel
theorem dX6_isSpoilt_0 : decode cX6_isSpoilt 0 = .ok (.aload_n 0, 1) := by decide +kernel
theorem dX6_isSpoilt_1 : decode cX6_isSpoilt 1 = .ok (.iload_n 1, 1) := by decide +kernel
theorem dX6_isSpoilt_2 : decode cX6_isSpoilt 2 = .ok (.invokevirtual 182, 3) := by decide +kernel
theorem dX6_isSpoilt_5 : decode cX6_isSpoilt 5 = .ok (.istore_n 2, 1) := by decide +kernel
theorem dX6_isSpoilt_6 : decode cX6_isSpoilt 6 = .ok (.iload_n 2, 1) := by decide +kernel
theorem dX6_isSpoilt_7 : decode cX6_isSpoilt 7 = .ok (.ifCond .le 18, 3) := by decide +kernel
theorem dX6_isSpoilt_10 : decode cX6_isSpoilt 10 = .ok (.aload_n 0, 1) := by decide +kernel
theorem dX6_isSpoilt_11 : decode cX6_isSpoilt 11 = .ok (.sipush 1000, 3) := by decide +kernel
theorem dX6_isSpoilt_14 : decode cX6_isSpoilt 14 = .ok (.invokevirtual 185, 3) := by decide +kernel
theorem dX6_isSpoilt_17 : decode cX6_isSpoilt 17 = .ok (.iload_n 2, 1) := by decide +kernel
theorem dX6_isSpoilt_18 : decode cX6_isSpoilt 18 = .ok (.if_icmp .ge 7, 3) := by decide +kernel
theorem dX6_isSpoilt_21 : decode cX6_isSpoilt 21 = .ok (.iconst 1, 1) := by decide +kernel
theorem dX6_isSpoilt_22 : decode cX6_isSpoilt 22 = .ok (.goto 4, 3) := by decide +kernel
theorem dX6_isSpoilt_25 : decode cX6_isSpoilt 25 = .ok (.iconst 0, 1) := by decide +kernel
theorem dX6_isSpoilt_26 : decode cX6_isSpoilt 26 = .ok (.ireturn, 1) := by decide +kernel
theorem dX6_inspectorsCome_0 : decode cX6_inspectorsCome 0 = .ok (.aload_n 0, 1) := by decide +kernel
theorem dX6_inspectorsCome_1 : decode cX6_inspectorsCome 1 = .ok (.getfield 73, 3) := by decide +kernel
theorem dX6_inspectorsCome_4 : decode cX6_inspectorsCome 4 = .ok (.ifCond .le 17, 3) := by decide +kernel
theorem dX6_inspectorsCome_7 : decode cX6_inspectorsCome 7 = .ok (.aload_n 0, 1) := by decide +kernel
theorem dX6_inspectorsCome_8 : decode cX6_inspectorsCome 8 = .ok (.sipush 1000, 3) := by decide +kernel
theorem dX6_inspectorsCome_11 : decode cX6_inspectorsCome 11 = .ok (.invokevirtual 185, 3) := by decide +kernel
theorem dX6_inspectorsCome_14 : decode cX6_inspectorsCome 14 = .ok (.aload_n 0, 1) := by decide +kernel
theorem dX6_inspectorsCome_15 : decode cX6_inspectorsCome 15 = .ok (.getfield 73, 3) := by decide +kernel
theorem dX6_inspectorsCome_18 : decode cX6_inspectorsCome 18 = .ok (.if_icmp .lt 4, 3) := by decide +kernel
theorem dX6_inspectorsCome_21 : decode cX6_inspectorsCome 21 = .ok (.return_, 1) := by decide +kernel
theorem dX6_inspectorsCome_22 : decode cX6_inspectorsCome 22 = .ok (.iconst 0, 1) := by decide +kernel
theorem dX6_inspectorsCome_23 : decode cX6_inspectorsCome 23 = .ok (.istore_n 1, 1) := by decide +kernel
theorem dX6_inspectorsCome_24 : decode cX6_inspectorsCome 24 = .ok (.iload_n 1, 1) := by decide +kernel
theorem dX6_inspectorsCome_25 : decode cX6_inspectorsCome 25 = .ok (.aload_n 0, 1) := by decide +kernel
theorem dX6_inspectorsCome_26 : decode cX6_inspectorsCome 26 = .ok (.getfield 29, 3) := by decide +kernel
theorem dX6_inspectorsCome_29 : decode cX6_inspectorsCome 29 = .ok (.getfield 116, 3) := by decide +kernel
theorem dX6_inspectorsCome_32 : decode cX6_inspectorsCome 32 = .ok (.if_icmp .ge 51, 3) := by decide +kernel
theorem dX6_inspectorsCome_35 : decode cX6_inspectorsCome 35 = .ok (.aload_n 0, 1) := by decide +kernel
theorem dX6_inspectorsCome_36 : decode cX6_inspectorsCome 36 = .ok (.getfield 29, 3) := by decide +kernel
theorem dX6_inspectorsCome_39 : decode cX6_inspectorsCome 39 = .ok (.iload_n 1, 1) := by decide +kernel
theorem dX6_inspectorsCome_40 : decode cX6_inspectorsCome 40 = .ok (.iconst 4, 1) := by decide +kernel
theorem dX6_inspectorsCome_41 : decode cX6_inspectorsCome 41 = .ok (.invokevirtual 90, 3) := by decide +kernel
theorem dX6_inspectorsCome_44 : decode cX6_inspectorsCome 44 = .ok (.iconst 1, 1) := by decide +kernel
theorem dX6_inspectorsCome_45 : decode cX6_inspectorsCome 45 = .ok (.if_icmp .ne 32, 3) := by decide +kernel
theorem dX6_inspectorsCome_48 : decode cX6_inspectorsCome 48 = .ok (.aload_n 0, 1) := by decide +kernel
theorem dX6_inspectorsCome_49 : decode cX6_inspectorsCome 49 = .ok (.iload_n 1, 1) := by decide +kernel
theorem dX6_inspectorsCome_50 : decode cX6_inspectorsCome 50 = .ok (.bipush 7, 2) := by decide +kernel
theorem dX6_inspectorsCome_52 : decode cX6_inspectorsCome 52 = .ok (.invokevirtual 173, 3) := by decide +kernel
theorem dX6_inspectorsCome_55 : decode cX6_inspectorsCome 55 = .ok (.aload_n 0, 1) := by decide +kernel
theorem dX6_inspectorsCome_56 : decode cX6_inspectorsCome 56 = .ok (.dup, 1) := by decide +kernel
theorem dX6_inspectorsCome_57 : decode cX6_inspectorsCome 57 = .ok (.getfield 70, 3) := by decide +kernel
theorem dX6_inspectorsCome_60 : decode cX6_inspectorsCome 60 = .ok (.iconst 1, 1) := by decide +kernel
theorem dX6_inspectorsCome_61 : decode cX6_inspectorsCome 61 = .ok (.iadd, 1) := by decide +kernel
theorem dX6_inspectorsCome_62 : decode cX6_inspectorsCome 62 = .ok (.putfield 70, 3) := by decide +kernel
theorem dX6_inspectorsCome_65 : decode cX6_inspectorsCome 65 = .ok (.aload_n 0, 1) := by decide +kernel
theorem dX6_inspectorsCome_66 : decode cX6_inspectorsCome 66 = .ok (.dup, 1) := by decide +kernel
theorem dX6_inspectorsCome_67 : decode cX6_inspectorsCome 67 = .ok (.getfield 53, 3) := by decide +kernel
theorem dX6_inspectorsCome_70 : decode cX6_inspectorsCome 70 = .ok (.bipush 50, 2) := by decide +kernel
theorem dX6_inspectorsCome_72 : decode cX6_inspectorsCome 72 = .ok (.isub, 1) := by decide +kernel
theorem dX6_inspectorsCome_73 : decode cX6_inspectorsCome 73 = .ok (.putfield 53, 3) := by decide +kernel
theorem dX6_inspectorsCome_76 : decode cX6_inspectorsCome 76 = .ok (.return_, 1) := by decide +kernel
theorem dX6_inspectorsCome_77 : decode cX6_inspectorsCome 77 = .ok (.iinc 1 1, 3) := by decide +kernel
theorem dX6_inspectorsCome_80 : decode cX6_inspectorsCome 80 = .ok (.goto (-56), 3) := by decide +kernel
theorem dX6_inspectorsCome_83 : decode cX6_inspectorsCome 83 = .ok (.return_, 1) := by decide +kernel
theorem dX6_dogsCome_0 : decode cX6_dogsCome 0 = .ok (.aload_n 0, 1) := by decide +kernel
theorem dX6_dogsCome_1 : decode cX6_dogsCome 1 = .ok (.getfield 76, 3) := by decide +kernel
theorem dX6_dogsCome_4 : decode cX6_dogsCome 4 = .ok (.ifCond .le 44, 3) := by decide +kernel
theorem dX6_dogsCome_7 : decode cX6_dogsCome 7 = .ok (.aload_n 0, 1) := by decide +kernel
theorem dX6_dogsCome_8 : decode cX6_dogsCome 8 = .ok (.getfield 29, 3) := by decide +kernel
theorem dX6_dogsCome_11 : decode cX6_dogsCome 11 = .ok (.getfield 116, 3) := by decide +kernel
theorem dX6_dogsCome_14 : decode cX6_dogsCome 14 = .ok (.ifCond .le 34, 3) := by decide +kernel
theorem dX6_dogsCome_17 : decode cX6_dogsCome 17 = .ok (.aload_n 0, 1) := by decide +kernel
theorem dX6_dogsCome_18 : decode cX6_dogsCome 18 = .ok (.sipush 1000, 3) := by decide +kernel
theorem dX6_dogsCome_21 : decode cX6_dogsCome 21 = .ok (.invokevirtual 185, 3) := by decide +kernel
theorem dX6_dogsCome_24 : decode cX6_dogsCome 24 = .ok (.aload_n 0, 1) := by decide +kernel
theorem dX6_dogsCome_25 : decode cX6_dogsCome 25 = .ok (.getfield 76, 3) := by decide +kernel
theorem dX6_dogsCome_28 : decode cX6_dogsCome 28 = .ok (.if_icmp .ge 20, 3) := by decide +kernel
theorem dX6_dogsCome_31 : decode cX6_dogsCome 31 = .ok (.aload_n 0, 1) := by decide +kernel
theorem dX6_dogsCome_32 : decode cX6_dogsCome 32 = .ok (.aload_n 0, 1) := by decide +kernel
theorem dX6_dogsCome_33 : decode cX6_dogsCome 33 = .ok (.aload_n 0, 1) := by decide +kernel
theorem dX6_dogsCome_34 : decode cX6_dogsCome 34 = .ok (.getfield 29, 3) := by decide +kernel
theorem dX6_dogsCome_37 : decode cX6_dogsCome 37 = .ok (.getfield 116, 3) := by decide +kernel
theorem dX6_dogsCome_40 : decode cX6_dogsCome 40 = .ok (.invokevirtual 185, 3) := by decide +kernel
theorem dX6_dogsCome_43 : decode cX6_dogsCome 43 = .ok (.bipush 8, 2) := by decide +kernel
theorem dX6_dogsCome_45 : decode cX6_dogsCome 45 = .ok (.invokevirtual 173, 3) := by decide +kernel
theorem dX6_dogsCome_48 : decode cX6_dogsCome 48 = .ok (.return_, 1) := by decide +kernel
theorem dX6_lose_0 : decode cX6_lose 0 = .ok (.aload_n 0, 1) := by decide +kernel
theorem dX6_lose_1 : decode cX6_lose 1 = .ok (.getfield 32, 3) := by decide +kernel
theorem dX6_lose_4 : decode cX6_lose 4 = .ok (.aload_n 0, 1) := by decide +kernel
theorem dX6_lose_5 : decode cX6_lose 5 = .ok (.getfield 67, 3) := by decide +kernel
theorem dX6_lose_8 : decode cX6_lose 8 = .ok (.iload_n 2, 1) := by decide +kernel
theorem dX6_lose_9 : decode cX6_lose 9 = .ok (.aload_n 0, 1) := by decide +kernel
theorem dX6_lose_10 : decode cX6_lose 10 = .ok (.getfield 29, 3) := by decide +kernel
theorem dX6_lose_13 : decode cX6_lose 13 = .ok (.iload_n 1, 1) := by decide +kernel
theorem dX6_lose_14 : decode cX6_lose 14 = .ok (.iconst 0, 1) := by decide +kernel
theorem dX6_lose_15 : decode cX6_lose 15 = .ok (.invokevirtual 90, 3) := by decide +kernel
theorem dX6_lose_18 : decode cX6_lose 18 = .ok (.aload_n 0, 1) := by decide +kernel
theorem dX6_lose_19 : decode cX6_lose 19 = .ok (.getfield 29, 3) := by decide +kernel
theorem dX6_lose_22 : decode cX6_lose 22 = .ok (.iload_n 1, 1) := by decide +kernel
theorem dX6_lose_23 : decode cX6_lose 23 = .ok (.iconst 1, 1) := by decide +kernel
theorem dX6_lose_24 : decode cX6_lose 24 = .ok (.invokevirtual 90, 3) := by decide +kernel
theorem dX6_lose_27 : decode cX6_lose 27 = .ok (.invokevirtual 125, 3) := by decide +kernel
theorem dX6_lose_30 : decode cX6_lose 30 = .ok (.pop, 1) := by decide +kernel
theorem dX6_lose_31 : decode cX6_lose 31 = .ok (.aload_n 0, 1) := by decide +kernel
theorem dX6_lose_32 : decode cX6_lose 32 = .ok (.getfield 29, 3) := by decide +kernel
theorem dX6_lose_35 : decode cX6_lose 35 = .ok (.iload_n 1, 1) := by decide +kernel
theorem dX6_lose_36 : decode cX6_lose 36 = .ok (.invokevirtual 141, 3) := by decide +kernel
theorem dX6_lose_39 : decode cX6_lose 39 = .ok (.return_, 1) := by decide +kernel
theorem dX6_draw_0 : decode cX6_draw 0 = .ok (.aload_n 0, 1) := by decide +kernel
theorem dX6_draw_1 : decode cX6_draw 1 = .ok (.ldc 188, 2) := by decide +kernel
theorem dX6_draw_3 : decode cX6_draw 3 = .ok (.aload_n 0, 1) := by decide +kernel
theorem dX6_draw_4 : decode cX6_draw 4 = .ok (.getfield 64, 3) := by decide +kernel
theorem dX6_draw_7 : decode cX6_draw 7 = .ok (.imul, 1) := by decide +kernel
theorem dX6_draw_8 : decode cX6_draw 8 = .ok (.ldc 189, 2) := by decide +kernel
theorem dX6_draw_10 : decode cX6_draw 10 = .ok (.iadd, 1) := by decide +kernel
theorem dX6_draw_11 : decode cX6_draw 11 = .ok (.putfield 64, 3) := by decide +kernel
theorem dX6_draw_14 : decode cX6_draw 14 = .ok (.iload_n 1, 1) := by decide +kernel
theorem dX6_draw_15 : decode cX6_draw 15 = .ok (.ifCond .le 15, 3) := by decide +kernel
theorem dX6_draw_18 : decode cX6_draw 18 = .ok (.aload_n 0, 1) := by decide +kernel
theorem dX6_draw_19 : decode cX6_draw 19 = .ok (.getfield 64, 3) := by decide +kernel
theorem dX6_draw_22 : decode cX6_draw 22 = .ok (.bipush 8, 2) := by decide +kernel
theorem dX6_draw_24 : decode cX6_draw 24 = .ok (.iushr, 1) := by decide +kernel
theorem dX6_draw_25 : decode cX6_draw 25 = .ok (.iload_n 1, 1) := by decide +kernel
theorem dX6_draw_26 : decode cX6_draw 26 = .ok (.irem, 1) := by decide +kernel
theorem dX6_draw_27 : decode cX6_draw 27 = .ok (.goto 4, 3) := by decide +kernel
theorem dX6_draw_30 : decode cX6_draw 30 = .ok (.iconst 0, 1) := by decide +kernel
theorem dX6_draw_31 : decode cX6_draw 31 = .ok (.ireturn, 1) := by decide +kernel
theorem dX6_metSet_0 : decode cX6_metSet 0 = .ok (.iconst 0, 1) := by decide +kernel
theorem dX6_metSet_1 : decode cX6_metSet 1 = .ok (.istore_n 1, 1) := by decide +kernel
theorem dX6_metSet_2 : decode cX6_metSet 2 = .ok (.iconst 0, 1) := by decide +kernel
theorem dX6_metSet_3 : decode cX6_metSet 3 = .ok (.istore_n 2, 1) := by decide +kernel
theorem dX6_metSet_4 : decode cX6_metSet 4 = .ok (.iload_n 2, 1) := by decide +kernel
theorem dX6_metSet_5 : decode cX6_metSet 5 = .ok (.aload_n 0, 1) := by decide +kernel
theorem dX6_metSet_6 : decode cX6_metSet 6 = .ok (.getfield 23, 3) := by decide +kernel
theorem dX6_metSet_9 : decode cX6_metSet 9 = .ok (.getfield 116, 3) := by decide +kernel
theorem dX6_metSet_12 : decode cX6_metSet 12 = .ok (.if_icmp .ge 28, 3) := by decide +kernel
theorem dX6_metSet_15 : decode cX6_metSet 15 = .ok (.aload_n 0, 1) := by decide +kernel
theorem dX6_metSet_16 : decode cX6_metSet 16 = .ok (.getfield 23, 3) := by decide +kernel
theorem dX6_metSet_19 : decode cX6_metSet 19 = .ok (.iload_n 2, 1) := by decide +kernel
theorem dX6_metSet_20 : decode cX6_metSet 20 = .ok (.iconst 4, 1) := by decide +kernel
theorem dX6_metSet_21 : decode cX6_metSet 21 = .ok (.invokevirtual 90, 3) := by decide +kernel
theorem dX6_metSet_24 : decode cX6_metSet 24 = .ok (.iconst 1, 1) := by decide +kernel
theorem dX6_metSet_25 : decode cX6_metSet 25 = .ok (.if_icmp .ne 9, 3) := by decide +kernel
theorem dX6_metSet_28 : decode cX6_metSet 28 = .ok (.iload_n 1, 1) := by decide +kernel
theorem dX6_metSet_29 : decode cX6_metSet 29 = .ok (.iconst 1, 1) := by decide +kernel
theorem dX6_metSet_30 : decode cX6_metSet 30 = .ok (.iload_n 2, 1) := by decide +kernel
theorem dX6_metSet_31 : decode cX6_metSet 31 = .ok (.ishl, 1) := by decide +kernel
theorem dX6_metSet_32 : decode cX6_metSet 32 = .ok (.ior, 1) := by decide +kernel
theorem dX6_metSet_33 : decode cX6_metSet 33 = .ok (.istore_n 1, 1) := by decide +kernel
theorem dX6_metSet_34 : decode cX6_metSet 34 = .ok (.iinc 2 1, 3) := by decide +kernel
theorem dX6_metSet_37 : decode cX6_metSet 37 = .ok (.goto (-33), 3) := by decide +kernel
theorem dX6_metSet_40 : decode cX6_metSet 40 = .ok (.iload_n 1, 1) := by decide +kernel
theorem dX6_metSet_41 : decode cX6_metSet 41 = .ok (.ireturn, 1) := by decide +kernel
theorem dX6_putMetSet_0 : decode cX6_putMetSet 0 = .ok (.iconst 0, 1) := by decide +kernel
theorem dX6_putMetSet_1 : decode cX6_putMetSet 1 = .ok (.istore_n 2, 1) := by decide +kernel
theorem dX6_putMetSet_2 : decode cX6_putMetSet 2 = .ok (.iload_n 2, 1) := by decide +kernel
theorem dX6_putMetSet_3 : decode cX6_putMetSet 3 = .ok (.aload_n 0, 1) := by decide +kernel
theorem dX6_putMetSet_4 : decode cX6_putMetSet 4 = .ok (.getfield 23, 3) := by decide +kernel
theorem dX6_putMetSet_7 : decode cX6_putMetSet 7 = .ok (.getfield 116, 3) := by decide +kernel
theorem dX6_putMetSet_10 : decode cX6_putMetSet 10 = .ok (.if_icmp .ge 31, 3) := by decide +kernel
theorem dX6_putMetSet_13 : decode cX6_putMetSet 13 = .ok (.aload_n 0, 1) := by decide +kernel
theorem dX6_putMetSet_14 : decode cX6_putMetSet 14 = .ok (.getfield 23, 3) := by decide +kernel
theorem dX6_putMetSet_17 : decode cX6_putMetSet 17 = .ok (.iload_n 2, 1) := by decide +kernel
theorem dX6_putMetSet_18 : decode cX6_putMetSet 18 = .ok (.iconst 4, 1) := by decide +kernel
theorem dX6_putMetSet_19 : decode cX6_putMetSet 19 = .ok (.iload_n 1, 1) := by decide +kernel
theorem dX6_putMetSet_20 : decode cX6_putMetSet 20 = .ok (.iload_n 2, 1) := by decide +kernel
theorem dX6_putMetSet_21 : decode cX6_putMetSet 21 = .ok (.invokestatic 158, 3) := by decide +kernel
theorem dX6_putMetSet_24 : decode cX6_putMetSet 24 = .ok (.ifCond .eq 7, 3) := by decide +kernel
theorem dX6_putMetSet_27 : decode cX6_putMetSet 27 = .ok (.iconst 1, 1) := by decide +kernel
theorem dX6_putMetSet_28 : decode cX6_putMetSet 28 = .ok (.goto 4, 3) := by decide +kernel
theorem dX6_putMetSet_31 : decode cX6_putMetSet 31 = .ok (.iconst 0, 1) := by decide +kernel
theorem dX6_putMetSet_32 : decode cX6_putMetSet 32 = .ok (.invokevirtual 129, 3) := by decide +kernel
theorem dX6_putMetSet_35 : decode cX6_putMetSet 35 = .ok (.iinc 2 1, 3) := by decide +kernel
theorem dX6_putMetSet_38 : decode cX6_putMetSet 38 = .ok (.goto (-36), 3) := by decide +kernel
theorem dX6_putMetSet_41 : decode cX6_putMetSet 41 = .ok (.return_, 1) := by decide +kernel
theorem dX6_guestsLeavingMost_0 : decode cX6_guestsLeavingMost 0 = .ok (.iconst 1, 1) := by decide +kernel
theorem dX6_guestsLeavingMost_1 : decode cX6_guestsLeavingMost 1 = .ok (.istore_n 2, 1) := by decide +kernel
theorem dX6_guestsLeavingMost_2 : decode cX6_guestsLeavingMost 2 = .ok (.aload_n 0, 1) := by decide +kernel
theorem dX6_guestsLeavingMost_3 : decode cX6_guestsLeavingMost 3 = .ok (.iload_n 1, 1) := by decide +kernel
theorem dX6_guestsLeavingMost_4 : decode cX6_guestsLeavingMost 4 = .ok (.iconst 1, 1) := by decide +kernel
theorem dX6_guestsLeavingMost_5 : decode cX6_guestsLeavingMost 5 = .ok (.invokevirtual 119, 3) := by decide +kernel
theorem dX6_guestsLeavingMost_8 : decode cX6_guestsLeavingMost 8 = .ok (.istore_n 3, 1) := by decide +kernel
theorem dX6_guestsLeavingMost_9 : decode cX6_guestsLeavingMost 9 = .ok (.iconst 2, 1) := by decide +kernel
theorem dX6_guestsLeavingMost_10 : decode cX6_guestsLeavingMost 10 = .ok (.istore 4, 2) := by decide +kernel
theorem dX6_guestsLeavingMost_12 : decode cX6_guestsLeavingMost 12 = .ok (.iload 4, 2) := by decide +kernel
theorem dX6_guestsLeavingMost_14 : decode cX6_guestsLeavingMost 14 = .ok (.bipush 20, 2) := by decide +kernel
theorem dX6_guestsLeavingMost_16 : decode cX6_guestsLeavingMost 16 = .ok (.if_icmp .gt 30, 3) := by decide +kernel
theorem dX6_guestsLeavingMost_19 : decode cX6_guestsLeavingMost 19 = .ok (.aload_n 0, 1) := by decide +kernel
theorem dX6_guestsLeavingMost_20 : decode cX6_guestsLeavingMost 20 = .ok (.iload_n 1, 1) := by decide +kernel
theorem dX6_guestsLeavingMost_21 : decode cX6_guestsLeavingMost 21 = .ok (.iload 4, 2) := by decide +kernel
theorem dX6_guestsLeavingMost_23 : decode cX6_guestsLeavingMost 23 = .ok (.invokevirtual 119, 3) := by decide +kernel
theorem dX6_guestsLeavingMost_26 : decode cX6_guestsLeavingMost 26 = .ok (.istore 5, 2) := by decide +kernel
theorem dX6_guestsLeavingMost_28 : decode cX6_guestsLeavingMost 28 = .ok (.iload 5, 2) := by decide +kernel
theorem dX6_guestsLeavingMost_30 : decode cX6_guestsLeavingMost 30 = .ok (.iload_n 3, 1) := by decide +kernel
theorem dX6_guestsLeavingMost_31 : decode cX6_guestsLeavingMost 31 = .ok (.if_icmp .le 9, 3) := by decide +kernel
theorem dX6_guestsLeavingMost_34 : decode cX6_guestsLeavingMost 34 = .ok (.iload 5, 2) := by decide +kernel
theorem dX6_guestsLeavingMost_36 : decode cX6_guestsLeavingMost 36 = .ok (.istore_n 3, 1) := by decide +kernel
theorem dX6_guestsLeavingMost_37 : decode cX6_guestsLeavingMost 37 = .ok (.iload 4, 2) := by decide +kernel
theorem dX6_guestsLeavingMost_39 : decode cX6_guestsLeavingMost 39 = .ok (.istore_n 2, 1) := by decide +kernel
theorem dX6_guestsLeavingMost_40 : decode cX6_guestsLeavingMost 40 = .ok (.iinc 4 1, 3) := by decide +kernel
theorem dX6_guestsLeavingMost_43 : decode cX6_guestsLeavingMost 43 = .ok (.goto (-31), 3) := by decide +kernel
theorem dX6_guestsLeavingMost_46 : decode cX6_guestsLeavingMost 46 = .ok (.iload_n 2, 1) := by decide +kernel
theorem dX6_guestsLeavingMost_47 : decode cX6_guestsLeavingMost 47 = .ok (.ireturn, 1) := by decide +kernel
theorem dX6_feastsLeaving_0 : decode cX6_feastsLeaving 0 = .ok (.iconst 0, 1) := by decide +kernel
theorem dX6_feastsLeaving_1 : decode cX6_feastsLeaving 1 = .ok (.istore_n 2, 1) := by decide +kernel
theorem dX6_feastsLeaving_2 : decode cX6_feastsLeaving 2 = .ok (.iconst 0, 1) := by decide +kernel
theorem dX6_feastsLeaving_3 : decode cX6_feastsLeaving 3 = .ok (.istore_n 3, 1) := by decide +kernel
theorem dX6_feastsLeaving_4 : decode cX6_feastsLeaving 4 = .ok (.iload_n 3, 1) := by decide +kernel
theorem dX6_feastsLeaving_5 : decode cX6_feastsLeaving 5 = .ok (.aload_n 0, 1) := by decide +kernel
theorem dX6_feastsLeaving_6 : decode cX6_feastsLeaving 6 = .ok (.getfield 20, 3) := by decide +kernel
theorem dX6_feastsLeaving_9 : decode cX6_feastsLeaving 9 = .ok (.getfield 116, 3) := by decide +kernel
theorem dX6_feastsLeaving_12 : decode cX6_feastsLeaving 12 = .ok (.if_icmp .ge 41, 3) := by decide +kernel
theorem dX6_feastsLeaving_15 : decode cX6_feastsLeaving 15 = .ok (.aload_n 0, 1) := by decide +kernel
theorem dX6_feastsLeaving_16 : decode cX6_feastsLeaving 16 = .ok (.aload_n 0, 1) := by decide +kernel
theorem dX6_feastsLeaving_17 : decode cX6_feastsLeaving 17 = .ok (.getfield 20, 3) := by decide +kernel
theorem dX6_feastsLeaving_20 : decode cX6_feastsLeaving 20 = .ok (.iload_n 3, 1) := by decide +kernel
theorem dX6_feastsLeaving_21 : decode cX6_feastsLeaving 21 = .ok (.iconst 1, 1) := by decide +kernel
theorem dX6_feastsLeaving_22 : decode cX6_feastsLeaving 22 = .ok (.invokevirtual 90, 3) := by decide +kernel
theorem dX6_feastsLeaving_25 : decode cX6_feastsLeaving 25 = .ok (.aload_n 0, 1) := by decide +kernel
theorem dX6_feastsLeaving_26 : decode cX6_feastsLeaving 26 = .ok (.getfield 20, 3) := by decide +kernel
theorem dX6_feastsLeaving_29 : decode cX6_feastsLeaving 29 = .ok (.iload_n 3, 1) := by decide +kernel
theorem dX6_feastsLeaving_30 : decode cX6_feastsLeaving 30 = .ok (.iconst 2, 1) := by decide +kernel
theorem dX6_feastsLeaving_31 : decode cX6_feastsLeaving 31 = .ok (.invokevirtual 90, 3) := by decide +kernel
theorem dX6_feastsLeaving_34 : decode cX6_feastsLeaving 34 = .ok (.invokevirtual 119, 3) := by decide +kernel
theorem dX6_feastsLeaving_37 : decode cX6_feastsLeaving 37 = .ok (.iload_n 1, 1) := by decide +kernel
theorem dX6_feastsLeaving_38 : decode cX6_feastsLeaving 38 = .ok (.if_icmp .ne 9, 3) := by decide +kernel
theorem dX6_feastsLeaving_41 : decode cX6_feastsLeaving 41 = .ok (.iload_n 2, 1) := by decide +kernel
theorem dX6_feastsLeaving_42 : decode cX6_feastsLeaving 42 = .ok (.iconst 1, 1) := by decide +kernel
theorem dX6_feastsLeaving_43 : decode cX6_feastsLeaving 43 = .ok (.iload_n 3, 1) := by decide +kernel
theorem dX6_feastsLeaving_44 : decode cX6_feastsLeaving 44 = .ok (.ishl, 1) := by decide +kernel
theorem dX6_feastsLeaving_45 : decode cX6_feastsLeaving 45 = .ok (.ior, 1) := by decide +kernel
theorem dX6_feastsLeaving_46 : decode cX6_feastsLeaving 46 = .ok (.istore_n 2, 1) := by decide +kernel
theorem dX6_feastsLeaving_47 : decode cX6_feastsLeaving 47 = .ok (.iinc 3 1, 3) := by decide +kernel
theorem dX6_feastsLeaving_50 : decode cX6_feastsLeaving 50 = .ok (.goto (-46), 3) := by decide +kernel
theorem dX6_feastsLeaving_53 : decode cX6_feastsLeaving 53 = .ok (.iload_n 2, 1) := by decide +kernel
theorem dX6_feastsLeaving_54 : decode cX6_feastsLeaving 54 = .ok (.ireturn, 1) := by decide +kernel
theorem dX6_kindParting_0 : decode cX6_kindParting 0 = .ok (.iload_n 1, 1) := by decide +kernel
theorem dX6_kindParting_1 : decode cX6_kindParting 1 = .ok (.invokestatic 162, 3) := by decide +kernel
theorem dX6_kindParting_4 : decode cX6_kindParting 4 = .ok (.istore_n 2, 1) := by decide +kernel
theorem dX6_kindParting_5 : decode cX6_kindParting 5 = .ok (.iload_n 2, 1) := by decide +kernel
theorem dX6_kindParting_6 : decode cX6_kindParting 6 = .ok (.iconst 2, 1) := by decide +kernel
theorem dX6_kindParting_7 : decode cX6_kindParting 7 = .ok (.if_icmp .ge 5, 3) := by decide +kernel
theorem dX6_kindParting_10 : decode cX6_kindParting 10 = .ok (.iconst (-1), 1) := by decide +kernel
theorem dX6_kindParting_11 : decode cX6_kindParting 11 = .ok (.ireturn, 1) := by decide +kernel
theorem dX6_kindParting_12 : decode cX6_kindParting 12 = .ok (.iconst (-1), 1) := by decide +kernel
theorem dX6_kindParting_13 : decode cX6_kindParting 13 = .ok (.istore_n 3, 1) := by decide +kernel
theorem dX6_kindParting_14 : decode cX6_kindParting 14 = .ok (.iload_n 2, 1) := by decide +kernel
theorem dX6_kindParting_15 : decode cX6_kindParting 15 = .ok (.iconst 1, 1) := by decide +kernel
theorem dX6_kindParting_16 : decode cX6_kindParting 16 = .ok (.iadd, 1) := by decide +kernel
theorem dX6_kindParting_17 : decode cX6_kindParting 17 = .ok (.istore 4, 2) := by decide +kernel
theorem dX6_kindParting_19 : decode cX6_kindParting 19 = .ok (.iconst 0, 1) := by decide +kernel
theorem dX6_kindParting_20 : decode cX6_kindParting 20 = .ok (.istore 5, 2) := by decide +kernel
theorem dX6_kindParting_22 : decode cX6_kindParting 22 = .ok (.iload 5, 2) := by decide +kernel
theorem dX6_kindParting_24 : decode cX6_kindParting 24 = .ok (.aload_n 0, 1) := by decide +kernel
theorem dX6_kindParting_25 : decode cX6_kindParting 25 = .ok (.getfield 14, 3) := by decide +kernel
theorem dX6_kindParting_28 : decode cX6_kindParting 28 = .ok (.getfield 116, 3) := by decide +kernel
theorem dX6_kindParting_31 : decode cX6_kindParting 31 = .ok (.if_icmp .ge 43, 3) := by decide +kernel
theorem dX6_kindParting_34 : decode cX6_kindParting 34 = .ok (.aload_n 0, 1) := by decide +kernel
theorem dX6_kindParting_35 : decode cX6_kindParting 35 = .ok (.iload_n 1, 1) := by decide +kernel
theorem dX6_kindParting_36 : decode cX6_kindParting 36 = .ok (.iload 5, 2) := by decide +kernel
theorem dX6_kindParting_38 : decode cX6_kindParting 38 = .ok (.invokevirtual 190, 3) := by decide +kernel
theorem dX6_kindParting_41 : decode cX6_kindParting 41 = .ok (.istore 6, 2) := by decide +kernel
theorem dX6_kindParting_43 : decode cX6_kindParting 43 = .ok (.iload 6, 2) := by decide +kernel
theorem dX6_kindParting_45 : decode cX6_kindParting 45 = .ok (.iload_n 2, 1) := by decide +kernel
theorem dX6_kindParting_46 : decode cX6_kindParting 46 = .ok (.iload 6, 2) := by decide +kernel
theorem dX6_kindParting_48 : decode cX6_kindParting 48 = .ok (.isub, 1) := by decide +kernel
theorem dX6_kindParting_49 : decode cX6_kindParting 49 = .ok (.invokestatic 138, 3) := by decide +kernel
theorem dX6_kindParting_52 : decode cX6_kindParting 52 = .ok (.istore 7, 2) := by decide +kernel
theorem dX6_kindParting_54 : decode cX6_kindParting 54 = .ok (.iload 7, 2) := by decide +kernel
theorem dX6_kindParting_56 : decode cX6_kindParting 56 = .ok (.iload 4, 2) := by decide +kernel
theorem dX6_kindParting_58 : decode cX6_kindParting 58 = .ok (.if_icmp .ge 10, 3) := by decide +kernel
theorem dX6_kindParting_61 : decode cX6_kindParting 61 = .ok (.iload 7, 2) := by decide +kernel
theorem dX6_kindParting_63 : decode cX6_kindParting 63 = .ok (.istore 4, 2) := by decide +kernel
theorem dX6_kindParting_65 : decode cX6_kindParting 65 = .ok (.iload 5, 2) := by decide +kernel
theorem dX6_kindParting_67 : decode cX6_kindParting 67 = .ok (.istore_n 3, 1) := by decide +kernel
theorem dX6_kindParting_68 : decode cX6_kindParting 68 = .ok (.iinc 5 1, 3) := by decide +kernel
theorem dX6_kindParting_71 : decode cX6_kindParting 71 = .ok (.goto (-49), 3) := by decide +kernel
theorem dX6_kindParting_74 : decode cX6_kindParting 74 = .ok (.iload_n 3, 1) := by decide +kernel
theorem dX6_kindParting_75 : decode cX6_kindParting 75 = .ok (.ireturn, 1) := by decide +kernel
theorem dX6_feastsOfKind_0 : decode cX6_feastsOfKind 0 = .ok (.iconst 0, 1) := by decide +kernel
theorem dX6_feastsOfKind_1 : decode cX6_feastsOfKind 1 = .ok (.istore_n 3, 1) := by decide +kernel
theorem dX6_feastsOfKind_2 : decode cX6_feastsOfKind 2 = .ok (.iconst 0, 1) := by decide +kernel
theorem dX6_feastsOfKind_3 : decode cX6_feastsOfKind 3 = .ok (.istore 4, 2) := by decide +kernel
theorem dX6_feastsOfKind_5 : decode cX6_feastsOfKind 5 = .ok (.iload 4, 2) := by decide +kernel
theorem dX6_feastsOfKind_7 : decode cX6_feastsOfKind 7 = .ok (.aload_n 0, 1) := by decide +kernel
theorem dX6_feastsOfKind_8 : decode cX6_feastsOfKind 8 = .ok (.getfield 20, 3) := by decide +kernel
theorem dX6_feastsOfKind_11 : decode cX6_feastsOfKind 11 = .ok (.getfield 116, 3) := by decide +kernel
theorem dX6_feastsOfKind_14 : decode cX6_feastsOfKind 14 = .ok (.if_icmp .ge 35, 3) := by decide +kernel
theorem dX6_feastsOfKind_17 : decode cX6_feastsOfKind 17 = .ok (.iload_n 1, 1) := by decide +kernel
theorem dX6_feastsOfKind_18 : decode cX6_feastsOfKind 18 = .ok (.iload 4, 2) := by decide +kernel
theorem dX6_feastsOfKind_20 : decode cX6_feastsOfKind 20 = .ok (.invokestatic 158, 3) := by decide +kernel
theorem dX6_feastsOfKind_23 : decode cX6_feastsOfKind 23 = .ok (.ifCond .eq 20, 3) := by decide +kernel
theorem dX6_feastsOfKind_26 : decode cX6_feastsOfKind 26 = .ok (.aload_n 0, 1) := by decide +kernel
theorem dX6_feastsOfKind_27 : decode cX6_feastsOfKind 27 = .ok (.getfield 20, 3) := by decide +kernel
theorem dX6_feastsOfKind_30 : decode cX6_feastsOfKind 30 = .ok (.iload 4, 2) := by decide +kernel
theorem dX6_feastsOfKind_32 : decode cX6_feastsOfKind 32 = .ok (.iconst 1, 1) := by decide +kernel
theorem dX6_feastsOfKind_33 : decode cX6_feastsOfKind 33 = .ok (.invokevirtual 90, 3) := by decide +kernel
theorem dX6_feastsOfKind_36 : decode cX6_feastsOfKind 36 = .ok (.iload_n 2, 1) := by decide +kernel
theorem dX6_feastsOfKind_37 : decode cX6_feastsOfKind 37 = .ok (.if_icmp .ne 6, 3) := by decide +kernel
theorem dX6_feastsOfKind_40 : decode cX6_feastsOfKind 40 = .ok (.iinc 3 1, 3) := by decide +kernel
theorem dX6_feastsOfKind_43 : decode cX6_feastsOfKind 43 = .ok (.iinc 4 1, 3) := by decide +kernel
theorem dX6_feastsOfKind_46 : decode cX6_feastsOfKind 46 = .ok (.goto (-41), 3) := by decide +kernel
theorem dX6_feastsOfKind_49 : decode cX6_feastsOfKind 49 = .ok (.iload_n 3, 1) := by decide +kernel
theorem dX6_feastsOfKind_50 : decode cX6_feastsOfKind 50 = .ok (.ireturn, 1) := by decide +kernel
theorem dX6_bestWait_0 : decode cX6_bestWait 0 = .ok (.iconst 0, 1) := by decide +kernel
theorem dX6_bestWait_1 : decode cX6_bestWait 1 = .ok (.istore_n 2, 1) := by decide +kernel
theorem dX6_bestWait_2 : decode cX6_bestWait 2 = .ok (.iconst (-1), 1) := by decide +kernel
theorem dX6_bestWait_3 : decode cX6_bestWait 3 = .ok (.istore_n 3, 1) := by decide +kernel
theorem dX6_bestWait_4 : decode cX6_bestWait 4 = .ok (.iconst 0, 1) := by decide +kernel
theorem dX6_bestWait_5 : decode cX6_bestWait 5 = .ok (.istore 4, 2) := by decide +kernel
theorem dX6_bestWait_7 : decode cX6_bestWait 7 = .ok (.iload 4, 2) := by decide +kernel
theorem dX6_bestWait_9 : decode cX6_bestWait 9 = .ok (.bipush 30, 2) := by decide +kernel
theorem dX6_bestWait_11 : decode cX6_bestWait 11 = .ok (.if_icmp .gt 40, 3) := by decide +kernel
theorem dX6_bestWait_14 : decode cX6_bestWait 14 = .ok (.aload_n 0, 1) := by decide +kernel
theorem dX6_bestWait_15 : decode cX6_bestWait 15 = .ok (.iload_n 1, 1) := by decide +kernel
theorem dX6_bestWait_16 : decode cX6_bestWait 16 = .ok (.iload 4, 2) := by decide +kernel
theorem dX6_bestWait_18 : decode cX6_bestWait 18 = .ok (.invokevirtual 167, 3) := by decide +kernel
theorem dX6_bestWait_21 : decode cX6_bestWait 21 = .ok (.ifCond .ne 30, 3) := by decide +kernel
theorem dX6_bestWait_24 : decode cX6_bestWait 24 = .ok (.aload_n 0, 1) := by decide +kernel
theorem dX6_bestWait_25 : decode cX6_bestWait 25 = .ok (.iload_n 1, 1) := by decide +kernel
theorem dX6_bestWait_26 : decode cX6_bestWait 26 = .ok (.iload 4, 2) := by decide +kernel
theorem dX6_bestWait_28 : decode cX6_bestWait 28 = .ok (.invokevirtual 145, 3) := by decide +kernel
theorem dX6_bestWait_31 : decode cX6_bestWait 31 = .ok (.istore 5, 2) := by decide +kernel
theorem dX6_bestWait_33 : decode cX6_bestWait 33 = .ok (.iload 5, 2) := by decide +kernel
theorem dX6_bestWait_35 : decode cX6_bestWait 35 = .ok (.iload_n 3, 1) := by decide +kernel
theorem dX6_bestWait_36 : decode cX6_bestWait 36 = .ok (.if_icmp .le 9, 3) := by decide +kernel
theorem dX6_bestWait_39 : decode cX6_bestWait 39 = .ok (.iload 5, 2) := by decide +kernel
theorem dX6_bestWait_41 : decode cX6_bestWait 41 = .ok (.istore_n 3, 1) := by decide +kernel
theorem dX6_bestWait_42 : decode cX6_bestWait 42 = .ok (.iload 4, 2) := by decide +kernel
theorem dX6_bestWait_44 : decode cX6_bestWait 44 = .ok (.istore_n 2, 1) := by decide +kernel
theorem dX6_bestWait_45 : decode cX6_bestWait 45 = .ok (.iinc 4 1, 3) := by decide +kernel
theorem dX6_bestWait_48 : decode cX6_bestWait 48 = .ok (.goto (-41), 3) := by decide +kernel
theorem dX6_bestWait_51 : decode cX6_bestWait 51 = .ok (.iload_n 2, 1) := by decide +kernel
theorem dX6_bestWait_52 : decode cX6_bestWait 52 = .ok (.ireturn, 1) := by decide +kernel
theorem dX7_init_0 : decode cX7_init 0 = .ok (.aload_n 0, 1) := by decide +kernel
theorem dX7_init_1 : decode cX7_init 1 = .ok (.invokespecial 3, 3) := by decide +kernel
theorem dX7_init_4 : decode cX7_init 4 = .ok (.aload_n 0, 1) := by decide +kernel
theorem dX7_init_5 : decode cX7_init 5 = .ok (.bipush 6, 2) := by decide +kernel
theorem dX7_init_7 : decode cX7_init 7 = .ok (.anewarray 11, 3) := by decide +kernel
theorem dX7_init_10 : decode cX7_init 10 = .ok (.putfield 13, 3) := by decide +kernel
theorem dX7_init_13 : decode cX7_init 13 = .ok (.aload_n 0, 1) := by decide +kernel
theorem dX7_init_14 : decode cX7_init 14 = .ok (.bipush 6, 2) := by decide +kernel
theorem dX7_init_16 : decode cX7_init 16 = .ok (.bipush 7, 2) := by decide +kernel
theorem dX7_init_18 : decode cX7_init 18 = .ok (.multianewarray 17 2, 4) := by decide +kernel
theorem dX7_init_22 : decode cX7_init 22 = .ok (.putfield 19, 3) := by decide +kernel
theorem dX7_init_25 : decode cX7_init 25 = .ok (.iconst 0, 1) := by decide +kernel
theorem dX7_init_26 : decode cX7_init 26 = .ok (.istore_n 1, 1) := by decide +kernel
theorem dX7_init_27 : decode cX7_init 27 = .ok (.iload_n 1, 1) := by decide +kernel
theorem dX7_init_28 : decode cX7_init 28 = .ok (.bipush 6, 2) := by decide +kernel
theorem dX7_init_30 : decode cX7_init 30 = .ok (.if_icmp .ge 25, 3) := by decide +kernel
theorem dX7_init_33 : decode cX7_init 33 = .ok (.aload_n 0, 1) := by decide +kernel
theorem dX7_init_34 : decode cX7_init 34 = .ok (.getfield 13, 3) := by decide +kernel
theorem dX7_init_37 : decode cX7_init 37 = .ok (.iload_n 1, 1) := by decide +kernel
theorem dX7_init_38 : decode cX7_init 38 = .ok (.new 11, 3) := by decide +kernel
theorem dX7_init_41 : decode cX7_init 41 = .ok (.dup, 1) := by decide +kernel
theorem dX7_init_42 : decode cX7_init 42 = .ok (.bipush 14, 2) := by decide +kernel
theorem dX7_init_44 : decode cX7_init 44 = .ok (.iconst 5, 1) := by decide +kernel
theorem dX7_init_45 : decode cX7_init 45 = .ok (.invokespecial 22, 3) := by decide +kernel
theorem dX7_init_48 : decode cX7_init 48 = .ok (.aastore, 1) := by decide +kernel
theorem dX7_init_49 : decode cX7_init 49 = .ok (.iinc 1 1, 3) := by decide +kernel
theorem dX7_init_52 : decode cX7_init 52 = .ok (.goto (-25), 3) := by decide +kernel
theorem dX7_init_55 : decode cX7_init 55 = .ok (.return_, 1) := by decide +kernel
theorem dX7_forget_0 : decode cX7_forget 0 = .ok (.aload_n 0, 1) := by decide +kernel
theorem dX7_forget_1 : decode cX7_forget 1 = .ok (.iconst 0, 1) := by decide +kernel
theorem dX7_forget_2 : decode cX7_forget 2 = .ok (.putfield 25, 3) := by decide +kernel
theorem dX7_forget_5 : decode cX7_forget 5 = .ok (.return_, 1) := by decide +kernel
theorem dX7_keep_0 : decode cX7_keep 0 = .ok (.aload_n 0, 1) := by decide +kernel
theorem dX7_keep_1 : decode cX7_keep 1 = .ok (.getfield 29, 3) := by decide +kernel
theorem dX7_keep_4 : decode cX7_keep 4 = .ok (.ifCond .lt 12, 3) := by decide +kernel
theorem dX7_keep_7 : decode cX7_keep 7 = .ok (.aload_n 0, 1) := by decide +kernel
theorem dX7_keep_8 : decode cX7_keep 8 = .ok (.getfield 29, 3) := by decide +kernel
theorem dX7_keep_11 : decode cX7_keep 11 = .ok (.bipush 6, 2) := by decide +kernel
theorem dX7_keep_13 : decode cX7_keep 13 = .ok (.if_icmp .lt 8, 3) := by decide +kernel
theorem dX7_keep_16 : decode cX7_keep 16 = .ok (.aload_n 0, 1) := by decide +kernel
theorem dX7_keep_17 : decode cX7_keep 17 = .ok (.iconst 0, 1) := by decide +kernel
theorem dX7_keep_18 : decode cX7_keep 18 = .ok (.putfield 29, 3) := by decide +kernel
theorem dX7_keep_21 : decode cX7_keep 21 = .ok (.aload_n 0, 1) := by decide +kernel
theorem dX7_keep_22 : decode cX7_keep 22 = .ok (.getfield 13, 3) := by decide +kernel
theorem dX7_keep_25 : decode cX7_keep 25 = .ok (.aload_n 0, 1) := by decide +kernel
theorem dX7_keep_26 : decode cX7_keep 26 = .ok (.getfield 29, 3) := by decide +kernel
theorem dX7_keep_29 : decode cX7_keep 29 = .ok (.aaload, 1) := by decide +kernel
theorem dX7_keep_30 : decode cX7_keep 30 = .ok (.aload_n 1, 1) := by decide +kernel
theorem dX7_keep_31 : decode cX7_keep 31 = .ok (.getfield 32, 3) := by decide +kernel
theorem dX7_keep_34 : decode cX7_keep 34 = .ok (.invokevirtual 37, 3) := by decide +kernel
theorem dX7_keep_37 : decode cX7_keep 37 = .ok (.aload_n 0, 1) := by decide +kernel
theorem dX7_keep_38 : decode cX7_keep 38 = .ok (.getfield 19, 3) := by decide +kernel
theorem dX7_keep_41 : decode cX7_keep 41 = .ok (.aload_n 0, 1) := by decide +kernel
theorem dX7_keep_42 : decode cX7_keep 42 = .ok (.getfield 29, 3) := by decide +kernel
theorem dX7_keep_45 : decode cX7_keep 45 = .ok (.aaload, 1) := by decide +kernel
theorem dX7_keep_46 : decode cX7_keep 46 = .ok (.astore_n 2, 1) := by decide +kernel
theorem dX7_keep_47 : decode cX7_keep 47 = .ok (.aload_n 2, 1) := by decide +kernel
theorem dX7_keep_48 : decode cX7_keep 48 = .ok (.iconst 0, 1) := by decide +kernel
theorem dX7_keep_49 : decode cX7_keep 49 = .ok (.aload_n 1, 1) := by decide +kernel
theorem dX7_keep_50 : decode cX7_keep 50 = .ok (.getfield 41, 3) := by decide +kernel
theorem dX7_keep_53 : decode cX7_keep 53 = .ok (.iastore, 1) := by decide +kernel
theorem dX7_keep_54 : decode cX7_keep 54 = .ok (.aload_n 2, 1) := by decide +kernel
theorem dX7_keep_55 : decode cX7_keep 55 = .ok (.iconst 1, 1) := by decide +kernel
theorem dX7_keep_56 : decode cX7_keep 56 = .ok (.aload_n 1, 1) := by decide +kernel
theorem dX7_keep_57 : decode cX7_keep 57 = .ok (.getfield 44, 3) := by decide +kernel
theorem dX7_keep_60 : decode cX7_keep 60 = .ok (.iastore, 1) := by decide +kernel
theorem dX7_keep_61 : decode cX7_keep 61 = .ok (.aload_n 2, 1) := by decide +kernel
theorem dX7_keep_62 : decode cX7_keep 62 = .ok (.iconst 2, 1) := by decide +kernel
theorem dX7_keep_63 : decode cX7_keep 63 = .ok (.aload_n 1, 1) := by decide +kernel
theorem dX7_keep_64 : decode cX7_keep 64 = .ok (.getfield 47, 3) := by decide +kernel
theorem dX7_keep_67 : decode cX7_keep 67 = .ok (.iastore, 1) := by decide +kernel
theorem dX7_keep_68 : decode cX7_keep 68 = .ok (.aload_n 2, 1) := by decide +kernel
theorem dX7_keep_69 : decode cX7_keep 69 = .ok (.iconst 3, 1) := by decide +kernel
theorem dX7_keep_70 : decode cX7_keep 70 = .ok (.aload_n 1, 1) := by decide +kernel
theorem dX7_keep_71 : decode cX7_keep 71 = .ok (.getfield 50, 3) := by decide +kernel
theorem dX7_keep_74 : decode cX7_keep 74 = .ok (.iastore, 1) := by decide +kernel
theorem dX7_keep_75 : decode cX7_keep 75 = .ok (.aload_n 2, 1) := by decide +kernel
theorem dX7_keep_76 : decode cX7_keep 76 = .ok (.iconst 4, 1) := by decide +kernel
theorem dX7_keep_77 : decode cX7_keep 77 = .ok (.aload_n 1, 1) := by decide +kernel
theorem dX7_keep_78 : decode cX7_keep 78 = .ok (.getfield 53, 3) := by decide +kernel
theorem dX7_keep_81 : decode cX7_keep 81 = .ok (.iastore, 1) := by decide +kernel
theorem dX7_keep_82 : decode cX7_keep 82 = .ok (.aload_n 2, 1) := by decide +kernel
theorem dX7_keep_83 : decode cX7_keep 83 = .ok (.iconst 5, 1) := by decide +kernel
theorem dX7_keep_84 : decode cX7_keep 84 = .ok (.aload_n 1, 1) := by decide +kernel
theorem dX7_keep_85 : decode cX7_keep 85 = .ok (.invokevirtual 56, 3) := by decide +kernel
theorem dX7_keep_88 : decode cX7_keep 88 = .ok (.iastore, 1) := by decide +kernel
theorem dX7_keep_89 : decode cX7_keep 89 = .ok (.aload_n 2, 1) := by decide +kernel
theorem dX7_keep_90 : decode cX7_keep 90 = .ok (.bipush 6, 2) := by decide +kernel
theorem dX7_keep_92 : decode cX7_keep 92 = .ok (.aload_n 1, 1) := by decide +kernel
theorem dX7_keep_93 : decode cX7_keep 93 = .ok (.getfield 60, 3) := by decide +kernel
theorem dX7_keep_96 : decode cX7_keep 96 = .ok (.getfield 63, 3) := by decide +kernel
theorem dX7_keep_99 : decode cX7_keep 99 = .ok (.iastore, 1) := by decide +kernel
theorem dX7_keep_100 : decode cX7_keep 100 = .ok (.aload_n 0, 1) := by decide +kernel
theorem dX7_keep_101 : decode cX7_keep 101 = .ok (.aload_n 0, 1) := by decide +kernel
theorem dX7_keep_102 : decode cX7_keep 102 = .ok (.getfield 29, 3) := by decide +kernel
theorem dX7_keep_105 : decode cX7_keep 105 = .ok (.iconst 1, 1) := by decide +kernel
theorem dX7_keep_106 : decode cX7_keep 106 = .ok (.iadd, 1) := by decide +kernel
theorem dX7_keep_107 : decode cX7_keep 107 = .ok (.bipush 6, 2) := by decide +kernel
theorem dX7_keep_109 : decode cX7_keep 109 = .ok (.irem, 1) := by decide +kernel
theorem dX7_keep_110 : decode cX7_keep 110 = .ok (.putfield 29, 3) := by decide +kernel
theorem dX7_keep_113 : decode cX7_keep 113 = .ok (.aload_n 0, 1) := by decide +kernel
theorem dX7_keep_114 : decode cX7_keep 114 = .ok (.bipush 6, 2) := by decide +kernel
theorem dX7_keep_116 : decode cX7_keep 116 = .ok (.aload_n 0, 1) := by decide +kernel
theorem dX7_keep_117 : decode cX7_keep 117 = .ok (.getfield 25, 3) := by decide +kernel
theorem dX7_keep_120 : decode cX7_keep 120 = .ok (.iconst 1, 1) := by decide +kernel
theorem dX7_keep_121 : decode cX7_keep 121 = .ok (.iadd, 1) := by decide +kernel
theorem dX7_keep_122 : decode cX7_keep 122 = .ok (.invokestatic 66, 3) := by decide +kernel
theorem dX7_keep_125 : decode cX7_keep 125 = .ok (.putfield 25, 3) := by decide +kernel
theorem dX7_keep_128 : decode cX7_keep 128 = .ok (.return_, 1) := by decide +kernel
theorem dX7_giveBack_0 : decode cX7_giveBack 0 = .ok (.aload_n 0, 1) := by decide +kernel
theorem dX7_giveBack_1 : decode cX7_giveBack 1 = .ok (.getfield 25, 3) := by decide +kernel
theorem dX7_giveBack_4 : decode cX7_giveBack 4 = .ok (.ifCond .gt 5, 3) := by decide +kernel
theorem dX7_giveBack_7 : decode cX7_giveBack 7 = .ok (.iconst 0, 1) := by decide +kernel
theorem dX7_giveBack_8 : decode cX7_giveBack 8 = .ok (.ireturn, 1) := by decide +kernel
theorem dX7_giveBack_9 : decode cX7_giveBack 9 = .ok (.aload_n 0, 1) := by decide +kernel
theorem dX7_giveBack_10 : decode cX7_giveBack 10 = .ok (.dup, 1) := by decide +kernel
theorem dX7_giveBack_11 : decode cX7_giveBack 11 = .ok (.getfield 25, 3) := by decide +kernel
theorem dX7_giveBack_14 : decode cX7_giveBack 14 = .ok (.iconst 1, 1) := by decide +kernel
theorem dX7_giveBack_15 : decode cX7_giveBack 15 = .ok (.isub, 1) := by decide +kernel
theorem dX7_giveBack_16 : decode cX7_giveBack 16 = .ok (.putfield 25, 3) := by decide +kernel
theorem dX7_giveBack_19 : decode cX7_giveBack 19 = .ok (.aload_n 0, 1) := by decide +kernel
theorem dX7_giveBack_20 : decode cX7_giveBack 20 = .ok (.aload_n 0, 1) := by decide +kernel
theorem dX7_giveBack_21 : decode cX7_giveBack 21 = .ok (.getfield 29, 3) := by decide +kernel
theorem dX7_giveBack_24 : decode cX7_giveBack 24 = .ok (.ifCond .le 12, 3) := by decide +kernel
theorem dX7_giveBack_27 : decode cX7_giveBack 27 = .ok (.aload_n 0, 1) := by decide +kernel
theorem dX7_giveBack_28 : decode cX7_giveBack 28 = .ok (.getfield 29, 3) := by decide +kernel
theorem dX7_giveBack_31 : decode cX7_giveBack 31 = .ok (.bipush 6, 2) := by decide +kernel
theorem dX7_giveBack_33 : decode cX7_giveBack 33 = .ok (.if_icmp .lt 7, 3) := by decide +kernel
theorem dX7_giveBack_36 : decode cX7_giveBack 36 = .ok (.iconst 5, 1) := by decide +kernel
theorem dX7_giveBack_37 : decode cX7_giveBack 37 = .ok (.goto 9, 3) := by decide +kernel
theorem dX7_giveBack_40 : decode cX7_giveBack 40 = .ok (.aload_n 0, 1) := by decide +kernel
theorem dX7_giveBack_41 : decode cX7_giveBack 41 = .ok (.getfield 29, 3) := by decide +kernel
theorem dX7_giveBack_44 : decode cX7_giveBack 44 = .ok (.iconst 1, 1) := by decide +kernel
theorem dX7_giveBack_45 : decode cX7_giveBack 45 = .ok (.isub, 1) := by decide +kernel
theorem dX7_giveBack_46 : decode cX7_giveBack 46 = .ok (.putfield 29, 3) := by decide +kernel
theorem dX7_giveBack_49 : decode cX7_giveBack 49 = .ok (.aload_n 1, 1) := by decide +kernel
theorem dX7_giveBack_50 : decode cX7_giveBack 50 = .ok (.getfield 32, 3) := by decide +kernel
theorem dX7_giveBack_53 : decode cX7_giveBack 53 = .ok (.aload_n 0, 1) := by decide +kernel
theorem dX7_giveBack_54 : decode cX7_giveBack 54 = .ok (.getfield 13, 3) := by decide +kernel
theorem dX7_giveBack_57 : decode cX7_giveBack 57 = .ok (.aload_n 0, 1) := by decide +kernel
theorem dX7_giveBack_58 : decode cX7_giveBack 58 = .ok (.getfield 29, 3) := by decide +kernel
theorem dX7_giveBack_61 : decode cX7_giveBack 61 = .ok (.aaload, 1) := by decide +kernel
theorem dX7_giveBack_62 : decode cX7_giveBack 62 = .ok (.invokevirtual 37, 3) := by decide +kernel
theorem dX7_giveBack_65 : decode cX7_giveBack 65 = .ok (.aload_n 0, 1) := by decide +kernel
theorem dX7_giveBack_66 : decode cX7_giveBack 66 = .ok (.getfield 19, 3) := by decide +kernel
theorem dX7_giveBack_69 : decode cX7_giveBack 69 = .ok (.aload_n 0, 1) := by decide +kernel
theorem dX7_giveBack_70 : decode cX7_giveBack 70 = .ok (.getfield 29, 3) := by decide +kernel
theorem dX7_giveBack_73 : decode cX7_giveBack 73 = .ok (.aaload, 1) := by decide +kernel
theorem dX7_giveBack_74 : decode cX7_giveBack 74 = .ok (.astore_n 2, 1) := by decide +kernel
theorem dX7_giveBack_75 : decode cX7_giveBack 75 = .ok (.aload_n 1, 1) := by decide +kernel
theorem dX7_giveBack_76 : decode cX7_giveBack 76 = .ok (.aload_n 2, 1) := by decide +kernel
theorem dX7_giveBack_77 : decode cX7_giveBack 77 = .ok (.iconst 0, 1) := by decide +kernel
theorem dX7_giveBack_78 : decode cX7_giveBack 78 = .ok (.iaload, 1) := by decide +kernel
theorem dX7_giveBack_79 : decode cX7_giveBack 79 = .ok (.putfield 41, 3) := by decide +kernel
theorem dX7_giveBack_82 : decode cX7_giveBack 82 = .ok (.aload_n 1, 1) := by decide +kernel
theorem dX7_giveBack_83 : decode cX7_giveBack 83 = .ok (.aload_n 2, 1) := by decide +kernel
theorem dX7_giveBack_84 : decode cX7_giveBack 84 = .ok (.iconst 1, 1) := by decide +kernel
theorem dX7_giveBack_85 : decode cX7_giveBack 85 = .ok (.iaload, 1) := by decide +kernel
theorem dX7_giveBack_86 : decode cX7_giveBack 86 = .ok (.putfield 44, 3) := by decide +kernel
theorem dX7_giveBack_89 : decode cX7_giveBack 89 = .ok (.aload_n 1, 1) := by decide +kernel
theorem dX7_giveBack_90 : decode cX7_giveBack 90 = .ok (.aload_n 2, 1) := by decide +kernel
theorem dX7_giveBack_91 : decode cX7_giveBack 91 = .ok (.iconst 2, 1) := by decide +kernel
theorem dX7_giveBack_92 : decode cX7_giveBack 92 = .ok (.iaload, 1) := by decide +kernel
theorem dX7_giveBack_93 : decode cX7_giveBack 93 = .ok (.putfield 47, 3) := by decide +kernel
theorem dX7_giveBack_96 : decode cX7_giveBack 96 = .ok (.aload_n 1, 1) := by decide +kernel
theorem dX7_giveBack_97 : decode cX7_giveBack 97 = .ok (.aload_n 2, 1) := by decide +kernel
theorem dX7_giveBack_98 : decode cX7_giveBack 98 = .ok (.iconst 3, 1) := by decide +kernel
theorem dX7_giveBack_99 : decode cX7_giveBack 99 = .ok (.iaload, 1) := by decide +kernel
theorem dX7_giveBack_100 : decode cX7_giveBack 100 = .ok (.putfield 50, 3) := by decide +kernel
theorem dX7_giveBack_103 : decode cX7_giveBack 103 = .ok (.aload_n 1, 1) := by decide +kernel
theorem dX7_giveBack_104 : decode cX7_giveBack 104 = .ok (.aload_n 2, 1) := by decide +kernel
theorem dX7_giveBack_105 : decode cX7_giveBack 105 = .ok (.iconst 4, 1) := by decide +kernel
theorem dX7_giveBack_106 : decode cX7_giveBack 106 = .ok (.iaload, 1) := by decide +kernel
theorem dX7_giveBack_107 : decode cX7_giveBack 107 = .ok (.putfield 53, 3) := by decide +kernel
theorem dX7_giveBack_110 : decode cX7_giveBack 110 = .ok (.aload_n 1, 1) := by decide +kernel
theorem dX7_giveBack_111 : decode cX7_giveBack 111 = .ok (.aload_n 2, 1) := by decide +kernel
theorem dX7_giveBack_112 : decode cX7_giveBack 112 = .ok (.iconst 5, 1) := by decide +kernel
theorem dX7_giveBack_113 : decode cX7_giveBack 113 = .ok (.iaload, 1) := by decide +kernel
theorem dX7_giveBack_114 : decode cX7_giveBack 114 = .ok (.invokevirtual 72, 3) := by decide +kernel
theorem dX7_giveBack_117 : decode cX7_giveBack 117 = .ok (.aload_n 1, 1) := by decide +kernel
theorem dX7_giveBack_118 : decode cX7_giveBack 118 = .ok (.getfield 60, 3) := by decide +kernel
theorem dX7_giveBack_121 : decode cX7_giveBack 121 = .ok (.aload_n 2, 1) := by decide +kernel
theorem dX7_giveBack_122 : decode cX7_giveBack 122 = .ok (.bipush 6, 2) := by decide +kernel
theorem dX7_giveBack_124 : decode cX7_giveBack 124 = .ok (.iaload, 1) := by decide +kernel
theorem dX7_giveBack_125 : decode cX7_giveBack 125 = .ok (.invokevirtual 76, 3) := by decide +kernel
theorem dX7_giveBack_128 : decode cX7_giveBack 128 = .ok (.iconst 1, 1) := by decide +kernel
theorem dX7_giveBack_129 : decode cX7_giveBack 129 = .ok (.ireturn, 1) := by decide +kernel
theorem dX8_init_0 : decode cX8_init 0 = .ok (.aload_n 0, 1) := by decide +kernel
theorem dX8_init_1 : decode cX8_init 1 = .ok (.invokespecial 3, 3) := by decide +kernel
theorem dX8_init_4 : decode cX8_init 4 = .ok (.aload_n 0, 1) := by decide +kernel
theorem dX8_init_5 : decode cX8_init 5 = .ok (.iload_n 1, 1) := by decide +kernel
theorem dX8_init_6 : decode cX8_init 6 = .ok (.putfield 9, 3) := by decide +kernel
theorem dX8_init_9 : decode cX8_init 9 = .ok (.aload_n 0, 1) := by decide +kernel
theorem dX8_init_10 : decode cX8_init 10 = .ok (.iload_n 2, 1) := by decide +kernel
theorem dX8_init_11 : decode cX8_init 11 = .ok (.putfield 15, 3) := by decide +kernel
theorem dX8_init_14 : decode cX8_init 14 = .ok (.aload_n 0, 1) := by decide +kernel
theorem dX8_init_15 : decode cX8_init 15 = .ok (.iload_n 1, 1) := by decide +kernel
theorem dX8_init_16 : decode cX8_init 16 = .ok (.iload_n 2, 1) := by decide +kernel
theorem dX8_init_17 : decode cX8_init 17 = .ok (.imul, 1) := by decide +kernel
theorem dX8_init_18 : decode cX8_init 18 = .ok (.newarray .int, 2) := by decide +kernel
theorem dX8_init_20 : decode cX8_init 20 = .ok (.putfield 18, 3) := by decide +kernel
theorem dX8_init_23 : decode cX8_init 23 = .ok (.aload_n 0, 1) := by decide +kernel
theorem dX8_init_24 : decode cX8_init 24 = .ok (.iconst 0, 1) := by decide +kernel
theorem dX8_init_25 : decode cX8_init 25 = .ok (.putfield 22, 3) := by decide +kernel
theorem dX8_init_28 : decode cX8_init 28 = .ok (.return_, 1) := by decide +kernel
theorem dX8_has_0 : decode cX8_has 0 = .ok (.iload_n 1, 1) := by decide +kernel
theorem dX8_has_1 : decode cX8_has 1 = .ok (.ifCond .lt 15, 3) := by decide +kernel
theorem dX8_has_4 : decode cX8_has 4 = .ok (.iload_n 1, 1) := by decide +kernel
theorem dX8_has_5 : decode cX8_has 5 = .ok (.aload_n 0, 1) := by decide +kernel
theorem dX8_has_6 : decode cX8_has 6 = .ok (.getfield 22, 3) := by decide +kernel
theorem dX8_has_9 : decode cX8_has 9 = .ok (.if_icmp .ge 7, 3) := by decide +kernel
theorem dX8_has_12 : decode cX8_has 12 = .ok (.iconst 1, 1) := by decide +kernel
theorem dX8_has_13 : decode cX8_has 13 = .ok (.goto 4, 3) := by decide +kernel
theorem dX8_has_16 : decode cX8_has 16 = .ok (.iconst 0, 1) := by decide +kernel
theorem dX8_has_17 : decode cX8_has 17 = .ok (.ireturn, 1) := by decide +kernel
theorem dX8_isFull_0 : decode cX8_isFull 0 = .ok (.aload_n 0, 1) := by decide +kernel
theorem dX8_isFull_1 : decode cX8_isFull 1 = .ok (.getfield 22, 3) := by decide +kernel
theorem dX8_isFull_4 : decode cX8_isFull 4 = .ok (.aload_n 0, 1) := by decide +kernel
theorem dX8_isFull_5 : decode cX8_isFull 5 = .ok (.getfield 9, 3) := by decide +kernel
theorem dX8_isFull_8 : decode cX8_isFull 8 = .ok (.if_icmp .lt 7, 3) := by decide +kernel
theorem dX8_isFull_11 : decode cX8_isFull 11 = .ok (.iconst 1, 1) := by decide +kernel
theorem dX8_isFull_12 : decode cX8_isFull 12 = .ok (.goto 4, 3) := by decide +kernel
theorem dX8_isFull_15 : decode cX8_isFull 15 = .ok (.iconst 0, 1) := by decide +kernel
theorem dX8_isFull_16 : decode cX8_isFull 16 = .ok (.ireturn, 1) := by decide +kernel
theorem dX8_cellOf_0 : decode cX8_cellOf 0 = .ok (.iload_n 1, 1) := by decide +kernel
theorem dX8_cellOf_1 : decode cX8_cellOf 1 = .ok (.ifCond .lt 23, 3) := by decide +kernel
theorem dX8_cellOf_4 : decode cX8_cellOf 4 = .ok (.iload_n 1, 1) := by decide +kernel
theorem dX8_cellOf_5 : decode cX8_cellOf 5 = .ok (.aload_n 0, 1) := by decide +kernel
theorem dX8_cellOf_6 : decode cX8_cellOf 6 = .ok (.getfield 22, 3) := by decide +kernel
theorem dX8_cellOf_9 : decode cX8_cellOf 9 = .ok (.if_icmp .ge 15, 3) := by decide +kernel
theorem dX8_cellOf_12 : decode cX8_cellOf 12 = .ok (.iload_n 2, 1) := by decide +kernel
theorem dX8_cellOf_13 : decode cX8_cellOf 13 = .ok (.ifCond .lt 11, 3) := by decide +kernel
theorem dX8_cellOf_16 : decode cX8_cellOf 16 = .ok (.iload_n 2, 1) := by decide +kernel
theorem dX8_cellOf_17 : decode cX8_cellOf 17 = .ok (.aload_n 0, 1) := by decide +kernel
theorem dX8_cellOf_18 : decode cX8_cellOf 18 = .ok (.getfield 15, 3) := by decide +kernel
theorem dX8_cellOf_21 : decode cX8_cellOf 21 = .ok (.if_icmp .lt 5, 3) := by decide +kernel
theorem dX8_cellOf_24 : decode cX8_cellOf 24 = .ok (.iconst (-1), 1) := by decide +kernel
theorem dX8_cellOf_25 : decode cX8_cellOf 25 = .ok (.ireturn, 1) := by decide +kernel
theorem dX8_cellOf_26 : decode cX8_cellOf 26 = .ok (.iload_n 1, 1) := by decide +kernel
theorem dX8_cellOf_27 : decode cX8_cellOf 27 = .ok (.aload_n 0, 1) := by decide +kernel
theorem dX8_cellOf_28 : decode cX8_cellOf 28 = .ok (.getfield 15, 3) := by decide +kernel
theorem dX8_cellOf_31 : decode cX8_cellOf 31 = .ok (.imul, 1) := by decide +kernel
theorem dX8_cellOf_32 : decode cX8_cellOf 32 = .ok (.iload_n 2, 1) := by decide +kernel
theorem dX8_cellOf_33 : decode cX8_cellOf 33 = .ok (.iadd, 1) := by decide +kernel
theorem dX8_cellOf_34 : decode cX8_cellOf 34 = .ok (.istore_n 3, 1) := by decide +kernel
theorem dX8_cellOf_35 : decode cX8_cellOf 35 = .ok (.iload_n 3, 1) := by decide +kernel
theorem dX8_cellOf_36 : decode cX8_cellOf 36 = .ok (.aload_n 0, 1) := by decide +kernel
theorem dX8_cellOf_37 : decode cX8_cellOf 37 = .ok (.getfield 18, 3) := by decide +kernel
theorem dX8_cellOf_40 : decode cX8_cellOf 40 = .ok (.arraylength, 1) := by decide +kernel
theorem dX8_cellOf_41 : decode cX8_cellOf 41 = .ok (.if_icmp .ge 7, 3) := by decide +kernel
theorem dX8_cellOf_44 : decode cX8_cellOf 44 = .ok (.iload_n 3, 1) := by decide +kernel
theorem dX8_cellOf_45 : decode cX8_cellOf 45 = .ok (.goto 4, 3) := by decide +kernel
theorem dX8_cellOf_48 : decode cX8_cellOf 48 = .ok (.iconst (-1), 1) := by decide +kernel
theorem dX8_cellOf_49 : decode cX8_cellOf 49 = .ok (.ireturn, 1) := by decide +kernel
theorem dX8_at_0 : decode cX8_at 0 = .ok (.aload_n 0, 1) := by decide +kernel
theorem dX8_at_1 : decode cX8_at 1 = .ok (.iload_n 1, 1) := by decide +kernel
theorem dX8_at_2 : decode cX8_at 2 = .ok (.iload_n 2, 1) := by decide +kernel
theorem dX8_at_3 : decode cX8_at 3 = .ok (.invokevirtual 25, 3) := by decide +kernel
theorem dX8_at_6 : decode cX8_at 6 = .ok (.istore_n 3, 1) := by decide +kernel
theorem dX8_at_7 : decode cX8_at 7 = .ok (.iload_n 3, 1) := by decide +kernel
theorem dX8_at_8 : decode cX8_at 8 = .ok (.ifCond .lt 12, 3) := by decide +kernel
theorem dX8_at_11 : decode cX8_at 11 = .ok (.aload_n 0, 1) := by decide +kernel
theorem dX8_at_12 : decode cX8_at 12 = .ok (.getfield 18, 3) := by decide +kernel
theorem dX8_at_15 : decode cX8_at 15 = .ok (.iload_n 3, 1) := by decide +kernel
theorem dX8_at_16 : decode cX8_at 16 = .ok (.iaload, 1) := by decide +kernel
theorem dX8_at_17 : decode cX8_at 17 = .ok (.goto 4, 3) := by decide +kernel
theorem dX8_at_20 : decode cX8_at 20 = .ok (.iconst (-1), 1) := by decide +kernel
theorem dX8_at_21 : decode cX8_at 21 = .ok (.ireturn, 1) := by decide +kernel
theorem dX8_put_0 : decode cX8_put 0 = .ok (.aload_n 0, 1) := by decide +kernel
theorem dX8_put_1 : decode cX8_put 1 = .ok (.iload_n 1, 1) := by decide +kernel
theorem dX8_put_2 : decode cX8_put 2 = .ok (.iload_n 2, 1) := by decide +kernel
theorem dX8_put_3 : decode cX8_put 3 = .ok (.invokevirtual 25, 3) := by decide +kernel
theorem dX8_put_6 : decode cX8_put 6 = .ok (.istore 4, 2) := by decide +kernel
theorem dX8_put_8 : decode cX8_put 8 = .ok (.iload 4, 2) := by decide +kernel
theorem dX8_put_10 : decode cX8_put 10 = .ok (.ifCond .lt 11, 3) := by decide +kernel
theorem dX8_put_13 : decode cX8_put 13 = .ok (.aload_n 0, 1) := by decide +kernel
theorem dX8_put_14 : decode cX8_put 14 = .ok (.getfield 18, 3) := by decide +kernel
theorem dX8_put_17 : decode cX8_put 17 = .ok (.iload 4, 2) := by decide +kernel
theorem dX8_put_19 : decode cX8_put 19 = .ok (.iload_n 3, 1) := by decide +kernel
theorem dX8_put_20 : decode cX8_put 20 = .ok (.iastore, 1) := by decide +kernel
theorem dX8_put_21 : decode cX8_put 21 = .ok (.return_, 1) := by decide +kernel
theorem dX8_addEmpty_0 : decode cX8_addEmpty 0 = .ok (.aload_n 0, 1) := by decide +kernel
theorem dX8_addEmpty_1 : decode cX8_addEmpty 1 = .ok (.invokevirtual 29, 3) := by decide +kernel
theorem dX8_addEmpty_4 : decode cX8_addEmpty 4 = .ok (.ifCond .eq 5, 3) := by decide +kernel
theorem dX8_addEmpty_7 : decode cX8_addEmpty 7 = .ok (.iconst (-1), 1) := by decide +kernel
theorem dX8_addEmpty_8 : decode cX8_addEmpty 8 = .ok (.ireturn, 1) := by decide +kernel
theorem dX8_addEmpty_9 : decode cX8_addEmpty 9 = .ok (.aload_n 0, 1) := by decide +kernel
theorem dX8_addEmpty_10 : decode cX8_addEmpty 10 = .ok (.dup, 1) := by decide +kernel
theorem dX8_addEmpty_11 : decode cX8_addEmpty 11 = .ok (.getfield 22, 3) := by decide +kernel
theorem dX8_addEmpty_14 : decode cX8_addEmpty 14 = .ok (.iconst 1, 1) := by decide +kernel
theorem dX8_addEmpty_15 : decode cX8_addEmpty 15 = .ok (.iadd, 1) := by decide +kernel
theorem dX8_addEmpty_16 : decode cX8_addEmpty 16 = .ok (.putfield 22, 3) := by decide +kernel
theorem dX8_addEmpty_19 : decode cX8_addEmpty 19 = .ok (.iconst 0, 1) := by decide +kernel
theorem dX8_addEmpty_20 : decode cX8_addEmpty 20 = .ok (.istore_n 1, 1) := by decide +kernel
theorem dX8_addEmpty_21 : decode cX8_addEmpty 21 = .ok (.iload_n 1, 1) := by decide +kernel
theorem dX8_addEmpty_22 : decode cX8_addEmpty 22 = .ok (.aload_n 0, 1) := by decide +kernel
theorem dX8_addEmpty_23 : decode cX8_addEmpty 23 = .ok (.getfield 15, 3) := by decide +kernel
theorem dX8_addEmpty_26 : decode cX8_addEmpty 26 = .ok (.if_icmp .ge 21, 3) := by decide +kernel
theorem dX8_addEmpty_29 : decode cX8_addEmpty 29 = .ok (.aload_n 0, 1) := by decide +kernel
theorem dX8_addEmpty_30 : decode cX8_addEmpty 30 = .ok (.aload_n 0, 1) := by decide +kernel
theorem dX8_addEmpty_31 : decode cX8_addEmpty 31 = .ok (.getfield 22, 3) := by decide +kernel
theorem dX8_addEmpty_34 : decode cX8_addEmpty 34 = .ok (.iconst 1, 1) := by decide +kernel
theorem dX8_addEmpty_35 : decode cX8_addEmpty 35 = .ok (.isub, 1) := by decide +kernel
theorem dX8_addEmpty_36 : decode cX8_addEmpty 36 = .ok (.iload_n 1, 1) := by decide +kernel
theorem dX8_addEmpty_37 : decode cX8_addEmpty 37 = .ok (.iconst 0, 1) := by decide +kernel
theorem dX8_addEmpty_38 : decode cX8_addEmpty 38 = .ok (.invokevirtual 33, 3) := by decide +kernel
theorem dX8_addEmpty_41 : decode cX8_addEmpty 41 = .ok (.iinc 1 1, 3) := by decide +kernel
theorem dX8_addEmpty_44 : decode cX8_addEmpty 44 = .ok (.goto (-23), 3) := by decide +kernel
theorem dX8_addEmpty_47 : decode cX8_addEmpty 47 = .ok (.aload_n 0, 1) := by decide +kernel
theorem dX8_addEmpty_48 : decode cX8_addEmpty 48 = .ok (.getfield 22, 3) := by decide +kernel
theorem dX8_addEmpty_51 : decode cX8_addEmpty 51 = .ok (.iconst 1, 1) := by decide +kernel
theorem dX8_addEmpty_52 : decode cX8_addEmpty 52 = .ok (.isub, 1) := by decide +kernel
theorem dX8_addEmpty_53 : decode cX8_addEmpty 53 = .ok (.ireturn, 1) := by decide +kernel
theorem dX8_add_0 : decode cX8_add 0 = .ok (.aload_n 0, 1) := by decide +kernel
theorem dX8_add_1 : decode cX8_add 1 = .ok (.invokevirtual 37, 3) := by decide +kernel
theorem dX8_add_4 : decode cX8_add 4 = .ok (.istore 5, 2) := by decide +kernel
theorem dX8_add_6 : decode cX8_add 6 = .ok (.aload_n 0, 1) := by decide +kernel
theorem dX8_add_7 : decode cX8_add 7 = .ok (.iload 5, 2) := by decide +kernel
theorem dX8_add_9 : decode cX8_add 9 = .ok (.iconst 0, 1) := by decide +kernel
theorem dX8_add_10 : decode cX8_add 10 = .ok (.iload_n 1, 1) := by decide +kernel
theorem dX8_add_11 : decode cX8_add 11 = .ok (.invokevirtual 33, 3) := by decide +kernel
theorem dX8_add_14 : decode cX8_add 14 = .ok (.aload_n 0, 1) := by decide +kernel
theorem dX8_add_15 : decode cX8_add 15 = .ok (.iload 5, 2) := by decide +kernel
theorem dX8_add_17 : decode cX8_add 17 = .ok (.iconst 1, 1) := by decide +kernel
theorem dX8_add_18 : decode cX8_add 18 = .ok (.iload_n 2, 1) := by decide +kernel
theorem dX8_add_19 : decode cX8_add 19 = .ok (.invokevirtual 33, 3) := by decide +kernel
theorem dX8_add_22 : decode cX8_add 22 = .ok (.aload_n 0, 1) := by decide +kernel
theorem dX8_add_23 : decode cX8_add 23 = .ok (.iload 5, 2) := by decide +kernel
theorem dX8_add_25 : decode cX8_add 25 = .ok (.iconst 2, 1) := by decide +kernel
theorem dX8_add_26 : decode cX8_add 26 = .ok (.iload_n 3, 1) := by decide +kernel
theorem dX8_add_27 : decode cX8_add 27 = .ok (.invokevirtual 33, 3) := by decide +kernel
theorem dX8_add_30 : decode cX8_add 30 = .ok (.aload_n 0, 1) := by decide +kernel
theorem dX8_add_31 : decode cX8_add 31 = .ok (.iload 5, 2) := by decide +kernel
theorem dX8_add_33 : decode cX8_add 33 = .ok (.iconst 3, 1) := by decide +kernel
theorem dX8_add_34 : decode cX8_add 34 = .ok (.iload 4, 2) := by decide +kernel
theorem dX8_add_36 : decode cX8_add 36 = .ok (.invokevirtual 33, 3) := by decide +kernel
theorem dX8_add_39 : decode cX8_add 39 = .ok (.iload 5, 2) := by decide +kernel
theorem dX8_add_41 : decode cX8_add 41 = .ok (.ireturn, 1) := by decide +kernel
theorem dX8_addTold_0 : decode cX8_addTold 0 = .ok (.aload_n 0, 1) := by decide +kernel
theorem dX8_addTold_1 : decode cX8_addTold 1 = .ok (.iload_n 1, 1) := by decide +kernel
theorem dX8_addTold_2 : decode cX8_addTold 2 = .ok (.iload_n 2, 1) := by decide +kernel
theorem dX8_addTold_3 : decode cX8_addTold 3 = .ok (.iload_n 3, 1) := by decide +kernel
theorem dX8_addTold_4 : decode cX8_addTold 4 = .ok (.iload 4, 2) := by decide +kernel
theorem dX8_addTold_6 : decode cX8_addTold 6 = .ok (.invokevirtual 41, 3) := by decide +kernel
theorem dX8_addTold_9 : decode cX8_addTold 9 = .ok (.iconst (-1), 1) := by decide +kernel
theorem dX8_addTold_10 : decode cX8_addTold 10 = .ok (.if_icmp .ne 7, 3) := by decide +kernel
theorem dX8_addTold_13 : decode cX8_addTold 13 = .ok (.iconst (-1), 1) := by decide +kernel
theorem dX8_addTold_14 : decode cX8_addTold 14 = .ok (.goto 7, 3) := by decide +kernel
theorem dX8_addTold_17 : decode cX8_addTold 17 = .ok (.aload_n 0, 1) := by decide +kernel
theorem dX8_addTold_18 : decode cX8_addTold 18 = .ok (.getfield 22, 3) := by decide +kernel
theorem dX8_addTold_21 : decode cX8_addTold 21 = .ok (.ireturn, 1) := by decide +kernel
theorem dX8_empty_0 : decode cX8_empty 0 = .ok (.aload_n 0, 1) := by decide +kernel
theorem dX8_empty_1 : decode cX8_empty 1 = .ok (.iconst 0, 1) := by decide +kernel
theorem dX8_empty_2 : decode cX8_empty 2 = .ok (.putfield 22, 3) := by decide +kernel
theorem dX8_empty_5 : decode cX8_empty 5 = .ok (.aload_n 0, 1) := by decide +kernel
theorem dX8_empty_6 : decode cX8_empty 6 = .ok (.getfield 22, 3) := by decide +kernel
theorem dX8_empty_9 : decode cX8_empty 9 = .ok (.ireturn, 1) := by decide +kernel
theorem dX8_keepFirst_0 : decode cX8_keepFirst 0 = .ok (.iload_n 1, 1) := by decide +kernel
theorem dX8_keepFirst_1 : decode cX8_keepFirst 1 = .ok (.ifCond .lt 16, 3) := by decide +kernel
theorem dX8_keepFirst_4 : decode cX8_keepFirst 4 = .ok (.iload_n 1, 1) := by decide +kernel
theorem dX8_keepFirst_5 : decode cX8_keepFirst 5 = .ok (.aload_n 0, 1) := by decide +kernel
theorem dX8_keepFirst_6 : decode cX8_keepFirst 6 = .ok (.getfield 22, 3) := by decide +kernel
theorem dX8_keepFirst_9 : decode cX8_keepFirst 9 = .ok (.if_icmp .ge 8, 3) := by decide +kernel
theorem dX8_keepFirst_12 : decode cX8_keepFirst 12 = .ok (.aload_n 0, 1) := by decide +kernel
theorem dX8_keepFirst_13 : decode cX8_keepFirst 13 = .ok (.iload_n 1, 1) := by decide +kernel
theorem dX8_keepFirst_14 : decode cX8_keepFirst 14 = .ok (.putfield 22, 3) := by decide +kernel
theorem dX8_keepFirst_17 : decode cX8_keepFirst 17 = .ok (.return_, 1) := by decide +kernel
theorem dX8_drop_0 : decode cX8_drop 0 = .ok (.aload_n 0, 1) := by decide +kernel
theorem dX8_drop_1 : decode cX8_drop 1 = .ok (.iload_n 1, 1) := by decide +kernel
theorem dX8_drop_2 : decode cX8_drop 2 = .ok (.invokevirtual 45, 3) := by decide +kernel
theorem dX8_drop_5 : decode cX8_drop 5 = .ok (.ifCond .ne 4, 3) := by decide +kernel
theorem dX8_drop_8 : decode cX8_drop 8 = .ok (.return_, 1) := by decide +kernel
theorem dX8_drop_9 : decode cX8_drop 9 = .ok (.iload_n 1, 1) := by decide +kernel
theorem dX8_drop_10 : decode cX8_drop 10 = .ok (.iconst 1, 1) := by decide +kernel
theorem dX8_drop_11 : decode cX8_drop 11 = .ok (.iadd, 1) := by decide +kernel
theorem dX8_drop_12 : decode cX8_drop 12 = .ok (.istore_n 2, 1) := by decide +kernel
theorem dX8_drop_13 : decode cX8_drop 13 = .ok (.iload_n 2, 1) := by decide +kernel
theorem dX8_drop_14 : decode cX8_drop 14 = .ok (.aload_n 0, 1) := by decide +kernel
theorem dX8_drop_15 : decode cX8_drop 15 = .ok (.getfield 22, 3) := by decide +kernel
theorem dX8_drop_18 : decode cX8_drop 18 = .ok (.if_icmp .ge 39, 3) := by decide +kernel
theorem dX8_drop_21 : decode cX8_drop 21 = .ok (.iconst 0, 1) := by decide +kernel
theorem dX8_drop_22 : decode cX8_drop 22 = .ok (.istore_n 3, 1) := by decide +kernel
theorem dX8_drop_23 : decode cX8_drop 23 = .ok (.iload_n 3, 1) := by decide +kernel
theorem dX8_drop_24 : decode cX8_drop 24 = .ok (.aload_n 0, 1) := by decide +kernel
theorem dX8_drop_25 : decode cX8_drop 25 = .ok (.getfield 15, 3) := by decide +kernel
theorem dX8_drop_28 : decode cX8_drop 28 = .ok (.if_icmp .ge 23, 3) := by decide +kernel
theorem dX8_drop_31 : decode cX8_drop 31 = .ok (.aload_n 0, 1) := by decide +kernel
theorem dX8_drop_32 : decode cX8_drop 32 = .ok (.iload_n 2, 1) := by decide +kernel
theorem dX8_drop_33 : decode cX8_drop 33 = .ok (.iconst 1, 1) := by decide +kernel
theorem dX8_drop_34 : decode cX8_drop 34 = .ok (.isub, 1) := by decide +kernel
theorem dX8_drop_35 : decode cX8_drop 35 = .ok (.iload_n 3, 1) := by decide +kernel
theorem dX8_drop_36 : decode cX8_drop 36 = .ok (.aload_n 0, 1) := by decide +kernel
theorem dX8_drop_37 : decode cX8_drop 37 = .ok (.iload_n 2, 1) := by decide +kernel
theorem dX8_drop_38 : decode cX8_drop 38 = .ok (.iload_n 3, 1) := by decide +kernel
theorem dX8_drop_39 : decode cX8_drop 39 = .ok (.invokevirtual 49, 3) := by decide +kernel
theorem dX8_drop_42 : decode cX8_drop 42 = .ok (.invokevirtual 33, 3) := by decide +kernel
theorem dX8_drop_45 : decode cX8_drop 45 = .ok (.iinc 3 1, 3) := by decide +kernel
theorem dX8_drop_48 : decode cX8_drop 48 = .ok (.goto (-25), 3) := by decide +kernel
theorem dX8_drop_51 : decode cX8_drop 51 = .ok (.iinc 2 1, 3) := by decide +kernel
theorem dX8_drop_54 : decode cX8_drop 54 = .ok (.goto (-41), 3) := by decide +kernel
theorem dX8_drop_57 : decode cX8_drop 57 = .ok (.aload_n 0, 1) := by decide +kernel
theorem dX8_drop_58 : decode cX8_drop 58 = .ok (.dup, 1) := by decide +kernel
theorem dX8_drop_59 : decode cX8_drop 59 = .ok (.getfield 22, 3) := by decide +kernel
theorem dX8_drop_62 : decode cX8_drop 62 = .ok (.iconst 1, 1) := by decide +kernel
theorem dX8_drop_63 : decode cX8_drop 63 = .ok (.isub, 1) := by decide +kernel
theorem dX8_drop_64 : decode cX8_drop 64 = .ok (.putfield 22, 3) := by decide +kernel
theorem dX8_drop_67 : decode cX8_drop 67 = .ok (.return_, 1) := by decide +kernel
theorem dX8_copyFrom_0 : decode cX8_copyFrom 0 = .ok (.aload_n 1, 1) := by decide +kernel
theorem dX8_copyFrom_1 : decode cX8_copyFrom 1 = .ok (.getfield 22, 3) := by decide +kernel
theorem dX8_copyFrom_4 : decode cX8_copyFrom 4 = .ok (.aload_n 1, 1) := by decide +kernel
theorem dX8_copyFrom_5 : decode cX8_copyFrom 5 = .ok (.getfield 15, 3) := by decide +kernel
theorem dX8_copyFrom_8 : decode cX8_copyFrom 8 = .ok (.imul, 1) := by decide +kernel
theorem dX8_copyFrom_9 : decode cX8_copyFrom 9 = .ok (.istore_n 2, 1) := by decide +kernel
theorem dX8_copyFrom_10 : decode cX8_copyFrom 10 = .ok (.aload_n 1, 1) := by decide +kernel
theorem dX8_copyFrom_11 : decode cX8_copyFrom 11 = .ok (.getfield 15, 3) := by decide +kernel
theorem dX8_copyFrom_14 : decode cX8_copyFrom 14 = .ok (.aload_n 0, 1) := by decide +kernel
theorem dX8_copyFrom_15 : decode cX8_copyFrom 15 = .ok (.getfield 15, 3) := by decide +kernel
theorem dX8_copyFrom_18 : decode cX8_copyFrom 18 = .ok (.if_icmp .ne 21, 3) := by decide +kernel
theorem dX8_copyFrom_21 : decode cX8_copyFrom 21 = .ok (.iload_n 2, 1) := by decide +kernel
theorem dX8_copyFrom_22 : decode cX8_copyFrom 22 = .ok (.aload_n 0, 1) := by decide +kernel
theorem dX8_copyFrom_23 : decode cX8_copyFrom 23 = .ok (.getfield 18, 3) := by decide +kernel
theorem dX8_copyFrom_26 : decode cX8_copyFrom 26 = .ok (.arraylength, 1) := by decide +kernel
theorem dX8_copyFrom_27 : decode cX8_copyFrom 27 = .ok (.if_icmp .gt 12, 3) := by decide +kernel
theorem dX8_copyFrom_30 : decode cX8_copyFrom 30 = .ok (.iload_n 2, 1) := by decide +kernel
theorem dX8_copyFrom_31 : decode cX8_copyFrom 31 = .ok (.aload_n 1, 1) := by decide +kernel
theorem dX8_copyFrom_32 : decode cX8_copyFrom 32 = .ok (.getfield 18, 3) := by decide +kernel
theorem dX8_copyFrom_35 : decode cX8_copyFrom 35 = .ok (.arraylength, 1) := by decide +kernel
theorem dX8_copyFrom_36 : decode cX8_copyFrom 36 = .ok (.if_icmp .le 4, 3) := by decide +kernel
theorem dX8_copyFrom_39 : decode cX8_copyFrom 39 = .ok (.return_, 1) := by decide +kernel
theorem dX8_copyFrom_40 : decode cX8_copyFrom 40 = .ok (.aload_n 1, 1) := by decide +kernel
theorem dX8_copyFrom_41 : decode cX8_copyFrom 41 = .ok (.getfield 18, 3) := by decide +kernel
theorem dX8_copyFrom_44 : decode cX8_copyFrom 44 = .ok (.iconst 0, 1) := by decide +kernel
theorem dX8_copyFrom_45 : decode cX8_copyFrom 45 = .ok (.aload_n 0, 1) := by decide +kernel
theorem dX8_copyFrom_46 : decode cX8_copyFrom 46 = .ok (.getfield 18, 3) := by decide +kernel
theorem dX8_copyFrom_49 : decode cX8_copyFrom 49 = .ok (.iconst 0, 1) := by decide +kernel
theorem dX8_copyFrom_50 : decode cX8_copyFrom 50 = .ok (.iload_n 2, 1) := by decide +kernel
theorem dX8_copyFrom_51 : decode cX8_copyFrom 51 = .ok (.invokestatic 52, 3) := by decide +kernel
theorem dX8_copyFrom_54 : decode cX8_copyFrom 54 = .ok (.aload_n 0, 1) := by decide +kernel
theorem dX8_copyFrom_55 : decode cX8_copyFrom 55 = .ok (.aload_n 1, 1) := by decide +kernel
theorem dX8_copyFrom_56 : decode cX8_copyFrom 56 = .ok (.getfield 22, 3) := by decide +kernel
theorem dX8_copyFrom_59 : decode cX8_copyFrom 59 = .ok (.putfield 22, 3) := by decide +kernel
theorem dX8_copyFrom_62 : decode cX8_copyFrom 62 = .ok (.return_, 1) := by decide +kernel
theorem dX9_init_0 : decode cX9_init 0 = .ok (.aload_n 0, 1) := by decide +kernel
theorem dX9_init_1 : decode cX9_init 1 = .ok (.invokespecial 3, 3) := by decide +kernel
theorem dX9_init_4 : decode cX9_init 4 = .ok (.aload_n 0, 1) := by decide +kernel
theorem dX9_init_5 : decode cX9_init 5 = .ok (.sipush 400, 3) := by decide +kernel
theorem dX9_init_8 : decode cX9_init 8 = .ok (.newarray .int, 2) := by decide +kernel
theorem dX9_init_10 : decode cX9_init 10 = .ok (.putfield 9, 3) := by decide +kernel
theorem dX9_init_13 : decode cX9_init 13 = .ok (.aload_n 0, 1) := by decide +kernel
theorem dX9_init_14 : decode cX9_init 14 = .ok (.sipush 401, 3) := by decide +kernel
theorem dX9_init_17 : decode cX9_init 17 = .ok (.newarray .int, 2) := by decide +kernel
theorem dX9_init_19 : decode cX9_init 19 = .ok (.putfield 15, 3) := by decide +kernel
theorem dX9_init_22 : decode cX9_init 22 = .ok (.aload_n 0, 1) := by decide +kernel
theorem dX9_init_23 : decode cX9_init 23 = .ok (.sipush 401, 3) := by decide +kernel
theorem dX9_init_26 : decode cX9_init 26 = .ok (.newarray .int, 2) := by decide +kernel
theorem dX9_init_28 : decode cX9_init 28 = .ok (.putfield 18, 3) := by decide +kernel
theorem dX9_init_31 : decode cX9_init 31 = .ok (.aload_n 0, 1) := by decide +kernel
theorem dX9_init_32 : decode cX9_init 32 = .ok (.sipush 401, 3) := by decide +kernel
theorem dX9_init_35 : decode cX9_init 35 = .ok (.newarray .int, 2) := by decide +kernel
theorem dX9_init_37 : decode cX9_init 37 = .ok (.putfield 21, 3) := by decide +kernel
theorem dX9_init_40 : decode cX9_init 40 = .ok (.aload_n 0, 1) := by decide +kernel
theorem dX9_init_41 : decode cX9_init 41 = .ok (.iconst (-1), 1) := by decide +kernel
theorem dX9_init_42 : decode cX9_init 42 = .ok (.putfield 24, 3) := by decide +kernel
theorem dX9_init_45 : decode cX9_init 45 = .ok (.return_, 1) := by decide +kernel
theorem dX9_hasRoomFor_0 : decode cX9_hasRoomFor 0 = .ok (.aload_n 0, 1) := by decide +kernel
theorem dX9_hasRoomFor_1 : decode cX9_hasRoomFor 1 = .ok (.getfield 28, 3) := by decide +kernel
theorem dX9_hasRoomFor_4 : decode cX9_hasRoomFor 4 = .ok (.iload_n 1, 1) := by decide +kernel
theorem dX9_hasRoomFor_5 : decode cX9_hasRoomFor 5 = .ok (.iadd, 1) := by decide +kernel
theorem dX9_hasRoomFor_6 : decode cX9_hasRoomFor 6 = .ok (.sipush 400, 3) := by decide +kernel
theorem dX9_hasRoomFor_9 : decode cX9_hasRoomFor 9 = .ok (.if_icmp .gt 7, 3) := by decide +kernel
theorem dX9_hasRoomFor_12 : decode cX9_hasRoomFor 12 = .ok (.iconst 1, 1) := by decide +kernel
theorem dX9_hasRoomFor_13 : decode cX9_hasRoomFor 13 = .ok (.goto 4, 3) := by decide +kernel
theorem dX9_hasRoomFor_16 : decode cX9_hasRoomFor 16 = .ok (.iconst 0, 1) := by decide +kernel
theorem dX9_hasRoomFor_17 : decode cX9_hasRoomFor 17 = .ok (.ireturn, 1) := by decide +kernel
theorem dX9_addNumber_0 : decode cX9_addNumber 0 = .ok (.bipush 24, 2) := by decide +kernel
theorem dX9_addNumber_2 : decode cX9_addNumber 2 = .ok (.istore_n 2, 1) := by decide +kernel
theorem dX9_addNumber_3 : decode cX9_addNumber 3 = .ok (.iload_n 2, 1) := by decide +kernel
theorem dX9_addNumber_4 : decode cX9_addNumber 4 = .ok (.ifCond .lt 52, 3) := by decide +kernel
theorem dX9_addNumber_7 : decode cX9_addNumber 7 = .ok (.aload_n 0, 1) := by decide +kernel
theorem dX9_addNumber_8 : decode cX9_addNumber 8 = .ok (.getfield 28, 3) := by decide +kernel
theorem dX9_addNumber_11 : decode cX9_addNumber 11 = .ok (.ifCond .lt 45, 3) := by decide +kernel
theorem dX9_addNumber_14 : decode cX9_addNumber 14 = .ok (.aload_n 0, 1) := by decide +kernel
theorem dX9_addNumber_15 : decode cX9_addNumber 15 = .ok (.getfield 28, 3) := by decide +kernel
theorem dX9_addNumber_18 : decode cX9_addNumber 18 = .ok (.sipush 400, 3) := by decide +kernel
theorem dX9_addNumber_21 : decode cX9_addNumber 21 = .ok (.if_icmp .ge 35, 3) := by decide +kernel
theorem dX9_addNumber_24 : decode cX9_addNumber 24 = .ok (.aload_n 0, 1) := by decide +kernel
theorem dX9_addNumber_25 : decode cX9_addNumber 25 = .ok (.getfield 9, 3) := by decide +kernel
theorem dX9_addNumber_28 : decode cX9_addNumber 28 = .ok (.aload_n 0, 1) := by decide +kernel
theorem dX9_addNumber_29 : decode cX9_addNumber 29 = .ok (.getfield 28, 3) := by decide +kernel
theorem dX9_addNumber_32 : decode cX9_addNumber 32 = .ok (.iload_n 1, 1) := by decide +kernel
theorem dX9_addNumber_33 : decode cX9_addNumber 33 = .ok (.iload_n 2, 1) := by decide +kernel
theorem dX9_addNumber_34 : decode cX9_addNumber 34 = .ok (.iushr, 1) := by decide +kernel
theorem dX9_addNumber_35 : decode cX9_addNumber 35 = .ok (.sipush 255, 3) := by decide +kernel
theorem dX9_addNumber_38 : decode cX9_addNumber 38 = .ok (.iand, 1) := by decide +kernel
theorem dX9_addNumber_39 : decode cX9_addNumber 39 = .ok (.iastore, 1) := by decide +kernel
theorem dX9_addNumber_40 : decode cX9_addNumber 40 = .ok (.aload_n 0, 1) := by decide +kernel
theorem dX9_addNumber_41 : decode cX9_addNumber 41 = .ok (.dup, 1) := by decide +kernel
theorem dX9_addNumber_42 : decode cX9_addNumber 42 = .ok (.getfield 28, 3) := by decide +kernel
theorem dX9_addNumber_45 : decode cX9_addNumber 45 = .ok (.iconst 1, 1) := by decide +kernel
theorem dX9_addNumber_46 : decode cX9_addNumber 46 = .ok (.iadd, 1) := by decide +kernel
theorem dX9_addNumber_47 : decode cX9_addNumber 47 = .ok (.putfield 28, 3) := by decide +kernel
theorem dX9_addNumber_50 : decode cX9_addNumber 50 = .ok (.iinc 2 (-8), 3) := by decide +kernel
theorem dX9_addNumber_53 : decode cX9_addNumber 53 = .ok (.goto (-50), 3) := by decide +kernel
theorem dX9_addNumber_56 : decode cX9_addNumber 56 = .ok (.return_, 1) := by decide +kernel
theorem dX9_split_0 : decode cX9_split 0 = .ok (.aload_n 0, 1) := by decide +kernel
theorem dX9_split_1 : decode cX9_split 1 = .ok (.iconst 0, 1) := by decide +kernel
theorem dX9_split_2 : decode cX9_split 2 = .ok (.putfield 31, 3) := by decide +kernel
theorem dX9_split_5 : decode cX9_split 5 = .ok (.aload_n 0, 1) := by decide +kernel
theorem dX9_split_6 : decode cX9_split 6 = .ok (.iconst 0, 1) := by decide +kernel
theorem dX9_split_7 : decode cX9_split 7 = .ok (.putfield 34, 3) := by decide +kernel
theorem dX9_split_10 : decode cX9_split 10 = .ok (.aload_n 0, 1) := by decide +kernel
theorem dX9_split_11 : decode cX9_split 11 = .ok (.iconst 0, 1) := by decide +kernel
theorem dX9_split_12 : decode cX9_split 12 = .ok (.putfield 37, 3) := by decide +kernel
theorem dX9_split_15 : decode cX9_split 15 = .ok (.aload_n 0, 1) := by decide +kernel
theorem dX9_split_16 : decode cX9_split 16 = .ok (.iconst (-1), 1) := by decide +kernel
theorem dX9_split_17 : decode cX9_split 17 = .ok (.putfield 24, 3) := by decide +kernel
theorem dX9_split_20 : decode cX9_split 20 = .ok (.iconst 0, 1) := by decide +kernel
theorem dX9_split_21 : decode cX9_split 21 = .ok (.istore_n 1, 1) := by decide +kernel
theorem dX9_split_22 : decode cX9_split 22 = .ok (.iconst 0, 1) := by decide +kernel
theorem dX9_split_23 : decode cX9_split 23 = .ok (.istore_n 2, 1) := by decide +kernel
theorem dX9_split_24 : decode cX9_split 24 = .ok (.iload_n 2, 1) := by decide +kernel
theorem dX9_split_25 : decode cX9_split 25 = .ok (.sipush 400, 3) := by decide +kernel
theorem dX9_split_28 : decode cX9_split 28 = .ok (.if_icmp .ge 40, 3) := by decide +kernel
theorem dX9_split_31 : decode cX9_split 31 = .ok (.iload_n 1, 1) := by decide +kernel
theorem dX9_split_32 : decode cX9_split 32 = .ok (.aload_n 0, 1) := by decide +kernel
theorem dX9_split_33 : decode cX9_split 33 = .ok (.getfield 28, 3) := by decide +kernel
theorem dX9_split_36 : decode cX9_split 36 = .ok (.if_icmp .ge 32, 3) := by decide +kernel
theorem dX9_split_39 : decode cX9_split 39 = .ok (.aload_n 0, 1) := by decide +kernel
theorem dX9_split_40 : decode cX9_split 40 = .ok (.iload_n 1, 1) := by decide +kernel
theorem dX9_split_41 : decode cX9_split 41 = .ok (.invokevirtual 40, 3) := by decide +kernel
theorem dX9_split_44 : decode cX9_split 44 = .ok (.invokestatic 44, 3) := by decide +kernel
theorem dX9_split_47 : decode cX9_split 47 = .ok (.ifCond .eq 9, 3) := by decide +kernel
theorem dX9_split_50 : decode cX9_split 50 = .ok (.iload_n 1, 1) := by decide +kernel
theorem dX9_split_51 : decode cX9_split 51 = .ok (.iconst 1, 1) := by decide +kernel
theorem dX9_split_52 : decode cX9_split 52 = .ok (.iadd, 1) := by decide +kernel
theorem dX9_split_53 : decode cX9_split 53 = .ok (.goto 8, 3) := by decide +kernel
theorem dX9_split_56 : decode cX9_split 56 = .ok (.aload_n 0, 1) := by decide +kernel
theorem dX9_split_57 : decode cX9_split 57 = .ok (.iload_n 1, 1) := by decide +kernel
theorem dX9_split_58 : decode cX9_split 58 = .ok (.invokevirtual 48, 3) := by decide +kernel
theorem dX9_split_61 : decode cX9_split 61 = .ok (.istore_n 1, 1) := by decide +kernel
theorem dX9_split_62 : decode cX9_split 62 = .ok (.iinc 2 1, 3) := by decide +kernel
theorem dX9_split_65 : decode cX9_split 65 = .ok (.goto (-41), 3) := by decide +kernel
theorem dX9_split_68 : decode cX9_split 68 = .ok (.aload_n 0, 1) := by decide +kernel
theorem dX9_split_69 : decode cX9_split 69 = .ok (.sipush 258, 3) := by decide +kernel
theorem dX9_split_72 : decode cX9_split 72 = .ok (.iconst 0, 1) := by decide +kernel
theorem dX9_split_73 : decode cX9_split 73 = .ok (.aload_n 0, 1) := by decide +kernel
theorem dX9_split_74 : decode cX9_split 74 = .ok (.getfield 28, 3) := by decide +kernel
theorem dX9_split_77 : decode cX9_split 77 = .ok (.invokevirtual 51, 3) := by decide +kernel
theorem dX9_split_80 : decode cX9_split 80 = .ok (.aload_n 0, 1) := by decide +kernel
theorem dX9_split_81 : decode cX9_split 81 = .ok (.iconst 0, 1) := by decide +kernel
theorem dX9_split_82 : decode cX9_split 82 = .ok (.putfield 28, 3) := by decide +kernel
theorem dX9_split_85 : decode cX9_split 85 = .ok (.return_, 1) := by decide +kernel
theorem dX9_splitOne_0 : decode cX9_splitOne 0 = .ok (.aload_n 0, 1) := by decide +kernel
theorem dX9_splitOne_1 : decode cX9_splitOne 1 = .ok (.iload_n 1, 1) := by decide +kernel
theorem dX9_splitOne_2 : decode cX9_splitOne 2 = .ok (.invokevirtual 40, 3) := by decide +kernel
theorem dX9_splitOne_5 : decode cX9_splitOne 5 = .ok (.istore_n 2, 1) := by decide +kernel
theorem dX9_splitOne_6 : decode cX9_splitOne 6 = .ok (.iload_n 2, 1) := by decide +kernel
theorem dX9_splitOne_7 : decode cX9_splitOne 7 = .ok (.invokestatic 55, 3) := by decide +kernel
theorem dX9_splitOne_10 : decode cX9_splitOne 10 = .ok (.ifCond .eq 23, 3) := by decide +kernel
theorem dX9_splitOne_13 : decode cX9_splitOne 13 = .ok (.aload_n 0, 1) := by decide +kernel
theorem dX9_splitOne_14 : decode cX9_splitOne 14 = .ok (.iload_n 1, 1) := by decide +kernel
theorem dX9_splitOne_15 : decode cX9_splitOne 15 = .ok (.invokevirtual 58, 3) := by decide +kernel
theorem dX9_splitOne_18 : decode cX9_splitOne 18 = .ok (.istore_n 3, 1) := by decide +kernel
theorem dX9_splitOne_19 : decode cX9_splitOne 19 = .ok (.aload_n 0, 1) := by decide +kernel
theorem dX9_splitOne_20 : decode cX9_splitOne 20 = .ok (.aload_n 0, 1) := by decide +kernel
theorem dX9_splitOne_21 : decode cX9_splitOne 21 = .ok (.iload_n 1, 1) := by decide +kernel
theorem dX9_splitOne_22 : decode cX9_splitOne 22 = .ok (.iload_n 3, 1) := by decide +kernel
theorem dX9_splitOne_23 : decode cX9_splitOne 23 = .ok (.invokevirtual 61, 3) := by decide +kernel
theorem dX9_splitOne_26 : decode cX9_splitOne 26 = .ok (.iconst 0, 1) := by decide +kernel
theorem dX9_splitOne_27 : decode cX9_splitOne 27 = .ok (.iload_n 1, 1) := by decide +kernel
theorem dX9_splitOne_28 : decode cX9_splitOne 28 = .ok (.invokevirtual 51, 3) := by decide +kernel
theorem dX9_splitOne_31 : decode cX9_splitOne 31 = .ok (.iload_n 3, 1) := by decide +kernel
theorem dX9_splitOne_32 : decode cX9_splitOne 32 = .ok (.ireturn, 1) := by decide +kernel
theorem dX9_splitOne_33 : decode cX9_splitOne 33 = .ok (.iload_n 2, 1) := by decide +kernel
theorem dX9_splitOne_34 : decode cX9_splitOne 34 = .ok (.invokestatic 65, 3) := by decide +kernel
theorem dX9_splitOne_37 : decode cX9_splitOne 37 = .ok (.ifCond .eq 42, 3) := by decide +kernel
theorem dX9_splitOne_40 : decode cX9_splitOne 40 = .ok (.aload_n 0, 1) := by decide +kernel
theorem dX9_splitOne_41 : decode cX9_splitOne 41 = .ok (.iload_n 1, 1) := by decide +kernel
theorem dX9_splitOne_42 : decode cX9_splitOne 42 = .ok (.invokevirtual 68, 3) := by decide +kernel
theorem dX9_splitOne_45 : decode cX9_splitOne 45 = .ok (.istore_n 3, 1) := by decide +kernel
theorem dX9_splitOne_46 : decode cX9_splitOne 46 = .ok (.iload_n 3, 1) := by decide +kernel
theorem dX9_splitOne_47 : decode cX9_splitOne 47 = .ok (.iload_n 1, 1) := by decide +kernel
theorem dX9_splitOne_48 : decode cX9_splitOne 48 = .ok (.isub, 1) := by decide +kernel
theorem dX9_splitOne_49 : decode cX9_splitOne 49 = .ok (.iconst 4, 1) := by decide +kernel
theorem dX9_splitOne_50 : decode cX9_splitOne 50 = .ok (.if_icmp .gt 9, 3) := by decide +kernel
theorem dX9_splitOne_53 : decode cX9_splitOne 53 = .ok (.sipush 256, 3) := by decide +kernel
theorem dX9_splitOne_56 : decode cX9_splitOne 56 = .ok (.goto 6, 3) := by decide +kernel
theorem dX9_splitOne_59 : decode cX9_splitOne 59 = .ok (.sipush 257, 3) := by decide +kernel
theorem dX9_splitOne_62 : decode cX9_splitOne 62 = .ok (.istore 4, 2) := by decide +kernel
theorem dX9_splitOne_64 : decode cX9_splitOne 64 = .ok (.aload_n 0, 1) := by decide +kernel
theorem dX9_splitOne_65 : decode cX9_splitOne 65 = .ok (.iload 4, 2) := by decide +kernel
theorem dX9_splitOne_67 : decode cX9_splitOne 67 = .ok (.aload_n 0, 1) := by decide +kernel
theorem dX9_splitOne_68 : decode cX9_splitOne 68 = .ok (.iload_n 1, 1) := by decide +kernel
theorem dX9_splitOne_69 : decode cX9_splitOne 69 = .ok (.iload_n 3, 1) := by decide +kernel
theorem dX9_splitOne_70 : decode cX9_splitOne 70 = .ok (.invokevirtual 71, 3) := by decide +kernel
theorem dX9_splitOne_73 : decode cX9_splitOne 73 = .ok (.iload_n 1, 1) := by decide +kernel
theorem dX9_splitOne_74 : decode cX9_splitOne 74 = .ok (.invokevirtual 51, 3) := by decide +kernel
theorem dX9_splitOne_77 : decode cX9_splitOne 77 = .ok (.iload_n 3, 1) := by decide +kernel
theorem dX9_splitOne_78 : decode cX9_splitOne 78 = .ok (.ireturn, 1) := by decide +kernel
theorem dX9_splitOne_79 : decode cX9_splitOne 79 = .ok (.aload_n 0, 1) := by decide +kernel
theorem dX9_splitOne_80 : decode cX9_splitOne 80 = .ok (.iload_n 2, 1) := by decide +kernel
theorem dX9_splitOne_81 : decode cX9_splitOne 81 = .ok (.iconst 0, 1) := by decide +kernel
theorem dX9_splitOne_82 : decode cX9_splitOne 82 = .ok (.iload_n 1, 1) := by decide +kernel
theorem dX9_splitOne_83 : decode cX9_splitOne 83 = .ok (.invokevirtual 51, 3) := by decide +kernel
theorem dX9_splitOne_86 : decode cX9_splitOne 86 = .ok (.iload_n 1, 1) := by decide +kernel
theorem dX9_splitOne_87 : decode cX9_splitOne 87 = .ok (.iconst 1, 1) := by decide +kernel
theorem dX9_splitOne_88 : decode cX9_splitOne 88 = .ok (.iadd, 1) := by decide +kernel
theorem dX9_splitOne_89 : decode cX9_splitOne 89 = .ok (.ireturn, 1) := by decide +kernel
theorem dX9_byteAt_0 : decode cX9_byteAt 0 = .ok (.iload_n 1, 1) := by decide +kernel
theorem dX9_byteAt_1 : decode cX9_byteAt 1 = .ok (.ifCond .lt 27, 3) := by decide +kernel
theorem dX9_byteAt_4 : decode cX9_byteAt 4 = .ok (.iload_n 1, 1) := by decide +kernel
theorem dX9_byteAt_5 : decode cX9_byteAt 5 = .ok (.aload_n 0, 1) := by decide +kernel
theorem dX9_byteAt_6 : decode cX9_byteAt 6 = .ok (.getfield 28, 3) := by decide +kernel
theorem dX9_byteAt_9 : decode cX9_byteAt 9 = .ok (.if_icmp .ge 19, 3) := by decide +kernel
theorem dX9_byteAt_12 : decode cX9_byteAt 12 = .ok (.iload_n 1, 1) := by decide +kernel
theorem dX9_byteAt_13 : decode cX9_byteAt 13 = .ok (.sipush 400, 3) := by decide +kernel
theorem dX9_byteAt_16 : decode cX9_byteAt 16 = .ok (.if_icmp .ge 12, 3) := by decide +kernel
theorem dX9_byteAt_19 : decode cX9_byteAt 19 = .ok (.aload_n 0, 1) := by decide +kernel
theorem dX9_byteAt_20 : decode cX9_byteAt 20 = .ok (.getfield 9, 3) := by decide +kernel
theorem dX9_byteAt_23 : decode cX9_byteAt 23 = .ok (.iload_n 1, 1) := by decide +kernel
theorem dX9_byteAt_24 : decode cX9_byteAt 24 = .ok (.iaload, 1) := by decide +kernel
theorem dX9_byteAt_25 : decode cX9_byteAt 25 = .ok (.goto 4, 3) := by decide +kernel
theorem dX9_byteAt_28 : decode cX9_byteAt 28 = .ok (.iconst (-1), 1) := by decide +kernel
theorem dX9_byteAt_29 : decode cX9_byteAt 29 = .ok (.ireturn, 1) := by decide +kernel
theorem dX9_isBlank_0 : decode cX9_isBlank 0 = .ok (.iload_n 0, 1) := by decide +kernel
theorem dX9_isBlank_1 : decode cX9_isBlank 1 = .ok (.bipush 32, 2) := by decide +kernel
theorem dX9_isBlank_3 : decode cX9_isBlank 3 = .ok (.if_icmp .eq 9, 3) := by decide +kernel
theorem dX9_isBlank_6 : decode cX9_isBlank 6 = .ok (.iload_n 0, 1) := by decide +kernel
theorem dX9_isBlank_7 : decode cX9_isBlank 7 = .ok (.bipush 10, 2) := by decide +kernel
theorem dX9_isBlank_9 : decode cX9_isBlank 9 = .ok (.if_icmp .ne 7, 3) := by decide +kernel
theorem dX9_isBlank_12 : decode cX9_isBlank 12 = .ok (.iconst 1, 1) := by decide +kernel
theorem dX9_isBlank_13 : decode cX9_isBlank 13 = .ok (.goto 4, 3) := by decide +kernel
theorem dX9_isBlank_16 : decode cX9_isBlank 16 = .ok (.iconst 0, 1) := by decide +kernel
theorem dX9_isBlank_17 : decode cX9_isBlank 17 = .ok (.ireturn, 1) := by decide +kernel
theorem dX9_isLetter_0 : decode cX9_isLetter 0 = .ok (.iload_n 0, 1) := by decide +kernel
theorem dX9_isLetter_1 : decode cX9_isLetter 1 = .ok (.bipush 97, 2) := by decide +kernel
theorem dX9_isLetter_3 : decode cX9_isLetter 3 = .ok (.bipush 122, 2) := by decide +kernel
theorem dX9_isLetter_5 : decode cX9_isLetter 5 = .ok (.invokestatic 74, 3) := by decide +kernel
theorem dX9_isLetter_8 : decode cX9_isLetter 8 = .ok (.ifCond .ne 14, 3) := by decide +kernel
theorem dX9_isLetter_11 : decode cX9_isLetter 11 = .ok (.iload_n 0, 1) := by decide +kernel
theorem dX9_isLetter_12 : decode cX9_isLetter 12 = .ok (.bipush 65, 2) := by decide +kernel
theorem dX9_isLetter_14 : decode cX9_isLetter 14 = .ok (.bipush 90, 2) := by decide +kernel
theorem dX9_isLetter_16 : decode cX9_isLetter 16 = .ok (.invokestatic 74, 3) := by decide +kernel
theorem dX9_isLetter_19 : decode cX9_isLetter 19 = .ok (.ifCond .eq 7, 3) := by decide +kernel
theorem dX9_isLetter_22 : decode cX9_isLetter 22 = .ok (.iconst 1, 1) := by decide +kernel
theorem dX9_isLetter_23 : decode cX9_isLetter 23 = .ok (.goto 4, 3) := by decide +kernel
theorem dX9_isLetter_26 : decode cX9_isLetter 26 = .ok (.iconst 0, 1) := by decide +kernel
theorem dX9_isLetter_27 : decode cX9_isLetter 27 = .ok (.ireturn, 1) := by decide +kernel
theorem dX9_isDigit_0 : decode cX9_isDigit 0 = .ok (.iload_n 0, 1) := by decide +kernel
theorem dX9_isDigit_1 : decode cX9_isDigit 1 = .ok (.bipush 48, 2) := by decide +kernel
theorem dX9_isDigit_3 : decode cX9_isDigit 3 = .ok (.bipush 57, 2) := by decide +kernel
theorem dX9_isDigit_5 : decode cX9_isDigit 5 = .ok (.invokestatic 74, 3) := by decide +kernel
theorem dX9_isDigit_8 : decode cX9_isDigit 8 = .ok (.ireturn, 1) := by decide +kernel
theorem dX9_behindLetters_0 : decode cX9_behindLetters 0 = .ok (.iload_n 1, 1) := by decide +kernel
theorem dX9_behindLetters_1 : decode cX9_behindLetters 1 = .ok (.istore_n 2, 1) := by decide +kernel
theorem dX9_behindLetters_2 : decode cX9_behindLetters 2 = .ok (.iload_n 2, 1) := by decide +kernel
theorem dX9_behindLetters_3 : decode cX9_behindLetters 3 = .ok (.aload_n 0, 1) := by decide +kernel
theorem dX9_behindLetters_4 : decode cX9_behindLetters 4 = .ok (.getfield 28, 3) := by decide +kernel
theorem dX9_behindLetters_7 : decode cX9_behindLetters 7 = .ok (.if_icmp .ge 20, 3) := by decide +kernel
theorem dX9_behindLetters_10 : decode cX9_behindLetters 10 = .ok (.aload_n 0, 1) := by decide +kernel
theorem dX9_behindLetters_11 : decode cX9_behindLetters 11 = .ok (.iload_n 2, 1) := by decide +kernel
theorem dX9_behindLetters_12 : decode cX9_behindLetters 12 = .ok (.invokevirtual 40, 3) := by decide +kernel
theorem dX9_behindLetters_15 : decode cX9_behindLetters 15 = .ok (.invokestatic 55, 3) := by decide +kernel
theorem dX9_behindLetters_18 : decode cX9_behindLetters 18 = .ok (.ifCond .eq 9, 3) := by decide +kernel
theorem dX9_behindLetters_21 : decode cX9_behindLetters 21 = .ok (.iinc 2 1, 3) := by decide +kernel
theorem dX9_behindLetters_24 : decode cX9_behindLetters 24 = .ok (.goto (-22), 3) := by decide +kernel
theorem dX9_behindLetters_27 : decode cX9_behindLetters 27 = .ok (.iload_n 2, 1) := by decide +kernel
theorem dX9_behindLetters_28 : decode cX9_behindLetters 28 = .ok (.ireturn, 1) := by decide +kernel
theorem dX9_behindDigits_0 : decode cX9_behindDigits 0 = .ok (.iload_n 1, 1) := by decide +kernel
theorem dX9_behindDigits_1 : decode cX9_behindDigits 1 = .ok (.istore_n 2, 1) := by decide +kernel
theorem dX9_behindDigits_2 : decode cX9_behindDigits 2 = .ok (.iload_n 2, 1) := by decide +kernel
theorem dX9_behindDigits_3 : decode cX9_behindDigits 3 = .ok (.aload_n 0, 1) := by decide +kernel
theorem dX9_behindDigits_4 : decode cX9_behindDigits 4 = .ok (.getfield 28, 3) := by decide +kernel
theorem dX9_behindDigits_7 : decode cX9_behindDigits 7 = .ok (.if_icmp .ge 20, 3) := by decide +kernel
theorem dX9_behindDigits_10 : decode cX9_behindDigits 10 = .ok (.aload_n 0, 1) := by decide +kernel
theorem dX9_behindDigits_11 : decode cX9_behindDigits 11 = .ok (.iload_n 2, 1) := by decide +kernel
theorem dX9_behindDigits_12 : decode cX9_behindDigits 12 = .ok (.invokevirtual 40, 3) := by decide +kernel
theorem dX9_behindDigits_15 : decode cX9_behindDigits 15 = .ok (.invokestatic 65, 3) := by decide +kernel
theorem dX9_behindDigits_18 : decode cX9_behindDigits 18 = .ok (.ifCond .eq 9, 3) := by decide +kernel
theorem dX9_behindDigits_21 : decode cX9_behindDigits 21 = .ok (.iinc 2 1, 3) := by decide +kernel
theorem dX9_behindDigits_24 : decode cX9_behindDigits 24 = .ok (.goto (-22), 3) := by decide +kernel
theorem dX9_behindDigits_27 : decode cX9_behindDigits 27 = .ok (.iload_n 2, 1) := by decide +kernel
theorem dX9_behindDigits_28 : decode cX9_behindDigits 28 = .ok (.ireturn, 1) := by decide +kernel
theorem dX9_numberBetween_0 : decode cX9_numberBetween 0 = .ok (.iconst 0, 1) := by decide +kernel
theorem dX9_numberBetween_1 : decode cX9_numberBetween 1 = .ok (.istore_n 3, 1) := by decide +kernel
theorem dX9_numberBetween_2 : decode cX9_numberBetween 2 = .ok (.iload_n 1, 1) := by decide +kernel
theorem dX9_numberBetween_3 : decode cX9_numberBetween 3 = .ok (.istore 4, 2) := by decide +kernel
theorem dX9_numberBetween_5 : decode cX9_numberBetween 5 = .ok (.iload 4, 2) := by decide +kernel
theorem dX9_numberBetween_7 : decode cX9_numberBetween 7 = .ok (.iload_n 2, 1) := by decide +kernel
theorem dX9_numberBetween_8 : decode cX9_numberBetween 8 = .ok (.if_icmp .ge 24, 3) := by decide +kernel
theorem dX9_numberBetween_11 : decode cX9_numberBetween 11 = .ok (.iload_n 3, 1) := by decide +kernel
theorem dX9_numberBetween_12 : decode cX9_numberBetween 12 = .ok (.bipush 10, 2) := by decide +kernel
theorem dX9_numberBetween_14 : decode cX9_numberBetween 14 = .ok (.imul, 1) := by decide +kernel
theorem dX9_numberBetween_15 : decode cX9_numberBetween 15 = .ok (.aload_n 0, 1) := by decide +kernel
theorem dX9_numberBetween_16 : decode cX9_numberBetween 16 = .ok (.iload 4, 2) := by decide +kernel
theorem dX9_numberBetween_18 : decode cX9_numberBetween 18 = .ok (.invokevirtual 40, 3) := by decide +kernel
theorem dX9_numberBetween_21 : decode cX9_numberBetween 21 = .ok (.iadd, 1) := by decide +kernel
theorem dX9_numberBetween_22 : decode cX9_numberBetween 22 = .ok (.bipush 48, 2) := by decide +kernel
theorem dX9_numberBetween_24 : decode cX9_numberBetween 24 = .ok (.isub, 1) := by decide +kernel
theorem dX9_numberBetween_25 : decode cX9_numberBetween 25 = .ok (.istore_n 3, 1) := by decide +kernel
theorem dX9_numberBetween_26 : decode cX9_numberBetween 26 = .ok (.iinc 4 1, 3) := by decide +kernel
theorem dX9_numberBetween_29 : decode cX9_numberBetween 29 = .ok (.goto (-24), 3) := by decide +kernel
theorem dX9_numberBetween_32 : decode cX9_numberBetween 32 = .ok (.iload_n 3, 1) := by decide +kernel
theorem dX9_numberBetween_33 : decode cX9_numberBetween 33 = .ok (.ireturn, 1) := by decide +kernel
theorem dX9_wordBetween_0 : decode cX9_wordBetween 0 = .ok (.sipush 300, 3) := by decide +kernel
theorem dX9_wordBetween_3 : decode cX9_wordBetween 3 = .ok (.istore_n 3, 1) := by decide +kernel
theorem dX9_wordBetween_4 : decode cX9_wordBetween 4 = .ok (.iconst 0, 1) := by decide +kernel
theorem dX9_wordBetween_5 : decode cX9_wordBetween 5 = .ok (.istore 4, 2) := by decide +kernel
theorem dX9_wordBetween_7 : decode cX9_wordBetween 7 = .ok (.iconst 0, 1) := by decide +kernel
theorem dX9_wordBetween_8 : decode cX9_wordBetween 8 = .ok (.istore 5, 2) := by decide +kernel
theorem dX9_wordBetween_10 : decode cX9_wordBetween 10 = .ok (.iload 5, 2) := by decide +kernel
theorem dX9_wordBetween_12 : decode cX9_wordBetween 12 = .ok (.ldc 78, 2) := by decide +kernel
theorem dX9_wordBetween_14 : decode cX9_wordBetween 14 = .ok (.invokevirtual 80, 3) := by decide +kernel
theorem dX9_wordBetween_17 : decode cX9_wordBetween 17 = .ok (.if_icmp .ge 55, 3) := by decide +kernel
theorem dX9_wordBetween_20 : decode cX9_wordBetween 20 = .ok (.ldc 78, 2) := by decide +kernel
theorem dX9_wordBetween_22 : decode cX9_wordBetween 22 = .ok (.iload 5, 2) := by decide +kernel
theorem dX9_wordBetween_24 : decode cX9_wordBetween 24 = .ok (.invokevirtual 85, 3) := by decide +kernel
theorem dX9_wordBetween_27 : decode cX9_wordBetween 27 = .ok (.bipush 32, 2) := by decide +kernel
theorem dX9_wordBetween_29 : decode cX9_wordBetween 29 = .ok (.if_icmp .ne 37, 3) := by decide +kernel
theorem dX9_wordBetween_32 : decode cX9_wordBetween 32 = .ok (.iload 5, 2) := by decide +kernel
theorem dX9_wordBetween_34 : decode cX9_wordBetween 34 = .ok (.iload 4, 2) := by decide +kernel
theorem dX9_wordBetween_36 : decode cX9_wordBetween 36 = .ok (.isub, 1) := by decide +kernel
theorem dX9_wordBetween_37 : decode cX9_wordBetween 37 = .ok (.iload_n 2, 1) := by decide +kernel
theorem dX9_wordBetween_38 : decode cX9_wordBetween 38 = .ok (.iload_n 1, 1) := by decide +kernel
theorem dX9_wordBetween_39 : decode cX9_wordBetween 39 = .ok (.isub, 1) := by decide +kernel
theorem dX9_wordBetween_40 : decode cX9_wordBetween 40 = .ok (.if_icmp .ne 17, 3) := by decide +kernel
theorem dX9_wordBetween_43 : decode cX9_wordBetween 43 = .ok (.aload_n 0, 1) := by decide +kernel
theorem dX9_wordBetween_44 : decode cX9_wordBetween 44 = .ok (.iload_n 1, 1) := by decide +kernel
theorem dX9_wordBetween_45 : decode cX9_wordBetween 45 = .ok (.iload 4, 2) := by decide +kernel
theorem dX9_wordBetween_47 : decode cX9_wordBetween 47 = .ok (.iload 5, 2) := by decide +kernel
theorem dX9_wordBetween_49 : decode cX9_wordBetween 49 = .ok (.invokevirtual 89, 3) := by decide +kernel
theorem dX9_wordBetween_52 : decode cX9_wordBetween 52 = .ok (.ifCond .eq 5, 3) := by decide +kernel
theorem dX9_wordBetween_55 : decode cX9_wordBetween 55 = .ok (.iload_n 3, 1) := by decide +kernel
theorem dX9_wordBetween_56 : decode cX9_wordBetween 56 = .ok (.ireturn, 1) := by decide +kernel
theorem dX9_wordBetween_57 : decode cX9_wordBetween 57 = .ok (.iinc 3 1, 3) := by decide +kernel
theorem dX9_wordBetween_60 : decode cX9_wordBetween 60 = .ok (.iload 5, 2) := by decide +kernel
theorem dX9_wordBetween_62 : decode cX9_wordBetween 62 = .ok (.iconst 1, 1) := by decide +kernel
theorem dX9_wordBetween_63 : decode cX9_wordBetween 63 = .ok (.iadd, 1) := by decide +kernel
theorem dX9_wordBetween_64 : decode cX9_wordBetween 64 = .ok (.istore 4, 2) := by decide +kernel
theorem dX9_wordBetween_66 : decode cX9_wordBetween 66 = .ok (.iinc 5 1, 3) := by decide +kernel
theorem dX9_wordBetween_69 : decode cX9_wordBetween 69 = .ok (.goto (-59), 3) := by decide +kernel
theorem dX9_wordBetween_72 : decode cX9_wordBetween 72 = .ok (.sipush 257, 3) := by decide +kernel
theorem dX9_wordBetween_75 : decode cX9_wordBetween 75 = .ok (.ireturn, 1) := by decide +kernel
theorem dX9_isWordAt_0 : decode cX9_isWordAt 0 = .ok (.iload_n 2, 1) := by decide +kernel
theorem dX9_isWordAt_1 : decode cX9_isWordAt 1 = .ok (.istore 4, 2) := by decide +kernel
theorem dX9_isWordAt_3 : decode cX9_isWordAt 3 = .ok (.iload 4, 2) := by decide +kernel
theorem dX9_isWordAt_5 : decode cX9_isWordAt 5 = .ok (.iload_n 3, 1) := by decide +kernel
theorem dX9_isWordAt_6 : decode cX9_isWordAt 6 = .ok (.if_icmp .ge 41, 3) := by decide +kernel
theorem dX9_isWordAt_9 : decode cX9_isWordAt 9 = .ok (.iload 4, 2) := by decide +kernel
theorem dX9_isWordAt_11 : decode cX9_isWordAt 11 = .ok (.ldc 78, 2) := by decide +kernel
theorem dX9_isWordAt_13 : decode cX9_isWordAt 13 = .ok (.invokevirtual 80, 3) := by decide +kernel
theorem dX9_isWordAt_16 : decode cX9_isWordAt 16 = .ok (.if_icmp .ge 31, 3) := by decide +kernel
theorem dX9_isWordAt_19 : decode cX9_isWordAt 19 = .ok (.ldc 78, 2) := by decide +kernel
theorem dX9_isWordAt_21 : decode cX9_isWordAt 21 = .ok (.iload 4, 2) := by decide +kernel
theorem dX9_isWordAt_23 : decode cX9_isWordAt 23 = .ok (.invokevirtual 85, 3) := by decide +kernel
theorem dX9_isWordAt_26 : decode cX9_isWordAt 26 = .ok (.aload_n 0, 1) := by decide +kernel
theorem dX9_isWordAt_27 : decode cX9_isWordAt 27 = .ok (.iload_n 1, 1) := by decide +kernel
theorem dX9_isWordAt_28 : decode cX9_isWordAt 28 = .ok (.iload 4, 2) := by decide +kernel
theorem dX9_isWordAt_30 : decode cX9_isWordAt 30 = .ok (.iadd, 1) := by decide +kernel
theorem dX9_isWordAt_31 : decode cX9_isWordAt 31 = .ok (.iload_n 2, 1) := by decide +kernel
theorem dX9_isWordAt_32 : decode cX9_isWordAt 32 = .ok (.isub, 1) := by decide +kernel
theorem dX9_isWordAt_33 : decode cX9_isWordAt 33 = .ok (.invokevirtual 40, 3) := by decide +kernel
theorem dX9_isWordAt_36 : decode cX9_isWordAt 36 = .ok (.if_icmp .eq 5, 3) := by decide +kernel
theorem dX9_isWordAt_39 : decode cX9_isWordAt 39 = .ok (.iconst 0, 1) := by decide +kernel
theorem dX9_isWordAt_40 : decode cX9_isWordAt 40 = .ok (.ireturn, 1) := by decide +kernel
theorem dX9_isWordAt_41 : decode cX9_isWordAt 41 = .ok (.iinc 4 1, 3) := by decide +kernel
theorem dX9_isWordAt_44 : decode cX9_isWordAt 44 = .ok (.goto (-41), 3) := by decide +kernel
theorem dX9_isWordAt_47 : decode cX9_isWordAt 47 = .ok (.iconst 1, 1) := by decide +kernel
theorem dX9_isWordAt_48 : decode cX9_isWordAt 48 = .ok (.ireturn, 1) := by decide +kernel
theorem dX9_addToken_0 : decode cX9_addToken 0 = .ok (.aload_n 0, 1) := by decide +kernel
theorem dX9_addToken_1 : decode cX9_addToken 1 = .ok (.getfield 31, 3) := by decide +kernel
theorem dX9_addToken_4 : decode cX9_addToken 4 = .ok (.ifCond .lt 53, 3) := by decide +kernel
theorem dX9_addToken_7 : decode cX9_addToken 7 = .ok (.aload_n 0, 1) := by decide +kernel
theorem dX9_addToken_8 : decode cX9_addToken 8 = .ok (.getfield 31, 3) := by decide +kernel
theorem dX9_addToken_11 : decode cX9_addToken 11 = .ok (.sipush 400, 3) := by decide +kernel
theorem dX9_addToken_14 : decode cX9_addToken 14 = .ok (.if_icmp .gt 43, 3) := by decide +kernel
theorem dX9_addToken_17 : decode cX9_addToken 17 = .ok (.aload_n 0, 1) := by decide +kernel
theorem dX9_addToken_18 : decode cX9_addToken 18 = .ok (.getfield 15, 3) := by decide +kernel
theorem dX9_addToken_21 : decode cX9_addToken 21 = .ok (.aload_n 0, 1) := by decide +kernel
theorem dX9_addToken_22 : decode cX9_addToken 22 = .ok (.getfield 31, 3) := by decide +kernel
theorem dX9_addToken_25 : decode cX9_addToken 25 = .ok (.iload_n 1, 1) := by decide +kernel
theorem dX9_addToken_26 : decode cX9_addToken 26 = .ok (.iastore, 1) := by decide +kernel
theorem dX9_addToken_27 : decode cX9_addToken 27 = .ok (.aload_n 0, 1) := by decide +kernel
theorem dX9_addToken_28 : decode cX9_addToken 28 = .ok (.getfield 18, 3) := by decide +kernel
theorem dX9_addToken_31 : decode cX9_addToken 31 = .ok (.aload_n 0, 1) := by decide +kernel
theorem dX9_addToken_32 : decode cX9_addToken 32 = .ok (.getfield 31, 3) := by decide +kernel
theorem dX9_addToken_35 : decode cX9_addToken 35 = .ok (.iload_n 2, 1) := by decide +kernel
theorem dX9_addToken_36 : decode cX9_addToken 36 = .ok (.iastore, 1) := by decide +kernel
theorem dX9_addToken_37 : decode cX9_addToken 37 = .ok (.aload_n 0, 1) := by decide +kernel
theorem dX9_addToken_38 : decode cX9_addToken 38 = .ok (.getfield 21, 3) := by decide +kernel
theorem dX9_addToken_41 : decode cX9_addToken 41 = .ok (.aload_n 0, 1) := by decide +kernel
theorem dX9_addToken_42 : decode cX9_addToken 42 = .ok (.getfield 31, 3) := by decide +kernel
theorem dX9_addToken_45 : decode cX9_addToken 45 = .ok (.iload_n 3, 1) := by decide +kernel
theorem dX9_addToken_46 : decode cX9_addToken 46 = .ok (.iastore, 1) := by decide +kernel
theorem dX9_addToken_47 : decode cX9_addToken 47 = .ok (.aload_n 0, 1) := by decide +kernel
theorem dX9_addToken_48 : decode cX9_addToken 48 = .ok (.dup, 1) := by decide +kernel
theorem dX9_addToken_49 : decode cX9_addToken 49 = .ok (.getfield 31, 3) := by decide +kernel
theorem dX9_addToken_52 : decode cX9_addToken 52 = .ok (.iconst 1, 1) := by decide +kernel
theorem dX9_addToken_53 : decode cX9_addToken 53 = .ok (.iadd, 1) := by decide +kernel
theorem dX9_addToken_54 : decode cX9_addToken 54 = .ok (.putfield 31, 3) := by decide +kernel
theorem dX9_addToken_57 : decode cX9_addToken 57 = .ok (.return_, 1) := by decide +kernel
theorem dX9_type_0 : decode cX9_type 0 = .ok (.aload_n 0, 1) := by decide +kernel
theorem dX9_type_1 : decode cX9_type 1 = .ok (.getfield 34, 3) := by decide +kernel
theorem dX9_type_4 : decode cX9_type 4 = .ok (.ifCond .lt 36, 3) := by decide +kernel
theorem dX9_type_7 : decode cX9_type 7 = .ok (.aload_n 0, 1) := by decide +kernel
theorem dX9_type_8 : decode cX9_type 8 = .ok (.getfield 34, 3) := by decide +kernel
theorem dX9_type_11 : decode cX9_type 11 = .ok (.aload_n 0, 1) := by decide +kernel
theorem dX9_type_12 : decode cX9_type 12 = .ok (.getfield 31, 3) := by decide +kernel
theorem dX9_type_15 : decode cX9_type 15 = .ok (.if_icmp .ge 25, 3) := by decide +kernel
theorem dX9_type_18 : decode cX9_type 18 = .ok (.aload_n 0, 1) := by decide +kernel
theorem dX9_type_19 : decode cX9_type 19 = .ok (.getfield 34, 3) := by decide +kernel
theorem dX9_type_22 : decode cX9_type 22 = .ok (.sipush 400, 3) := by decide +kernel
theorem dX9_type_25 : decode cX9_type 25 = .ok (.if_icmp .gt 15, 3) := by decide +kernel
theorem dX9_type_28 : decode cX9_type 28 = .ok (.aload_n 0, 1) := by decide +kernel
theorem dX9_type_29 : decode cX9_type 29 = .ok (.getfield 15, 3) := by decide +kernel
theorem dX9_type_32 : decode cX9_type 32 = .ok (.aload_n 0, 1) := by decide +kernel
theorem dX9_type_33 : decode cX9_type 33 = .ok (.getfield 34, 3) := by decide +kernel
theorem dX9_type_36 : decode cX9_type 36 = .ok (.iaload, 1) := by decide +kernel
theorem dX9_type_37 : decode cX9_type 37 = .ok (.goto 6, 3) := by decide +kernel
theorem dX9_type_40 : decode cX9_type 40 = .ok (.sipush 258, 3) := by decide +kernel
theorem dX9_type_43 : decode cX9_type 43 = .ok (.ireturn, 1) := by decide +kernel
theorem dX9_value_0 : decode cX9_value 0 = .ok (.aload_n 0, 1) := by decide +kernel
theorem dX9_value_1 : decode cX9_value 1 = .ok (.getfield 34, 3) := by decide +kernel
theorem dX9_value_4 : decode cX9_value 4 = .ok (.ifCond .lt 36, 3) := by decide +kernel
theorem dX9_value_7 : decode cX9_value 7 = .ok (.aload_n 0, 1) := by decide +kernel
theorem dX9_value_8 : decode cX9_value 8 = .ok (.getfield 34, 3) := by decide +kernel
theorem dX9_value_11 : decode cX9_value 11 = .ok (.aload_n 0, 1) := by decide +kernel
theorem dX9_value_12 : decode cX9_value 12 = .ok (.getfield 31, 3) := by decide +kernel
theorem dX9_value_15 : decode cX9_value 15 = .ok (.if_icmp .ge 25, 3) := by decide +kernel
theorem dX9_value_18 : decode cX9_value 18 = .ok (.aload_n 0, 1) := by decide +kernel
theorem dX9_value_19 : decode cX9_value 19 = .ok (.getfield 34, 3) := by decide +kernel
theorem dX9_value_22 : decode cX9_value 22 = .ok (.sipush 400, 3) := by decide +kernel
theorem dX9_value_25 : decode cX9_value 25 = .ok (.if_icmp .gt 15, 3) := by decide +kernel
theorem dX9_value_28 : decode cX9_value 28 = .ok (.aload_n 0, 1) := by decide +kernel
theorem dX9_value_29 : decode cX9_value 29 = .ok (.getfield 18, 3) := by decide +kernel
theorem dX9_value_32 : decode cX9_value 32 = .ok (.aload_n 0, 1) := by decide +kernel
theorem dX9_value_33 : decode cX9_value 33 = .ok (.getfield 34, 3) := by decide +kernel
theorem dX9_value_36 : decode cX9_value 36 = .ok (.iaload, 1) := by decide +kernel
theorem dX9_value_37 : decode cX9_value 37 = .ok (.goto 4, 3) := by decide +kernel
theorem dX9_value_40 : decode cX9_value 40 = .ok (.iconst 0, 1) := by decide +kernel
theorem dX9_value_41 : decode cX9_value 41 = .ok (.ireturn, 1) := by decide +kernel
theorem dX9_atEnd_0 : decode cX9_atEnd 0 = .ok (.aload_n 0, 1) := by decide +kernel
theorem dX9_atEnd_1 : decode cX9_atEnd 1 = .ok (.invokevirtual 92, 3) := by decide +kernel
theorem dX9_atEnd_4 : decode cX9_atEnd 4 = .ok (.sipush 258, 3) := by decide +kernel
theorem dX9_atEnd_7 : decode cX9_atEnd 7 = .ok (.if_icmp .ne 7, 3) := by decide +kernel
theorem dX9_atEnd_10 : decode cX9_atEnd 10 = .ok (.iconst 1, 1) := by decide +kernel
theorem dX9_atEnd_11 : decode cX9_atEnd 11 = .ok (.goto 4, 3) := by decide +kernel
theorem dX9_atEnd_14 : decode cX9_atEnd 14 = .ok (.iconst 0, 1) := by decide +kernel
theorem dX9_atEnd_15 : decode cX9_atEnd 15 = .ok (.ireturn, 1) := by decide +kernel
theorem dX9_take_0 : decode cX9_take 0 = .ok (.aload_n 0, 1) := by decide +kernel
theorem dX9_take_1 : decode cX9_take 1 = .ok (.dup, 1) := by decide +kernel
theorem dX9_take_2 : decode cX9_take 2 = .ok (.getfield 34, 3) := by decide +kernel
theorem dX9_take_5 : decode cX9_take 5 = .ok (.iconst 1, 1) := by decide +kernel
theorem dX9_take_6 : decode cX9_take 6 = .ok (.iadd, 1) := by decide +kernel
theorem dX9_take_7 : decode cX9_take 7 = .ok (.putfield 34, 3) := by decide +kernel
theorem dX9_take_10 : decode cX9_take 10 = .ok (.return_, 1) := by decide +kernel
theorem dX9_fails_0 : decode cX9_fails 0 = .ok (.aload_n 0, 1) := by decide +kernel
theorem dX9_fails_1 : decode cX9_fails 1 = .ok (.iload_n 1, 1) := by decide +kernel
theorem dX9_fails_2 : decode cX9_fails 2 = .ok (.putfield 37, 3) := by decide +kernel
theorem dX9_fails_5 : decode cX9_fails 5 = .ok (.aload_n 0, 1) := by decide +kernel
theorem dX9_fails_6 : decode cX9_fails 6 = .ok (.aload_n 0, 1) := by decide +kernel
theorem dX9_fails_7 : decode cX9_fails 7 = .ok (.getfield 34, 3) := by decide +kernel
theorem dX9_fails_10 : decode cX9_fails 10 = .ok (.ifCond .lt 36, 3) := by decide +kernel
theorem dX9_fails_13 : decode cX9_fails 13 = .ok (.aload_n 0, 1) := by decide +kernel
theorem dX9_fails_14 : decode cX9_fails 14 = .ok (.getfield 34, 3) := by decide +kernel
theorem dX9_fails_17 : decode cX9_fails 17 = .ok (.aload_n 0, 1) := by decide +kernel
theorem dX9_fails_18 : decode cX9_fails 18 = .ok (.getfield 31, 3) := by decide +kernel
theorem dX9_fails_21 : decode cX9_fails 21 = .ok (.if_icmp .ge 25, 3) := by decide +kernel
theorem dX9_fails_24 : decode cX9_fails 24 = .ok (.aload_n 0, 1) := by decide +kernel
theorem dX9_fails_25 : decode cX9_fails 25 = .ok (.getfield 34, 3) := by decide +kernel
theorem dX9_fails_28 : decode cX9_fails 28 = .ok (.sipush 400, 3) := by decide +kernel
theorem dX9_fails_31 : decode cX9_fails 31 = .ok (.if_icmp .gt 15, 3) := by decide +kernel
theorem dX9_fails_34 : decode cX9_fails 34 = .ok (.aload_n 0, 1) := by decide +kernel
theorem dX9_fails_35 : decode cX9_fails 35 = .ok (.getfield 21, 3) := by decide +kernel
theorem dX9_fails_38 : decode cX9_fails 38 = .ok (.aload_n 0, 1) := by decide +kernel
theorem dX9_fails_39 : decode cX9_fails 39 = .ok (.getfield 34, 3) := by decide +kernel
theorem dX9_fails_42 : decode cX9_fails 42 = .ok (.iaload, 1) := by decide +kernel
theorem dX9_fails_43 : decode cX9_fails 43 = .ok (.goto 4, 3) := by decide +kernel
theorem dX9_fails_46 : decode cX9_fails 46 = .ok (.iconst (-1), 1) := by decide +kernel
theorem dX9_fails_47 : decode cX9_fails 47 = .ok (.putfield 24, 3) := by decide +kernel
theorem dX9_fails_50 : decode cX9_fails 50 = .ok (.iconst 0, 1) := by decide +kernel
theorem dX9_fails_51 : decode cX9_fails 51 = .ok (.ireturn, 1) := by decide +kernel
theorem dX9_takes_0 : decode cX9_takes 0 = .ok (.aload_n 0, 1) := by decide +kernel
theorem dX9_takes_1 : decode cX9_takes 1 = .ok (.invokevirtual 92, 3) := by decide +kernel
theorem dX9_takes_4 : decode cX9_takes 4 = .ok (.iload_n 1, 1) := by decide +kernel
theorem dX9_takes_5 : decode cX9_takes 5 = .ok (.if_icmp .eq 9, 3) := by decide +kernel
theorem dX9_takes_8 : decode cX9_takes 8 = .ok (.aload_n 0, 1) := by decide +kernel
theorem dX9_takes_9 : decode cX9_takes 9 = .ok (.iconst 1, 1) := by decide +kernel
theorem dX9_takes_10 : decode cX9_takes 10 = .ok (.invokevirtual 95, 3) := by decide +kernel
theorem dX9_takes_13 : decode cX9_takes 13 = .ok (.ireturn, 1) := by decide +kernel
theorem dX9_takes_14 : decode cX9_takes 14 = .ok (.aload_n 0, 1) := by decide +kernel
theorem dX9_takes_15 : decode cX9_takes 15 = .ok (.invokevirtual 98, 3) := by decide +kernel
theorem dX9_takes_18 : decode cX9_takes 18 = .ok (.iconst 1, 1) := by decide +kernel
theorem dX9_takes_19 : decode cX9_takes 19 = .ok (.ireturn, 1) := by decide +kernel
theorem dJ6_bitCount_0f7a4_0 : decode cJ6_bitCount_0f7a4 0 = .ok (.iload_n 0, 1) := by decide +kernel
theorem dJ6_bitCount_0f7a4_1 : decode cJ6_bitCount_0f7a4 1 = .ok (.iload_n 0, 1) := by decide +kernel
theorem dJ6_bitCount_0f7a4_2 : decode cJ6_bitCount_0f7a4 2 = .ok (.iconst 1, 1) := by decide +kernel
theorem dJ6_bitCount_0f7a4_3 : decode cJ6_bitCount_0f7a4 3 = .ok (.iushr, 1) := by decide +kernel
theorem dJ6_bitCount_0f7a4_4 : decode cJ6_bitCount_0f7a4 4 = .ok (.ldc_w 265, 3) := by decide +kernel
theorem dJ6_bitCount_0f7a4_7 : decode cJ6_bitCount_0f7a4 7 = .ok (.iand, 1) := by decide +kernel
theorem dJ6_bitCount_0f7a4_8 : decode cJ6_bitCount_0f7a4 8 = .ok (.isub, 1) := by decide +kernel
theorem dJ6_bitCount_0f7a4_9 : decode cJ6_bitCount_0f7a4 9 = .ok (.istore_n 0, 1) := by decide +kernel
theorem dJ6_bitCount_0f7a4_10 : decode cJ6_bitCount_0f7a4 10 = .ok (.iload_n 0, 1) := by decide +kernel
theorem dJ6_bitCount_0f7a4_11 : decode cJ6_bitCount_0f7a4 11 = .ok (.ldc_w 266, 3) := by decide +kernel
theorem dJ6_bitCount_0f7a4_14 : decode cJ6_bitCount_0f7a4 14 = .ok (.iand, 1) := by decide +kernel
theorem dJ6_bitCount_0f7a4_15 : decode cJ6_bitCount_0f7a4 15 = .ok (.iload_n 0, 1) := by decide +kernel
theorem dJ6_bitCount_0f7a4_16 : decode cJ6_bitCount_0f7a4 16 = .ok (.iconst 2, 1) := by decide +kernel
theorem dJ6_bitCount_0f7a4_17 : decode cJ6_bitCount_0f7a4 17 = .ok (.iushr, 1) := by decide +kernel
theorem dJ6_bitCount_0f7a4_18 : decode cJ6_bitCount_0f7a4 18 = .ok (.ldc_w 266, 3) := by decide +kernel
theorem dJ6_bitCount_0f7a4_21 : decode cJ6_bitCount_0f7a4 21 = .ok (.iand, 1) := by decide +kernel
theorem dJ6_bitCount_0f7a4_22 : decode cJ6_bitCount_0f7a4 22 = .ok (.iadd, 1) := by decide +kernel
theorem dJ6_bitCount_0f7a4_23 : decode cJ6_bitCount_0f7a4 23 = .ok (.istore_n 0, 1) := by decide +kernel
theorem dJ6_bitCount_0f7a4_24 : decode cJ6_bitCount_0f7a4 24 = .ok (.iload_n 0, 1) := by decide +kernel
theorem dJ6_bitCount_0f7a4_25 : decode cJ6_bitCount_0f7a4 25 = .ok (.iload_n 0, 1) := by decide +kernel
theorem dJ6_bitCount_0f7a4_26 : decode cJ6_bitCount_0f7a4 26 = .ok (.iconst 4, 1) := by decide +kernel
theorem dJ6_bitCount_0f7a4_27 : decode cJ6_bitCount_0f7a4 27 = .ok (.iushr, 1) := by decide +kernel
theorem dJ6_bitCount_0f7a4_28 : decode cJ6_bitCount_0f7a4 28 = .ok (.iadd, 1) := by decide +kernel
theorem dJ6_bitCount_0f7a4_29 : decode cJ6_bitCount_0f7a4 29 = .ok (.ldc_w 267, 3) := by decide +kernel
theorem dJ6_bitCount_0f7a4_32 : decode cJ6_bitCount_0f7a4 32 = .ok (.iand, 1) := by decide +kernel
theorem dJ6_bitCount_0f7a4_33 : decode cJ6_bitCount_0f7a4 33 = .ok (.istore_n 0, 1) := by decide +kernel
theorem dJ6_bitCount_0f7a4_34 : decode cJ6_bitCount_0f7a4 34 = .ok (.iload_n 0, 1) := by decide +kernel
theorem dJ6_bitCount_0f7a4_35 : decode cJ6_bitCount_0f7a4 35 = .ok (.iload_n 0, 1) := by decide +kernel
theorem dJ6_bitCount_0f7a4_36 : decode cJ6_bitCount_0f7a4 36 = .ok (.bipush 8, 2) := by decide +kernel
theorem dJ6_bitCount_0f7a4_38 : decode cJ6_bitCount_0f7a4 38 = .ok (.iushr, 1) := by decide +kernel
theorem dJ6_bitCount_0f7a4_39 : decode cJ6_bitCount_0f7a4 39 = .ok (.iadd, 1) := by decide +kernel
theorem dJ6_bitCount_0f7a4_40 : decode cJ6_bitCount_0f7a4 40 = .ok (.istore_n 0, 1) := by decide +kernel
theorem dJ6_bitCount_0f7a4_41 : decode cJ6_bitCount_0f7a4 41 = .ok (.iload_n 0, 1) := by decide +kernel
theorem dJ6_bitCount_0f7a4_42 : decode cJ6_bitCount_0f7a4 42 = .ok (.iload_n 0, 1) := by decide +kernel
theorem dJ6_bitCount_0f7a4_43 : decode cJ6_bitCount_0f7a4 43 = .ok (.bipush 16, 2) := by decide +kernel
theorem dJ6_bitCount_0f7a4_45 : decode cJ6_bitCount_0f7a4 45 = .ok (.iushr, 1) := by decide +kernel
theorem dJ6_bitCount_0f7a4_46 : decode cJ6_bitCount_0f7a4 46 = .ok (.iadd, 1) := by decide +kernel
theorem dJ6_bitCount_0f7a4_47 : decode cJ6_bitCount_0f7a4 47 = .ok (.istore_n 0, 1) := by decide +kernel
theorem dJ6_bitCount_0f7a4_48 : decode cJ6_bitCount_0f7a4 48 = .ok (.iload_n 0, 1) := by decide +kernel
theorem dJ6_bitCount_0f7a4_49 : decode cJ6_bitCount_0f7a4 49 = .ok (.bipush 63, 2) := by decide +kernel
theorem dJ6_bitCount_0f7a4_51 : decode cJ6_bitCount_0f7a4 51 = .ok (.iand, 1) := by decide +kernel
theorem dJ6_bitCount_0f7a4_52 : decode cJ6_bitCount_0f7a4 52 = .ok (.ireturn, 1) := by decide +kernel
theorem dJ9_max_7cf53_0 : decode cJ9_max_7cf53 0 = .ok (.iload_n 0, 1) := by decide +kernel
theorem dJ9_max_7cf53_1 : decode cJ9_max_7cf53 1 = .ok (.iload_n 1, 1) := by decide +kernel
theorem dJ9_max_7cf53_2 : decode cJ9_max_7cf53 2 = .ok (.if_icmp .lt 7, 3) := by decide +kernel
theorem dJ9_max_7cf53_5 : decode cJ9_max_7cf53 5 = .ok (.iload_n 0, 1) := by decide +kernel
theorem dJ9_max_7cf53_6 : decode cJ9_max_7cf53 6 = .ok (.goto 4, 3) := by decide +kernel
theorem dJ9_max_7cf53_9 : decode cJ9_max_7cf53 9 = .ok (.iload_n 1, 1) := by decide +kernel
theorem dJ9_max_7cf53_10 : decode cJ9_max_7cf53 10 = .ok (.ireturn, 1) := by decide +kernel
theorem dJ9_min_7cf53_0 : decode cJ9_min_7cf53 0 = .ok (.iload_n 0, 1) := by decide +kernel
theorem dJ9_min_7cf53_1 : decode cJ9_min_7cf53 1 = .ok (.iload_n 1, 1) := by decide +kernel
theorem dJ9_min_7cf53_2 : decode cJ9_min_7cf53 2 = .ok (.if_icmp .gt 7, 3) := by decide +kernel
theorem dJ9_min_7cf53_5 : decode cJ9_min_7cf53 5 = .ok (.iload_n 0, 1) := by decide +kernel
theorem dJ9_min_7cf53_6 : decode cJ9_min_7cf53 6 = .ok (.goto 4, 3) := by decide +kernel
theorem dJ9_min_7cf53_9 : decode cJ9_min_7cf53 9 = .ok (.iload_n 1, 1) := by decide +kernel
theorem dJ9_min_7cf53_10 : decode cJ9_min_7cf53 10 = .ok (.ireturn, 1) := by decide +kernel
theorem dJ0_length_8abf5_0 : decode cJ0_length_8abf5 0 = .ok (.aload_n 0, 1) := by decide +kernel
theorem dJ0_length_8abf5_1 : decode cJ0_length_8abf5 1 = .ok (.getfield 9, 3) := by decide +kernel
theorem dJ0_length_8abf5_4 : decode cJ0_length_8abf5 4 = .ok (.arraylength, 1) := by decide +kernel
theorem dJ0_length_8abf5_5 : decode cJ0_length_8abf5 5 = .ok (.aload_n 0, 1) := by decide +kernel
theorem dJ0_length_8abf5_6 : decode cJ0_length_8abf5 6 = .ok (.invokevirtual 335, 3) := by decide +kernel
theorem dJ0_length_8abf5_9 : decode cJ0_length_8abf5 9 = .ok (.ishr, 1) := by decide +kernel
theorem dJ0_length_8abf5_10 : decode cJ0_length_8abf5 10 = .ok (.ireturn, 1) := by decide +kernel
theorem dJ0_charAt_5068e_0 : decode cJ0_charAt_5068e 0 = .ok (.aload_n 0, 1) := by decide +kernel
theorem dJ0_charAt_5068e_1 : decode cJ0_charAt_5068e 1 = .ok (.invokevirtual 492, 3) := by decide +kernel
theorem dJ0_charAt_5068e_4 : decode cJ0_charAt_5068e 4 = .ok (.ifCond .eq 12, 3) := by decide +kernel
theorem dJ0_charAt_5068e_7 : decode cJ0_charAt_5068e 7 = .ok (.aload_n 0, 1) := by decide +kernel
theorem dJ0_charAt_5068e_8 : decode cJ0_charAt_5068e 8 = .ok (.getfield 9, 3) := by decide +kernel
theorem dJ0_charAt_5068e_11 : decode cJ0_charAt_5068e 11 = .ok (.iload_n 1, 1) := by decide +kernel
theorem dJ0_charAt_5068e_12 : decode cJ0_charAt_5068e 12 = .ok (.invokestatic 495, 3) := by decide +kernel
theorem dJ0_charAt_5068e_15 : decode cJ0_charAt_5068e 15 = .ok (.ireturn, 1) := by decide +kernel
theorem dJ0_charAt_5068e_16 : decode cJ0_charAt_5068e 16 = .ok (.aload_n 0, 1) := by decide +kernel
theorem dJ0_charAt_5068e_17 : decode cJ0_charAt_5068e 17 = .ok (.getfield 9, 3) := by decide +kernel
theorem dJ0_charAt_5068e_20 : decode cJ0_charAt_5068e 20 = .ok (.iload_n 1, 1) := by decide +kernel
theorem dJ0_charAt_5068e_21 : decode cJ0_charAt_5068e 21 = .ok (.invokestatic 498, 3) := by decide +kernel
theorem dJ0_charAt_5068e_24 : decode cJ0_charAt_5068e 24 = .ok (.ireturn, 1) := by decide +kernel
theorem dJ0_coder_7d493_0 : decode cJ0_coder_7d493 0 = .ok (.getstatic 38, 3) := by decide +kernel
theorem dJ0_coder_7d493_3 : decode cJ0_coder_7d493 3 = .ok (.ifCond .eq 10, 3) := by decide +kernel
theorem dJ0_coder_7d493_6 : decode cJ0_coder_7d493 6 = .ok (.aload_n 0, 1) := by decide +kernel
theorem dJ0_coder_7d493_7 : decode cJ0_coder_7d493 7 = .ok (.getfield 15, 3) := by decide +kernel
theorem dJ0_coder_7d493_10 : decode cJ0_coder_7d493 10 = .ok (.goto 4, 3) := by decide +kernel
theorem dJ0_coder_7d493_13 : decode cJ0_coder_7d493 13 = .ok (.iconst 1, 1) := by decide +kernel
theorem dJ0_coder_7d493_14 : decode cJ0_coder_7d493 14 = .ok (.ireturn, 1) := by decide +kernel
theorem dJ0_isLatin1_aae02_0 : decode cJ0_isLatin1_aae02 0 = .ok (.getstatic 38, 3) := by decide +kernel
theorem dJ0_isLatin1_aae02_3 : decode cJ0_isLatin1_aae02 3 = .ok (.ifCond .eq 14, 3) := by decide +kernel
theorem dJ0_isLatin1_aae02_6 : decode cJ0_isLatin1_aae02 6 = .ok (.aload_n 0, 1) := by decide +kernel
theorem dJ0_isLatin1_aae02_7 : decode cJ0_isLatin1_aae02 7 = .ok (.getfield 15, 3) := by decide +kernel
theorem dJ0_isLatin1_aae02_10 : decode cJ0_isLatin1_aae02 10 = .ok (.ifCond .ne 7, 3) := by decide +kernel
theorem dJ0_isLatin1_aae02_13 : decode cJ0_isLatin1_aae02 13 = .ok (.iconst 1, 1) := by decide +kernel
theorem dJ0_isLatin1_aae02_14 : decode cJ0_isLatin1_aae02 14 = .ok (.goto 4, 3) := by decide +kernel
theorem dJ0_isLatin1_aae02_17 : decode cJ0_isLatin1_aae02 17 = .ok (.iconst 0, 1) := by decide +kernel
theorem dJ0_isLatin1_aae02_18 : decode cJ0_isLatin1_aae02 18 = .ok (.ireturn, 1) := by decide +kernel
theorem dJ0_checkIndex_df160_0 : decode cJ0_checkIndex_df160 0 = .ok (.iload_n 0, 1) := by decide +kernel
theorem dJ0_checkIndex_df160_1 : decode cJ0_checkIndex_df160 1 = .ok (.iload_n 1, 1) := by decide +kernel
theorem dJ0_checkIndex_df160_2 : decode cJ0_checkIndex_df160 2 = .ok (.getstatic 1053, 3) := by decide +kernel
theorem dJ0_checkIndex_df160_5 : decode cJ0_checkIndex_df160 5 = .ok (.invokestatic 1059, 3) := by decide +kernel
theorem dJ0_checkIndex_df160_8 : decode cJ0_checkIndex_df160 8 = .ok (.pop, 1) := by decide +kernel
theorem dJ0_checkIndex_df160_9 : decode cJ0_checkIndex_df160 9 = .ok (.return_, 1) := by decide +kernel
theorem dJ1_charAt_3b067_0 : decode cJ1_charAt_3b067 0 = .ok (.iload_n 1, 1) := by decide +kernel
theorem dJ1_charAt_3b067_1 : decode cJ1_charAt_3b067 1 = .ok (.aload_n 0, 1) := by decide +kernel
theorem dJ1_charAt_3b067_2 : decode cJ1_charAt_3b067 2 = .ok (.arraylength, 1) := by decide +kernel
theorem dJ1_charAt_3b067_3 : decode cJ1_charAt_3b067 3 = .ok (.invokestatic 9, 3) := by decide +kernel
theorem dJ1_charAt_3b067_6 : decode cJ1_charAt_3b067 6 = .ok (.aload_n 0, 1) := by decide +kernel
theorem dJ1_charAt_3b067_7 : decode cJ1_charAt_3b067 7 = .ok (.iload_n 1, 1) := by decide +kernel
theorem dJ1_charAt_3b067_8 : decode cJ1_charAt_3b067 8 = .ok (.baload, 1) := by decide +kernel
theorem dJ1_charAt_3b067_9 : decode cJ1_charAt_3b067 9 = .ok (.sipush 255, 3) := by decide +kernel
theorem dJ1_charAt_3b067_12 : decode cJ1_charAt_3b067 12 = .ok (.iand, 1) := by decide +kernel
theorem dJ1_charAt_3b067_13 : decode cJ1_charAt_3b067 13 = .ok (.i2c, 1) := by decide +kernel
theorem dJ1_charAt_3b067_14 : decode cJ1_charAt_3b067 14 = .ok (.ireturn, 1) := by decide +kernel
theorem dJ2_getChar_3b067_0 : decode cJ2_getChar_3b067 0 = .ok (.getstatic 44, 3) := by decide +kernel
theorem dJ2_getChar_3b067_3 : decode cJ2_getChar_3b067 3 = .ok (.ifCond .ne 25, 3) := by decide +kernel
theorem dJ2_getChar_3b067_6 : decode cJ2_getChar_3b067 6 = .ok (.iload_n 1, 1) := by decide +kernel
theorem dJ2_getChar_3b067_7 : decode cJ2_getChar_3b067 7 = .ok (.ifCond .lt 11, 3) := by decide +kernel
theorem dJ2_getChar_3b067_10 : decode cJ2_getChar_3b067 10 = .ok (.iload_n 1, 1) := by decide +kernel
theorem dJ2_getChar_3b067_11 : decode cJ2_getChar_3b067 11 = .ok (.aload_n 0, 1) := by decide +kernel
theorem dJ2_getChar_3b067_12 : decode cJ2_getChar_3b067 12 = .ok (.invokestatic 48, 3) := by decide +kernel
theorem dJ2_getChar_3b067_15 : decode cJ2_getChar_3b067 15 = .ok (.if_icmp .lt 13, 3) := by decide +kernel
theorem dJ2_getChar_3b067_18 : decode cJ2_getChar_3b067 18 = .ok (.new 52, 3) := by decide +kernel
theorem dJ2_getChar_3b067_21 : decode cJ2_getChar_3b067 21 = .ok (.dup, 1) := by decide +kernel
theorem dJ2_getChar_3b067_22 : decode cJ2_getChar_3b067 22 = .ok (.ldc 54, 2) := by decide +kernel
theorem dJ2_getChar_3b067_24 : decode cJ2_getChar_3b067 24 = .ok (.invokespecial 56, 3) := by decide +kernel
theorem dJ2_getChar_3b067_27 : decode cJ2_getChar_3b067 27 = .ok (.athrow, 1) := by decide +kernel
theorem dJ2_getChar_3b067_28 : decode cJ2_getChar_3b067 28 = .ok (.iload_n 1, 1) := by decide +kernel
theorem dJ2_getChar_3b067_29 : decode cJ2_getChar_3b067 29 = .ok (.iconst 1, 1) := by decide +kernel
theorem dJ2_getChar_3b067_30 : decode cJ2_getChar_3b067 30 = .ok (.ishl, 1) := by decide +kernel
theorem dJ2_getChar_3b067_31 : decode cJ2_getChar_3b067 31 = .ok (.istore_n 1, 1) := by decide +kernel
theorem dJ2_getChar_3b067_32 : decode cJ2_getChar_3b067 32 = .ok (.aload_n 0, 1) := by decide +kernel
theorem dJ2_getChar_3b067_33 : decode cJ2_getChar_3b067 33 = .ok (.iload_n 1, 1) := by decide +kernel
theorem dJ2_getChar_3b067_34 : decode cJ2_getChar_3b067 34 = .ok (.iinc 1 1, 3) := by decide +kernel
theorem dJ2_getChar_3b067_37 : decode cJ2_getChar_3b067 37 = .ok (.baload, 1) := by decide +kernel
theorem dJ2_getChar_3b067_38 : decode cJ2_getChar_3b067 38 = .ok (.sipush 255, 3) := by decide +kernel
theorem dJ2_getChar_3b067_41 : decode cJ2_getChar_3b067 41 = .ok (.iand, 1) := by decide +kernel
theorem dJ2_getChar_3b067_42 : decode cJ2_getChar_3b067 42 = .ok (.getstatic 59, 3) := by decide +kernel
theorem dJ2_getChar_3b067_45 : decode cJ2_getChar_3b067 45 = .ok (.ishl, 1) := by decide +kernel
theorem dJ2_getChar_3b067_46 : decode cJ2_getChar_3b067 46 = .ok (.aload_n 0, 1) := by decide +kernel
theorem dJ2_getChar_3b067_47 : decode cJ2_getChar_3b067 47 = .ok (.iload_n 1, 1) := by decide +kernel
theorem dJ2_getChar_3b067_48 : decode cJ2_getChar_3b067 48 = .ok (.baload, 1) := by decide +kernel
theorem dJ2_getChar_3b067_49 : decode cJ2_getChar_3b067 49 = .ok (.sipush 255, 3) := by decide +kernel
theorem dJ2_getChar_3b067_52 : decode cJ2_getChar_3b067 52 = .ok (.iand, 1) := by decide +kernel
theorem dJ2_getChar_3b067_53 : decode cJ2_getChar_3b067 53 = .ok (.getstatic 63, 3) := by decide +kernel
theorem dJ2_getChar_3b067_56 : decode cJ2_getChar_3b067 56 = .ok (.ishl, 1) := by decide +kernel
theorem dJ2_getChar_3b067_57 : decode cJ2_getChar_3b067 57 = .ok (.ior, 1) := by decide +kernel
theorem dJ2_getChar_3b067_58 : decode cJ2_getChar_3b067 58 = .ok (.i2c, 1) := by decide +kernel
theorem dJ2_getChar_3b067_59 : decode cJ2_getChar_3b067 59 = .ok (.ireturn, 1) := by decide +kernel
theorem dJ2_length_9d52b_0 : decode cJ2_length_9d52b 0 = .ok (.aload_n 0, 1) := by decide +kernel
theorem dJ2_length_9d52b_1 : decode cJ2_length_9d52b 1 = .ok (.arraylength, 1) := by decide +kernel
theorem dJ2_length_9d52b_2 : decode cJ2_length_9d52b 2 = .ok (.iconst 1, 1) := by decide +kernel
theorem dJ2_length_9d52b_3 : decode cJ2_length_9d52b 3 = .ok (.ishr, 1) := by decide +kernel
theorem dJ2_length_9d52b_4 : decode cJ2_length_9d52b 4 = .ok (.ireturn, 1) := by decide +kernel
theorem dJ2_charAt_3b067_0 : decode cJ2_charAt_3b067 0 = .ok (.iload_n 1, 1) := by decide +kernel
theorem dJ2_charAt_3b067_1 : decode cJ2_charAt_3b067 1 = .ok (.aload_n 0, 1) := by decide +kernel
theorem dJ2_charAt_3b067_2 : decode cJ2_charAt_3b067 2 = .ok (.invokestatic 67, 3) := by decide +kernel
theorem dJ2_charAt_3b067_5 : decode cJ2_charAt_3b067 5 = .ok (.aload_n 0, 1) := by decide +kernel
theorem dJ2_charAt_3b067_6 : decode cJ2_charAt_3b067 6 = .ok (.iload_n 1, 1) := by decide +kernel
theorem dJ2_charAt_3b067_7 : decode cJ2_charAt_3b067 7 = .ok (.invokestatic 71, 3) := by decide +kernel
theorem dJ2_charAt_3b067_10 : decode cJ2_charAt_3b067 10 = .ok (.ireturn, 1) := by decide +kernel
theorem dJ2_checkIndex_2214a_0 : decode cJ2_checkIndex_2214a 0 = .ok (.iload_n 0, 1) := by decide +kernel
theorem dJ2_checkIndex_2214a_1 : decode cJ2_checkIndex_2214a 1 = .ok (.aload_n 1, 1) := by decide +kernel
theorem dJ2_checkIndex_2214a_2 : decode cJ2_checkIndex_2214a 2 = .ok (.invokestatic 48, 3) := by decide +kernel
theorem dJ2_checkIndex_2214a_5 : decode cJ2_checkIndex_2214a 5 = .ok (.invokestatic 414, 3) := by decide +kernel
theorem dJ2_checkIndex_2214a_8 : decode cJ2_checkIndex_2214a 8 = .ok (.return_, 1) := by decide +kernel
theorem dJ3_checkIndex_8e157_0 : decode cJ3_checkIndex_8e157 0 = .ok (.iload_n 0, 1) := by decide +kernel
theorem dJ3_checkIndex_8e157_1 : decode cJ3_checkIndex_8e157 1 = .ok (.ifCond .lt 8, 3) := by decide +kernel
theorem dJ3_checkIndex_8e157_4 : decode cJ3_checkIndex_8e157 4 = .ok (.iload_n 0, 1) := by decide +kernel
theorem dJ3_checkIndex_8e157_5 : decode cJ3_checkIndex_8e157 5 = .ok (.iload_n 1, 1) := by decide +kernel
theorem dJ3_checkIndex_8e157_6 : decode cJ3_checkIndex_8e157 6 = .ok (.if_icmp .lt 10, 3) := by decide +kernel
theorem dJ3_checkIndex_8e157_9 : decode cJ3_checkIndex_8e157 9 = .ok (.aload_n 2, 1) := by decide +kernel
theorem dJ3_checkIndex_8e157_10 : decode cJ3_checkIndex_8e157 10 = .ok (.iload_n 0, 1) := by decide +kernel
theorem dJ3_checkIndex_8e157_11 : decode cJ3_checkIndex_8e157 11 = .ok (.iload_n 1, 1) := by decide +kernel
theorem dJ3_checkIndex_8e157_12 : decode cJ3_checkIndex_8e157 12 = .ok (.invokestatic 95, 3) := by decide +kernel
theorem dJ3_checkIndex_8e157_15 : decode cJ3_checkIndex_8e157 15 = .ok (.athrow, 1) := by decide +kernel
theorem dJ3_checkIndex_8e157_16 : decode cJ3_checkIndex_8e157 16 = .ok (.iload_n 0, 1) := by decide +kernel
theorem dJ3_checkIndex_8e157_17 : decode cJ3_checkIndex_8e157 17 = .ok (.ireturn, 1) := by decide +kernel
