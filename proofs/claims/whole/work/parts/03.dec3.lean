theorem dX7_turn_4 : decode cX7_turn 4 = .ok (.ifCond .eq 15, 3) := by decide +kernel
theorem dX7_turn_7 : decode cX7_turn 7 = .ok (.iload_n 2, 1) := by decide +kernel
theorem dX7_turn_8 : decode cX7_turn 8 = .ok (.i2l, 1) := by decide +kernel
theorem dX7_turn_9 : decode cX7_turn 9 = .ok (.lconst 0, 1) := by decide +kernel
theorem dX7_turn_10 : decode cX7_turn 10 = .ok (.ldc2_w 151, 3) := by decide +kernel
theorem dX7_turn_13 : decode cX7_turn 13 = .ok (.invokestatic 46, 3) := by decide +kernel
theorem dX7_turn_16 : decode cX7_turn 16 = .ok (.ifCond .ne 5, 3) := by decide +kernel
theorem dX7_turn_19 : decode cX7_turn 19 = .ok (.iconst (-1), 1) := by decide +kernel
theorem dX7_turn_20 : decode cX7_turn 20 = .ok (.ireturn, 1) := by decide +kernel
theorem dX7_turn_21 : decode cX7_turn 21 = .ok (.aload_n 0, 1) := by decide +kernel
theorem dX7_turn_22 : decode cX7_turn 22 = .ok (.iload_n 1, 1) := by decide +kernel
theorem dX7_turn_23 : decode cX7_turn 23 = .ok (.invokevirtual 153, 3) := by decide +kernel
theorem dX7_turn_26 : decode cX7_turn 26 = .ok (.ifCond .ne 6, 3) := by decide +kernel
theorem dX7_turn_29 : decode cX7_turn 29 = .ok (.bipush (-2), 2) := by decide +kernel
theorem dX7_turn_31 : decode cX7_turn 31 = .ok (.ireturn, 1) := by decide +kernel
theorem dX7_turn_32 : decode cX7_turn 32 = .ok (.aload_n 0, 1) := by decide +kernel
theorem dX7_turn_33 : decode cX7_turn 33 = .ok (.iload_n 1, 1) := by decide +kernel
theorem dX7_turn_34 : decode cX7_turn 34 = .ok (.iload_n 2, 1) := by decide +kernel
theorem dX7_turn_35 : decode cX7_turn 35 = .ok (.invokevirtual 156, 3) := by decide +kernel
theorem dX7_turn_38 : decode cX7_turn 38 = .ok (.iconst 0, 1) := by decide +kernel
theorem dX7_turn_39 : decode cX7_turn 39 = .ok (.istore_n 3, 1) := by decide +kernel
theorem dX7_turn_40 : decode cX7_turn 40 = .ok (.iload_n 3, 1) := by decide +kernel
theorem dX7_turn_41 : decode cX7_turn 41 = .ok (.aload_n 0, 1) := by decide +kernel
theorem dX7_turn_42 : decode cX7_turn 42 = .ok (.getfield 7, 3) := by decide +kernel
theorem dX7_turn_45 : decode cX7_turn 45 = .ok (.iload_n 1, 1) := by decide +kernel
theorem dX7_turn_46 : decode cX7_turn 46 = .ok (.iaload, 1) := by decide +kernel
theorem dX7_turn_47 : decode cX7_turn 47 = .ok (.if_icmp .ge 26, 3) := by decide +kernel
theorem dX7_turn_50 : decode cX7_turn 50 = .ok (.aload_n 0, 1) := by decide +kernel
theorem dX7_turn_51 : decode cX7_turn 51 = .ok (.getfield 16, 3) := by decide +kernel
theorem dX7_turn_54 : decode cX7_turn 54 = .ok (.bipush 12, 2) := by decide +kernel
theorem dX7_turn_56 : decode cX7_turn 56 = .ok (.iload_n 1, 1) := by decide +kernel
theorem dX7_turn_57 : decode cX7_turn 57 = .ok (.imul, 1) := by decide +kernel
theorem dX7_turn_58 : decode cX7_turn 58 = .ok (.iload_n 3, 1) := by decide +kernel
theorem dX7_turn_59 : decode cX7_turn 59 = .ok (.iadd, 1) := by decide +kernel
theorem dX7_turn_60 : decode cX7_turn 60 = .ok (.aload_n 0, 1) := by decide +kernel
theorem dX7_turn_61 : decode cX7_turn 61 = .ok (.getfield 38, 3) := by decide +kernel
theorem dX7_turn_64 : decode cX7_turn 64 = .ok (.iload_n 3, 1) := by decide +kernel
theorem dX7_turn_65 : decode cX7_turn 65 = .ok (.iaload, 1) := by decide +kernel
theorem dX7_turn_66 : decode cX7_turn 66 = .ok (.iastore, 1) := by decide +kernel
theorem dX7_turn_67 : decode cX7_turn 67 = .ok (.iinc 3 1, 3) := by decide +kernel
theorem dX7_turn_70 : decode cX7_turn 70 = .ok (.goto (-30), 3) := by decide +kernel
theorem dX7_turn_73 : decode cX7_turn 73 = .ok (.aload_n 0, 1) := by decide +kernel
theorem dX7_turn_74 : decode cX7_turn 74 = .ok (.getfield 7, 3) := by decide +kernel
theorem dX7_turn_77 : decode cX7_turn 77 = .ok (.iload_n 1, 1) := by decide +kernel
theorem dX7_turn_78 : decode cX7_turn 78 = .ok (.iaload, 1) := by decide +kernel
theorem dX7_turn_79 : decode cX7_turn 79 = .ok (.ireturn, 1) := by decide +kernel
theorem dX7_code_0 : decode cX7_code 0 = .ok (.lconst 0, 1) := by decide +kernel
theorem dX7_code_1 : decode cX7_code 1 = .ok (.lstore_n 2, 1) := by decide +kernel
theorem dX7_code_2 : decode cX7_code 2 = .ok (.iconst 0, 1) := by decide +kernel
theorem dX7_code_3 : decode cX7_code 3 = .ok (.istore 4, 2) := by decide +kernel
theorem dX7_code_5 : decode cX7_code 5 = .ok (.iload 4, 2) := by decide +kernel
theorem dX7_code_7 : decode cX7_code 7 = .ok (.iload_n 1, 1) := by decide +kernel
theorem dX7_code_8 : decode cX7_code 8 = .ok (.if_icmp .ge 24, 3) := by decide +kernel
theorem dX7_code_11 : decode cX7_code 11 = .ok (.ldc2_w 85, 3) := by decide +kernel
theorem dX7_code_14 : decode cX7_code 14 = .ok (.lload_n 2, 1) := by decide +kernel
theorem dX7_code_15 : decode cX7_code 15 = .ok (.lmul, 1) := by decide +kernel
theorem dX7_code_16 : decode cX7_code 16 = .ok (.aload_n 0, 1) := by decide +kernel
theorem dX7_code_17 : decode cX7_code 17 = .ok (.getfield 38, 3) := by decide +kernel
theorem dX7_code_20 : decode cX7_code 20 = .ok (.iload 4, 2) := by decide +kernel
theorem dX7_code_22 : decode cX7_code 22 = .ok (.iaload, 1) := by decide +kernel
theorem dX7_code_23 : decode cX7_code 23 = .ok (.i2l, 1) := by decide +kernel
theorem dX7_code_24 : decode cX7_code 24 = .ok (.ladd, 1) := by decide +kernel
theorem dX7_code_25 : decode cX7_code 25 = .ok (.lstore_n 2, 1) := by decide +kernel
theorem dX7_code_26 : decode cX7_code 26 = .ok (.iinc 4 1, 3) := by decide +kernel
theorem dX7_code_29 : decode cX7_code 29 = .ok (.goto (-24), 3) := by decide +kernel
theorem dX7_code_32 : decode cX7_code 32 = .ok (.lload_n 2, 1) := by decide +kernel
theorem dX7_code_33 : decode cX7_code 33 = .ok (.lreturn, 1) := by decide +kernel
theorem dX7_like_0 : decode cX7_like 0 = .ok (.iload_n 1, 1) := by decide +kernel
theorem dX7_like_1 : decode cX7_like 1 = .ok (.invokestatic 50, 3) := by decide +kernel
theorem dX7_like_4 : decode cX7_like 4 = .ok (.ifCond .ne 5, 3) := by decide +kernel
theorem dX7_like_7 : decode cX7_like 7 = .ok (.iconst (-1), 1) := by decide +kernel
theorem dX7_like_8 : decode cX7_like 8 = .ok (.ireturn, 1) := by decide +kernel
theorem dX7_like_9 : decode cX7_like 9 = .ok (.aload_n 0, 1) := by decide +kernel
theorem dX7_like_10 : decode cX7_like 10 = .ok (.iload_n 1, 1) := by decide +kernel
theorem dX7_like_11 : decode cX7_like 11 = .ok (.invokevirtual 153, 3) := by decide +kernel
theorem dX7_like_14 : decode cX7_like 14 = .ok (.ifCond .ne 6, 3) := by decide +kernel
theorem dX7_like_17 : decode cX7_like 17 = .ok (.bipush (-2), 2) := by decide +kernel
theorem dX7_like_19 : decode cX7_like 19 = .ok (.ireturn, 1) := by decide +kernel
theorem dX7_like_20 : decode cX7_like 20 = .ok (.iconst 0, 1) := by decide +kernel
theorem dX7_like_21 : decode cX7_like 21 = .ok (.istore_n 2, 1) := by decide +kernel
theorem dX7_like_22 : decode cX7_like 22 = .ok (.iconst 0, 1) := by decide +kernel
theorem dX7_like_23 : decode cX7_like 23 = .ok (.istore_n 3, 1) := by decide +kernel
theorem dX7_like_24 : decode cX7_like 24 = .ok (.iload_n 3, 1) := by decide +kernel
theorem dX7_like_25 : decode cX7_like 25 = .ok (.bipush 8, 2) := by decide +kernel
theorem dX7_like_27 : decode cX7_like 27 = .ok (.if_icmp .ge 93, 3) := by decide +kernel
theorem dX7_like_30 : decode cX7_like 30 = .ok (.aload_n 0, 1) := by decide +kernel
theorem dX7_like_31 : decode cX7_like 31 = .ok (.iload_n 1, 1) := by decide +kernel
theorem dX7_like_32 : decode cX7_like 32 = .ok (.iload_n 3, 1) := by decide +kernel
theorem dX7_like_33 : decode cX7_like 33 = .ok (.invokevirtual 156, 3) := by decide +kernel
theorem dX7_like_36 : decode cX7_like 36 = .ok (.aload_n 0, 1) := by decide +kernel
theorem dX7_like_37 : decode cX7_like 37 = .ok (.aload_n 0, 1) := by decide +kernel
theorem dX7_like_38 : decode cX7_like 38 = .ok (.getfield 7, 3) := by decide +kernel
theorem dX7_like_41 : decode cX7_like 41 = .ok (.iload_n 1, 1) := by decide +kernel
theorem dX7_like_42 : decode cX7_like 42 = .ok (.iaload, 1) := by decide +kernel
theorem dX7_like_43 : decode cX7_like 43 = .ok (.invokevirtual 160, 3) := by decide +kernel
theorem dX7_like_46 : decode cX7_like 46 = .ok (.lstore 4, 2) := by decide +kernel
theorem dX7_like_48 : decode cX7_like 48 = .ok (.iconst 1, 1) := by decide +kernel
theorem dX7_like_49 : decode cX7_like 49 = .ok (.istore 6, 2) := by decide +kernel
theorem dX7_like_51 : decode cX7_like 51 = .ok (.iconst 0, 1) := by decide +kernel
theorem dX7_like_52 : decode cX7_like 52 = .ok (.istore 7, 2) := by decide +kernel
theorem dX7_like_54 : decode cX7_like 54 = .ok (.iload 7, 2) := by decide +kernel
theorem dX7_like_56 : decode cX7_like 56 = .ok (.iload_n 3, 1) := by decide +kernel
theorem dX7_like_57 : decode cX7_like 57 = .ok (.if_icmp .ge 44, 3) := by decide +kernel
theorem dX7_like_60 : decode cX7_like 60 = .ok (.aload_n 0, 1) := by decide +kernel
theorem dX7_like_61 : decode cX7_like 61 = .ok (.iload_n 1, 1) := by decide +kernel
theorem dX7_like_62 : decode cX7_like 62 = .ok (.iload 7, 2) := by decide +kernel
theorem dX7_like_64 : decode cX7_like 64 = .ok (.invokevirtual 156, 3) := by decide +kernel
theorem dX7_like_67 : decode cX7_like 67 = .ok (.iload 6, 2) := by decide +kernel
theorem dX7_like_69 : decode cX7_like 69 = .ok (.ifCond .eq 23, 3) := by decide +kernel
theorem dX7_like_72 : decode cX7_like 72 = .ok (.aload_n 0, 1) := by decide +kernel
theorem dX7_like_73 : decode cX7_like 73 = .ok (.aload_n 0, 1) := by decide +kernel
theorem dX7_like_74 : decode cX7_like 74 = .ok (.getfield 7, 3) := by decide +kernel
theorem dX7_like_77 : decode cX7_like 77 = .ok (.iload_n 1, 1) := by decide +kernel
theorem dX7_like_78 : decode cX7_like 78 = .ok (.iaload, 1) := by decide +kernel
theorem dX7_like_79 : decode cX7_like 79 = .ok (.invokevirtual 160, 3) := by decide +kernel
theorem dX7_like_82 : decode cX7_like 82 = .ok (.lload 4, 2) := by decide +kernel
theorem dX7_like_84 : decode cX7_like 84 = .ok (.lcmp, 1) := by decide +kernel
theorem dX7_like_85 : decode cX7_like 85 = .ok (.ifCond .eq 7, 3) := by decide +kernel
theorem dX7_like_88 : decode cX7_like 88 = .ok (.iconst 1, 1) := by decide +kernel
theorem dX7_like_89 : decode cX7_like 89 = .ok (.goto 4, 3) := by decide +kernel
theorem dX7_like_92 : decode cX7_like 92 = .ok (.iconst 0, 1) := by decide +kernel
theorem dX7_like_93 : decode cX7_like 93 = .ok (.istore 6, 2) := by decide +kernel
theorem dX7_like_95 : decode cX7_like 95 = .ok (.iinc 7 1, 3) := by decide +kernel
theorem dX7_like_98 : decode cX7_like 98 = .ok (.goto (-44), 3) := by decide +kernel
theorem dX7_like_101 : decode cX7_like 101 = .ok (.iload_n 2, 1) := by decide +kernel
theorem dX7_like_102 : decode cX7_like 102 = .ok (.iload 6, 2) := by decide +kernel
theorem dX7_like_104 : decode cX7_like 104 = .ok (.ifCond .eq 7, 3) := by decide +kernel
theorem dX7_like_107 : decode cX7_like 107 = .ok (.iconst 1, 1) := by decide +kernel
theorem dX7_like_108 : decode cX7_like 108 = .ok (.goto 4, 3) := by decide +kernel
theorem dX7_like_111 : decode cX7_like 111 = .ok (.iconst 0, 1) := by decide +kernel
theorem dX7_like_112 : decode cX7_like 112 = .ok (.iadd, 1) := by decide +kernel
theorem dX7_like_113 : decode cX7_like 113 = .ok (.istore_n 2, 1) := by decide +kernel
theorem dX7_like_114 : decode cX7_like 114 = .ok (.iinc 3 1, 3) := by decide +kernel
theorem dX7_like_117 : decode cX7_like 117 = .ok (.goto (-93), 3) := by decide +kernel
theorem dX7_like_120 : decode cX7_like 120 = .ok (.iload_n 2, 1) := by decide +kernel
theorem dX7_like_121 : decode cX7_like 121 = .ok (.ireturn, 1) := by decide +kernel
theorem dX7_corner_0 : decode cX7_corner 0 = .ok (.iload_n 1, 1) := by decide +kernel
theorem dX7_corner_1 : decode cX7_corner 1 = .ok (.invokestatic 50, 3) := by decide +kernel
theorem dX7_corner_4 : decode cX7_corner 4 = .ok (.ifCond .eq 15, 3) := by decide +kernel
theorem dX7_corner_7 : decode cX7_corner 7 = .ok (.iload_n 2, 1) := by decide +kernel
theorem dX7_corner_8 : decode cX7_corner 8 = .ok (.i2l, 1) := by decide +kernel
theorem dX7_corner_9 : decode cX7_corner 9 = .ok (.lconst 0, 1) := by decide +kernel
theorem dX7_corner_10 : decode cX7_corner 10 = .ok (.ldc2_w 107, 3) := by decide +kernel
theorem dX7_corner_13 : decode cX7_corner 13 = .ok (.invokestatic 46, 3) := by decide +kernel
theorem dX7_corner_16 : decode cX7_corner 16 = .ok (.ifCond .ne 5, 3) := by decide +kernel
theorem dX7_corner_19 : decode cX7_corner 19 = .ok (.iconst (-1), 1) := by decide +kernel
theorem dX7_corner_20 : decode cX7_corner 20 = .ok (.ireturn, 1) := by decide +kernel
theorem dX7_corner_21 : decode cX7_corner 21 = .ok (.aload_n 0, 1) := by decide +kernel
theorem dX7_corner_22 : decode cX7_corner 22 = .ok (.getfield 7, 3) := by decide +kernel
theorem dX7_corner_25 : decode cX7_corner 25 = .ok (.iload_n 1, 1) := by decide +kernel
theorem dX7_corner_26 : decode cX7_corner 26 = .ok (.iaload, 1) := by decide +kernel
theorem dX7_corner_27 : decode cX7_corner 27 = .ok (.istore 4, 2) := by decide +kernel
theorem dX7_corner_29 : decode cX7_corner 29 = .ok (.iload_n 2, 1) := by decide +kernel
theorem dX7_corner_30 : decode cX7_corner 30 = .ok (.iconst 2, 1) := by decide +kernel
theorem dX7_corner_31 : decode cX7_corner 31 = .ok (.irem, 1) := by decide +kernel
theorem dX7_corner_32 : decode cX7_corner 32 = .ok (.ifCond .ne 7, 3) := by decide +kernel
theorem dX7_corner_35 : decode cX7_corner 35 = .ok (.iconst 0, 1) := by decide +kernel
theorem dX7_corner_36 : decode cX7_corner 36 = .ok (.goto 7, 3) := by decide +kernel
theorem dX7_corner_39 : decode cX7_corner 39 = .ok (.iload 4, 2) := by decide +kernel
theorem dX7_corner_41 : decode cX7_corner 41 = .ok (.iconst 1, 1) := by decide +kernel
theorem dX7_corner_42 : decode cX7_corner 42 = .ok (.isub, 1) := by decide +kernel
theorem dX7_corner_43 : decode cX7_corner 43 = .ok (.istore 5, 2) := by decide +kernel
theorem dX7_corner_45 : decode cX7_corner 45 = .ok (.iload_n 2, 1) := by decide +kernel
theorem dX7_corner_46 : decode cX7_corner 46 = .ok (.iconst 2, 1) := by decide +kernel
theorem dX7_corner_47 : decode cX7_corner 47 = .ok (.if_icmp .ge 7, 3) := by decide +kernel
theorem dX7_corner_50 : decode cX7_corner 50 = .ok (.iconst 0, 1) := by decide +kernel
theorem dX7_corner_51 : decode cX7_corner 51 = .ok (.goto 7, 3) := by decide +kernel
theorem dX7_corner_54 : decode cX7_corner 54 = .ok (.iload 4, 2) := by decide +kernel
theorem dX7_corner_56 : decode cX7_corner 56 = .ok (.iconst 1, 1) := by decide +kernel
theorem dX7_corner_57 : decode cX7_corner 57 = .ok (.isub, 1) := by decide +kernel
theorem dX7_corner_58 : decode cX7_corner 58 = .ok (.istore 6, 2) := by decide +kernel
theorem dX7_corner_60 : decode cX7_corner 60 = .ok (.aload_n 0, 1) := by decide +kernel
theorem dX7_corner_61 : decode cX7_corner 61 = .ok (.iload_n 1, 1) := by decide +kernel
theorem dX7_corner_62 : decode cX7_corner 62 = .ok (.invokevirtual 153, 3) := by decide +kernel
theorem dX7_corner_65 : decode cX7_corner 65 = .ok (.ifCond .eq 35, 3) := by decide +kernel
theorem dX7_corner_68 : decode cX7_corner 68 = .ok (.iload_n 3, 1) := by decide +kernel
theorem dX7_corner_69 : decode cX7_corner 69 = .ok (.ifCond .eq 13, 3) := by decide +kernel
theorem dX7_corner_72 : decode cX7_corner 72 = .ok (.iload 4, 2) := by decide +kernel
theorem dX7_corner_74 : decode cX7_corner 74 = .ok (.bipush 11, 2) := by decide +kernel
theorem dX7_corner_76 : decode cX7_corner 76 = .ok (.if_icmp .le 27, 3) := by decide +kernel
theorem dX7_corner_79 : decode cX7_corner 79 = .ok (.goto 21, 3) := by decide +kernel
theorem dX7_corner_82 : decode cX7_corner 82 = .ok (.iload 4, 2) := by decide +kernel
theorem dX7_corner_84 : decode cX7_corner 84 = .ok (.iconst 2, 1) := by decide +kernel
theorem dX7_corner_85 : decode cX7_corner 85 = .ok (.if_icmp .lt 15, 3) := by decide +kernel
theorem dX7_corner_88 : decode cX7_corner 88 = .ok (.aload_n 0, 1) := by decide +kernel
theorem dX7_corner_89 : decode cX7_corner 89 = .ok (.iload_n 1, 1) := by decide +kernel
theorem dX7_corner_90 : decode cX7_corner 90 = .ok (.iload 5, 2) := by decide +kernel
theorem dX7_corner_92 : decode cX7_corner 92 = .ok (.invokevirtual 79, 3) := by decide +kernel
theorem dX7_corner_95 : decode cX7_corner 95 = .ok (.iload 6, 2) := by decide +kernel
theorem dX7_corner_97 : decode cX7_corner 97 = .ok (.if_icmp .eq 6, 3) := by decide +kernel
theorem dX7_corner_100 : decode cX7_corner 100 = .ok (.bipush (-2), 2) := by decide +kernel
theorem dX7_corner_102 : decode cX7_corner 102 = .ok (.ireturn, 1) := by decide +kernel
theorem dX7_corner_103 : decode cX7_corner 103 = .ok (.iload_n 3, 1) := by decide +kernel
theorem dX7_corner_104 : decode cX7_corner 104 = .ok (.ifCond .eq 10, 3) := by decide +kernel
theorem dX7_corner_107 : decode cX7_corner 107 = .ok (.iload 4, 2) := by decide +kernel
theorem dX7_corner_109 : decode cX7_corner 109 = .ok (.iconst 1, 1) := by decide +kernel
theorem dX7_corner_110 : decode cX7_corner 110 = .ok (.iadd, 1) := by decide +kernel
theorem dX7_corner_111 : decode cX7_corner 111 = .ok (.goto 7, 3) := by decide +kernel
theorem dX7_corner_114 : decode cX7_corner 114 = .ok (.iload 4, 2) := by decide +kernel
theorem dX7_corner_116 : decode cX7_corner 116 = .ok (.iconst 1, 1) := by decide +kernel
theorem dX7_corner_117 : decode cX7_corner 117 = .ok (.isub, 1) := by decide +kernel
theorem dX7_corner_118 : decode cX7_corner 118 = .ok (.istore 7, 2) := by decide +kernel
theorem dX7_corner_120 : decode cX7_corner 120 = .ok (.iconst 0, 1) := by decide +kernel
theorem dX7_corner_121 : decode cX7_corner 121 = .ok (.istore 8, 2) := by decide +kernel
theorem dX7_corner_123 : decode cX7_corner 123 = .ok (.iload 8, 2) := by decide +kernel
theorem dX7_corner_125 : decode cX7_corner 125 = .ok (.iload 7, 2) := by decide +kernel
theorem dX7_corner_127 : decode cX7_corner 127 = .ok (.if_icmp .ge 126, 3) := by decide +kernel
theorem dX7_corner_130 : decode cX7_corner 130 = .ok (.iload_n 2, 1) := by decide +kernel
theorem dX7_corner_131 : decode cX7_corner 131 = .ok (.iconst 2, 1) := by decide +kernel
theorem dX7_corner_132 : decode cX7_corner 132 = .ok (.irem, 1) := by decide +kernel
theorem dX7_corner_133 : decode cX7_corner 133 = .ok (.iconst 1, 1) := by decide +kernel
theorem dX7_corner_134 : decode cX7_corner 134 = .ok (.if_icmp .ne 8, 3) := by decide +kernel
theorem dX7_corner_137 : decode cX7_corner 137 = .ok (.iload 8, 2) := by decide +kernel
theorem dX7_corner_139 : decode cX7_corner 139 = .ok (.goto 18, 3) := by decide +kernel
theorem dX7_corner_142 : decode cX7_corner 142 = .ok (.iload_n 3, 1) := by decide +kernel
theorem dX7_corner_143 : decode cX7_corner 143 = .ok (.ifCond .eq 10, 3) := by decide +kernel
theorem dX7_corner_146 : decode cX7_corner 146 = .ok (.iload 8, 2) := by decide +kernel
theorem dX7_corner_148 : decode cX7_corner 148 = .ok (.iconst 1, 1) := by decide +kernel
theorem dX7_corner_149 : decode cX7_corner 149 = .ok (.isub, 1) := by decide +kernel
theorem dX7_corner_150 : decode cX7_corner 150 = .ok (.goto 7, 3) := by decide +kernel
theorem dX7_corner_153 : decode cX7_corner 153 = .ok (.iload 8, 2) := by decide +kernel
theorem dX7_corner_155 : decode cX7_corner 155 = .ok (.iconst 1, 1) := by decide +kernel
theorem dX7_corner_156 : decode cX7_corner 156 = .ok (.iadd, 1) := by decide +kernel
theorem dX7_corner_157 : decode cX7_corner 157 = .ok (.istore 9, 2) := by decide +kernel
theorem dX7_corner_159 : decode cX7_corner 159 = .ok (.iload_n 2, 1) := by decide +kernel
theorem dX7_corner_160 : decode cX7_corner 160 = .ok (.iconst 1, 1) := by decide +kernel
theorem dX7_corner_161 : decode cX7_corner 161 = .ok (.if_icmp .le 7, 3) := by decide +kernel
theorem dX7_corner_164 : decode cX7_corner 164 = .ok (.iconst 0, 1) := by decide +kernel
theorem dX7_corner_165 : decode cX7_corner 165 = .ok (.goto 12, 3) := by decide +kernel
theorem dX7_corner_168 : decode cX7_corner 168 = .ok (.iload_n 3, 1) := by decide +kernel
theorem dX7_corner_169 : decode cX7_corner 169 = .ok (.ifCond .eq 7, 3) := by decide +kernel
theorem dX7_corner_172 : decode cX7_corner 172 = .ok (.iconst 1, 1) := by decide +kernel
theorem dX7_corner_173 : decode cX7_corner 173 = .ok (.goto 4, 3) := by decide +kernel
theorem dX7_corner_176 : decode cX7_corner 176 = .ok (.iconst (-1), 1) := by decide +kernel
theorem dX7_corner_177 : decode cX7_corner 177 = .ok (.istore 10, 2) := by decide +kernel
theorem dX7_corner_179 : decode cX7_corner 179 = .ok (.iload_n 3, 1) := by decide +kernel
theorem dX7_corner_180 : decode cX7_corner 180 = .ok (.ifCond .eq 28, 3) := by decide +kernel
theorem dX7_corner_183 : decode cX7_corner 183 = .ok (.iload_n 2, 1) := by decide +kernel
theorem dX7_corner_184 : decode cX7_corner 184 = .ok (.iconst 2, 1) := by decide +kernel
theorem dX7_corner_185 : decode cX7_corner 185 = .ok (.irem, 1) := by decide +kernel
theorem dX7_corner_186 : decode cX7_corner 186 = .ok (.ifCond .ne 11, 3) := by decide +kernel
theorem dX7_corner_189 : decode cX7_corner 189 = .ok (.iload 8, 2) := by decide +kernel
theorem dX7_corner_191 : decode cX7_corner 191 = .ok (.ifCond .ne 17, 3) := by decide +kernel
theorem dX7_corner_194 : decode cX7_corner 194 = .ok (.goto 10, 3) := by decide +kernel
theorem dX7_corner_197 : decode cX7_corner 197 = .ok (.iload 8, 2) := by decide +kernel
theorem dX7_corner_199 : decode cX7_corner 199 = .ok (.iload 4, 2) := by decide +kernel
theorem dX7_corner_201 : decode cX7_corner 201 = .ok (.if_icmp .ne 7, 3) := by decide +kernel
theorem dX7_corner_204 : decode cX7_corner 204 = .ok (.iconst 1, 1) := by decide +kernel
theorem dX7_corner_205 : decode cX7_corner 205 = .ok (.goto 4, 3) := by decide +kernel
theorem dX7_corner_208 : decode cX7_corner 208 = .ok (.iconst 0, 1) := by decide +kernel
theorem dX7_corner_209 : decode cX7_corner 209 = .ok (.istore 11, 2) := by decide +kernel
theorem dX7_corner_211 : decode cX7_corner 211 = .ok (.aload_n 0, 1) := by decide +kernel
theorem dX7_corner_212 : decode cX7_corner 212 = .ok (.getfield 29, 3) := by decide +kernel
theorem dX7_corner_215 : decode cX7_corner 215 = .ok (.iload 8, 2) := by decide +kernel
theorem dX7_corner_217 : decode cX7_corner 217 = .ok (.iload 11, 2) := by decide +kernel
theorem dX7_corner_219 : decode cX7_corner 219 = .ok (.ifCond .eq 17, 3) := by decide +kernel
theorem dX7_corner_222 : decode cX7_corner 222 = .ok (.iload_n 2, 1) := by decide +kernel
theorem dX7_corner_223 : decode cX7_corner 223 = .ok (.iconst 2, 1) := by decide +kernel
theorem dX7_corner_224 : decode cX7_corner 224 = .ok (.if_icmp .ge 7, 3) := by decide +kernel
theorem dX7_corner_227 : decode cX7_corner 227 = .ok (.iconst 0, 1) := by decide +kernel
theorem dX7_corner_228 : decode cX7_corner 228 = .ok (.goto 18, 3) := by decide +kernel
theorem dX7_corner_231 : decode cX7_corner 231 = .ok (.iload 4, 2) := by decide +kernel
theorem dX7_corner_233 : decode cX7_corner 233 = .ok (.goto 13, 3) := by decide +kernel
theorem dX7_corner_236 : decode cX7_corner 236 = .ok (.aload_n 0, 1) := by decide +kernel
theorem dX7_corner_237 : decode cX7_corner 237 = .ok (.iload_n 1, 1) := by decide +kernel
theorem dX7_corner_238 : decode cX7_corner 238 = .ok (.iload 9, 2) := by decide +kernel
theorem dX7_corner_240 : decode cX7_corner 240 = .ok (.invokevirtual 79, 3) := by decide +kernel
theorem dX7_corner_243 : decode cX7_corner 243 = .ok (.iload 10, 2) := by decide +kernel
theorem dX7_corner_245 : decode cX7_corner 245 = .ok (.iadd, 1) := by decide +kernel
theorem dX7_corner_246 : decode cX7_corner 246 = .ok (.iastore, 1) := by decide +kernel
theorem dX7_corner_247 : decode cX7_corner 247 = .ok (.iinc 8 1, 3) := by decide +kernel
theorem dX7_corner_250 : decode cX7_corner 250 = .ok (.goto (-127), 3) := by decide +kernel
theorem dX7_corner_253 : decode cX7_corner 253 = .ok (.aload_n 0, 1) := by decide +kernel
theorem dX7_corner_254 : decode cX7_corner 254 = .ok (.getfield 7, 3) := by decide +kernel
theorem dX7_corner_257 : decode cX7_corner 257 = .ok (.iload_n 1, 1) := by decide +kernel
theorem dX7_corner_258 : decode cX7_corner 258 = .ok (.iload 7, 2) := by decide +kernel
theorem dX7_corner_260 : decode cX7_corner 260 = .ok (.iastore, 1) := by decide +kernel
theorem dX7_corner_261 : decode cX7_corner 261 = .ok (.aload_n 0, 1) := by decide +kernel
theorem dX7_corner_262 : decode cX7_corner 262 = .ok (.getfield 13, 3) := by decide +kernel
theorem dX7_corner_265 : decode cX7_corner 265 = .ok (.iload_n 1, 1) := by decide +kernel
theorem dX7_corner_266 : decode cX7_corner 266 = .ok (.iload 7, 2) := by decide +kernel
theorem dX7_corner_268 : decode cX7_corner 268 = .ok (.iastore, 1) := by decide +kernel
theorem dX7_corner_269 : decode cX7_corner 269 = .ok (.iconst 0, 1) := by decide +kernel
theorem dX7_corner_270 : decode cX7_corner 270 = .ok (.istore 8, 2) := by decide +kernel
theorem dX7_corner_272 : decode cX7_corner 272 = .ok (.iload 8, 2) := by decide +kernel
theorem dX7_corner_274 : decode cX7_corner 274 = .ok (.iload 7, 2) := by decide +kernel
theorem dX7_corner_276 : decode cX7_corner 276 = .ok (.if_icmp .ge 28, 3) := by decide +kernel
theorem dX7_corner_279 : decode cX7_corner 279 = .ok (.aload_n 0, 1) := by decide +kernel
theorem dX7_corner_280 : decode cX7_corner 280 = .ok (.getfield 16, 3) := by decide +kernel
theorem dX7_corner_283 : decode cX7_corner 283 = .ok (.bipush 12, 2) := by decide +kernel
theorem dX7_corner_285 : decode cX7_corner 285 = .ok (.iload_n 1, 1) := by decide +kernel
theorem dX7_corner_286 : decode cX7_corner 286 = .ok (.imul, 1) := by decide +kernel
theorem dX7_corner_287 : decode cX7_corner 287 = .ok (.iload 8, 2) := by decide +kernel
theorem dX7_corner_289 : decode cX7_corner 289 = .ok (.iadd, 1) := by decide +kernel
theorem dX7_corner_290 : decode cX7_corner 290 = .ok (.aload_n 0, 1) := by decide +kernel
theorem dX7_corner_291 : decode cX7_corner 291 = .ok (.getfield 29, 3) := by decide +kernel
theorem dX7_corner_294 : decode cX7_corner 294 = .ok (.iload 8, 2) := by decide +kernel
theorem dX7_corner_296 : decode cX7_corner 296 = .ok (.iaload, 1) := by decide +kernel
theorem dX7_corner_297 : decode cX7_corner 297 = .ok (.iastore, 1) := by decide +kernel
theorem dX7_corner_298 : decode cX7_corner 298 = .ok (.iinc 8 1, 3) := by decide +kernel
theorem dX7_corner_301 : decode cX7_corner 301 = .ok (.goto (-29), 3) := by decide +kernel
theorem dX7_corner_304 : decode cX7_corner 304 = .ok (.iload 7, 2) := by decide +kernel
theorem dX7_corner_306 : decode cX7_corner 306 = .ok (.ireturn, 1) := by decide +kernel
theorem dX7_isHeard_0 : decode cX7_isHeard 0 = .ok (.iconst 0, 1) := by decide +kernel
theorem dX7_isHeard_1 : decode cX7_isHeard 1 = .ok (.istore_n 3, 1) := by decide +kernel
theorem dX7_isHeard_2 : decode cX7_isHeard 2 = .ok (.iconst 0, 1) := by decide +kernel
theorem dX7_isHeard_3 : decode cX7_isHeard 3 = .ok (.istore 4, 2) := by decide +kernel
theorem dX7_isHeard_5 : decode cX7_isHeard 5 = .ok (.iload 4, 2) := by decide +kernel
theorem dX7_isHeard_7 : decode cX7_isHeard 7 = .ok (.aload_n 0, 1) := by decide +kernel
theorem dX7_isHeard_8 : decode cX7_isHeard 8 = .ok (.getfield 164, 3) := by decide +kernel
theorem dX7_isHeard_11 : decode cX7_isHeard 11 = .ok (.if_icmp .ge 41, 3) := by decide +kernel
theorem dX7_isHeard_14 : decode cX7_isHeard 14 = .ok (.iload_n 3, 1) := by decide +kernel
theorem dX7_isHeard_15 : decode cX7_isHeard 15 = .ok (.ifCond .ne 25, 3) := by decide +kernel
theorem dX7_isHeard_18 : decode cX7_isHeard 18 = .ok (.aload_n 0, 1) := by decide +kernel
theorem dX7_isHeard_19 : decode cX7_isHeard 19 = .ok (.getfield 23, 3) := by decide +kernel
theorem dX7_isHeard_22 : decode cX7_isHeard 22 = .ok (.iload 4, 2) := by decide +kernel
theorem dX7_isHeard_24 : decode cX7_isHeard 24 = .ok (.iaload, 1) := by decide +kernel
theorem dX7_isHeard_25 : decode cX7_isHeard 25 = .ok (.iload_n 1, 1) := by decide +kernel
theorem dX7_isHeard_26 : decode cX7_isHeard 26 = .ok (.if_icmp .ne 18, 3) := by decide +kernel
theorem dX7_isHeard_29 : decode cX7_isHeard 29 = .ok (.aload_n 0, 1) := by decide +kernel
theorem dX7_isHeard_30 : decode cX7_isHeard 30 = .ok (.getfield 26, 3) := by decide +kernel
theorem dX7_isHeard_33 : decode cX7_isHeard 33 = .ok (.iload 4, 2) := by decide +kernel
theorem dX7_isHeard_35 : decode cX7_isHeard 35 = .ok (.iaload, 1) := by decide +kernel
theorem dX7_isHeard_36 : decode cX7_isHeard 36 = .ok (.iload_n 2, 1) := by decide +kernel
theorem dX7_isHeard_37 : decode cX7_isHeard 37 = .ok (.if_icmp .ne 7, 3) := by decide +kernel
theorem dX7_isHeard_40 : decode cX7_isHeard 40 = .ok (.iconst 1, 1) := by decide +kernel
theorem dX7_isHeard_41 : decode cX7_isHeard 41 = .ok (.goto 4, 3) := by decide +kernel
theorem dX7_isHeard_44 : decode cX7_isHeard 44 = .ok (.iconst 0, 1) := by decide +kernel
theorem dX7_isHeard_45 : decode cX7_isHeard 45 = .ok (.istore_n 3, 1) := by decide +kernel
theorem dX7_isHeard_46 : decode cX7_isHeard 46 = .ok (.iinc 4 1, 3) := by decide +kernel
theorem dX7_isHeard_49 : decode cX7_isHeard 49 = .ok (.goto (-44), 3) := by decide +kernel
theorem dX7_isHeard_52 : decode cX7_isHeard 52 = .ok (.iload_n 3, 1) := by decide +kernel
theorem dX7_isHeard_53 : decode cX7_isHeard 53 = .ok (.ireturn, 1) := by decide +kernel
theorem dX7_hear_0 : decode cX7_hear 0 = .ok (.iload_n 1, 1) := by decide +kernel
theorem dX7_hear_1 : decode cX7_hear 1 = .ok (.i2l, 1) := by decide +kernel
theorem dX7_hear_2 : decode cX7_hear 2 = .ok (.lconst 0, 1) := by decide +kernel
theorem dX7_hear_3 : decode cX7_hear 3 = .ok (.ldc2_w 167, 3) := by decide +kernel
theorem dX7_hear_6 : decode cX7_hear 6 = .ok (.invokestatic 46, 3) := by decide +kernel
theorem dX7_hear_9 : decode cX7_hear 9 = .ok (.ifCond .eq 17, 3) := by decide +kernel
theorem dX7_hear_12 : decode cX7_hear 12 = .ok (.iload_n 2, 1) := by decide +kernel
theorem dX7_hear_13 : decode cX7_hear 13 = .ok (.i2l, 1) := by decide +kernel
theorem dX7_hear_14 : decode cX7_hear 14 = .ok (.ldc2_w 169, 3) := by decide +kernel
theorem dX7_hear_17 : decode cX7_hear 17 = .ok (.ldc2_w 171, 3) := by decide +kernel
theorem dX7_hear_20 : decode cX7_hear 20 = .ok (.invokestatic 46, 3) := by decide +kernel
theorem dX7_hear_23 : decode cX7_hear 23 = .ok (.ifCond .ne 5, 3) := by decide +kernel
theorem dX7_hear_26 : decode cX7_hear 26 = .ok (.iconst (-1), 1) := by decide +kernel
theorem dX7_hear_27 : decode cX7_hear 27 = .ok (.ireturn, 1) := by decide +kernel
theorem dX7_hear_28 : decode cX7_hear 28 = .ok (.aload_n 0, 1) := by decide +kernel
theorem dX7_hear_29 : decode cX7_hear 29 = .ok (.iload_n 1, 1) := by decide +kernel
theorem dX7_hear_30 : decode cX7_hear 30 = .ok (.iload_n 2, 1) := by decide +kernel
theorem dX7_hear_31 : decode cX7_hear 31 = .ok (.invokevirtual 173, 3) := by decide +kernel
theorem dX7_hear_34 : decode cX7_hear 34 = .ok (.ifCond .eq 6, 3) := by decide +kernel
theorem dX7_hear_37 : decode cX7_hear 37 = .ok (.bipush (-2), 2) := by decide +kernel
theorem dX7_hear_39 : decode cX7_hear 39 = .ok (.ireturn, 1) := by decide +kernel
theorem dX7_hear_40 : decode cX7_hear 40 = .ok (.aload_n 0, 1) := by decide +kernel
theorem dX7_hear_41 : decode cX7_hear 41 = .ok (.getfield 164, 3) := by decide +kernel
theorem dX7_hear_44 : decode cX7_hear 44 = .ok (.bipush 40, 2) := by decide +kernel
theorem dX7_hear_46 : decode cX7_hear 46 = .ok (.if_icmp .ne 6, 3) := by decide +kernel
theorem dX7_hear_49 : decode cX7_hear 49 = .ok (.bipush (-3), 2) := by decide +kernel
theorem dX7_hear_51 : decode cX7_hear 51 = .ok (.ireturn, 1) := by decide +kernel
theorem dX7_hear_52 : decode cX7_hear 52 = .ok (.aload_n 0, 1) := by decide +kernel
theorem dX7_hear_53 : decode cX7_hear 53 = .ok (.getfield 23, 3) := by decide +kernel
theorem dX7_hear_56 : decode cX7_hear 56 = .ok (.aload_n 0, 1) := by decide +kernel
theorem dX7_hear_57 : decode cX7_hear 57 = .ok (.getfield 164, 3) := by decide +kernel
theorem dX7_hear_60 : decode cX7_hear 60 = .ok (.iload_n 1, 1) := by decide +kernel
theorem dX7_hear_61 : decode cX7_hear 61 = .ok (.iastore, 1) := by decide +kernel
theorem dX7_hear_62 : decode cX7_hear 62 = .ok (.aload_n 0, 1) := by decide +kernel
theorem dX7_hear_63 : decode cX7_hear 63 = .ok (.getfield 26, 3) := by decide +kernel
theorem dX7_hear_66 : decode cX7_hear 66 = .ok (.aload_n 0, 1) := by decide +kernel
theorem dX7_hear_67 : decode cX7_hear 67 = .ok (.getfield 164, 3) := by decide +kernel
theorem dX7_hear_70 : decode cX7_hear 70 = .ok (.iload_n 2, 1) := by decide +kernel
theorem dX7_hear_71 : decode cX7_hear 71 = .ok (.iastore, 1) := by decide +kernel
theorem dX7_hear_72 : decode cX7_hear 72 = .ok (.aload_n 0, 1) := by decide +kernel
theorem dX7_hear_73 : decode cX7_hear 73 = .ok (.dup, 1) := by decide +kernel
theorem dX7_hear_74 : decode cX7_hear 74 = .ok (.getfield 164, 3) := by decide +kernel
theorem dX7_hear_77 : decode cX7_hear 77 = .ok (.iconst 1, 1) := by decide +kernel
theorem dX7_hear_78 : decode cX7_hear 78 = .ok (.iadd, 1) := by decide +kernel
theorem dX7_hear_79 : decode cX7_hear 79 = .ok (.putfield 164, 3) := by decide +kernel
theorem dX7_hear_82 : decode cX7_hear 82 = .ok (.aload_n 0, 1) := by decide +kernel
theorem dX7_hear_83 : decode cX7_hear 83 = .ok (.getfield 164, 3) := by decide +kernel
theorem dX7_hear_86 : decode cX7_hear 86 = .ok (.ireturn, 1) := by decide +kernel
theorem dX7_still_0 : decode cX7_still 0 = .ok (.aload_n 0, 1) := by decide +kernel
theorem dX7_still_1 : decode cX7_still 1 = .ok (.getfield 164, 3) := by decide +kernel
theorem dX7_still_4 : decode cX7_still 4 = .ok (.istore_n 1, 1) := by decide +kernel
theorem dX7_still_5 : decode cX7_still 5 = .ok (.aload_n 0, 1) := by decide +kernel
theorem dX7_still_6 : decode cX7_still 6 = .ok (.iconst 0, 1) := by decide +kernel
theorem dX7_still_7 : decode cX7_still 7 = .ok (.putfield 164, 3) := by decide +kernel
theorem dX7_still_10 : decode cX7_still 10 = .ok (.iload_n 1, 1) := by decide +kernel
theorem dX7_still_11 : decode cX7_still 11 = .ok (.ireturn, 1) := by decide +kernel
theorem dX7_finds_0 : decode cX7_finds 0 = .ok (.aload_n 0, 1) := by decide +kernel
theorem dX7_finds_1 : decode cX7_finds 1 = .ok (.iconst (-1), 1) := by decide +kernel
theorem dX7_finds_2 : decode cX7_finds 2 = .ok (.putfield 177, 3) := by decide +kernel
theorem dX7_finds_5 : decode cX7_finds 5 = .ok (.iconst 0, 1) := by decide +kernel
theorem dX7_finds_6 : decode cX7_finds 6 = .ok (.istore_n 2, 1) := by decide +kernel
theorem dX7_finds_7 : decode cX7_finds 7 = .ok (.iload_n 2, 1) := by decide +kernel
theorem dX7_finds_8 : decode cX7_finds 8 = .ok (.bipush 18, 2) := by decide +kernel
theorem dX7_finds_10 : decode cX7_finds 10 = .ok (.if_icmp .gt 114, 3) := by decide +kernel
theorem dX7_finds_13 : decode cX7_finds 13 = .ok (.bipush (-20), 2) := by decide +kernel
theorem dX7_finds_15 : decode cX7_finds 15 = .ok (.istore_n 3, 1) := by decide +kernel
theorem dX7_finds_16 : decode cX7_finds 16 = .ok (.iload_n 3, 1) := by decide +kernel
theorem dX7_finds_17 : decode cX7_finds 17 = .ok (.bipush 20, 2) := by decide +kernel
theorem dX7_finds_19 : decode cX7_finds 19 = .ok (.if_icmp .gt 99, 3) := by decide +kernel
theorem dX7_finds_22 : decode cX7_finds 22 = .ok (.iconst 0, 1) := by decide +kernel
theorem dX7_finds_23 : decode cX7_finds 23 = .ok (.istore 4, 2) := by decide +kernel
theorem dX7_finds_25 : decode cX7_finds 25 = .ok (.iconst 0, 1) := by decide +kernel
theorem dX7_finds_26 : decode cX7_finds 26 = .ok (.istore 5, 2) := by decide +kernel
theorem dX7_finds_28 : decode cX7_finds 28 = .ok (.iload 5, 2) := by decide +kernel
theorem dX7_finds_30 : decode cX7_finds 30 = .ok (.aload_n 0, 1) := by decide +kernel
theorem dX7_finds_31 : decode cX7_finds 31 = .ok (.getfield 7, 3) := by decide +kernel
theorem dX7_finds_34 : decode cX7_finds 34 = .ok (.iload_n 1, 1) := by decide +kernel
theorem dX7_finds_35 : decode cX7_finds 35 = .ok (.iaload, 1) := by decide +kernel
theorem dX7_finds_36 : decode cX7_finds 36 = .ok (.if_icmp .ge 51, 3) := by decide +kernel
theorem dX7_finds_39 : decode cX7_finds 39 = .ok (.iload 4, 2) := by decide +kernel
theorem dX7_finds_41 : decode cX7_finds 41 = .ok (.aload_n 0, 1) := by decide +kernel
theorem dX7_finds_42 : decode cX7_finds 42 = .ok (.iload_n 1, 1) := by decide +kernel
theorem dX7_finds_43 : decode cX7_finds 43 = .ok (.iload 5, 2) := by decide +kernel
theorem dX7_finds_45 : decode cX7_finds 45 = .ok (.invokevirtual 79, 3) := by decide +kernel
theorem dX7_finds_48 : decode cX7_finds 48 = .ok (.bipush 15, 2) := by decide +kernel
theorem dX7_finds_50 : decode cX7_finds 50 = .ok (.if_icmp .ge 27, 3) := by decide +kernel
theorem dX7_finds_53 : decode cX7_finds 53 = .ok (.aload_n 0, 1) := by decide +kernel
theorem dX7_finds_54 : decode cX7_finds 54 = .ok (.iload 5, 2) := by decide +kernel
theorem dX7_finds_56 : decode cX7_finds 56 = .ok (.iload_n 2, 1) := by decide +kernel
theorem dX7_finds_57 : decode cX7_finds 57 = .ok (.iadd, 1) := by decide +kernel
theorem dX7_finds_58 : decode cX7_finds 58 = .ok (.aload_n 0, 1) := by decide +kernel
theorem dX7_finds_59 : decode cX7_finds 59 = .ok (.iload_n 1, 1) := by decide +kernel
theorem dX7_finds_60 : decode cX7_finds 60 = .ok (.iload 5, 2) := by decide +kernel
theorem dX7_finds_62 : decode cX7_finds 62 = .ok (.invokevirtual 79, 3) := by decide +kernel
theorem dX7_finds_65 : decode cX7_finds 65 = .ok (.iload_n 3, 1) := by decide +kernel
theorem dX7_finds_66 : decode cX7_finds 66 = .ok (.iadd, 1) := by decide +kernel
theorem dX7_finds_67 : decode cX7_finds 67 = .ok (.invokevirtual 173, 3) := by decide +kernel
theorem dX7_finds_70 : decode cX7_finds 70 = .ok (.ifCond .eq 7, 3) := by decide +kernel
theorem dX7_finds_73 : decode cX7_finds 73 = .ok (.iconst 1, 1) := by decide +kernel
theorem dX7_finds_74 : decode cX7_finds 74 = .ok (.goto 4, 3) := by decide +kernel
theorem dX7_finds_77 : decode cX7_finds 77 = .ok (.iconst 0, 1) := by decide +kernel
theorem dX7_finds_78 : decode cX7_finds 78 = .ok (.iadd, 1) := by decide +kernel
theorem dX7_finds_79 : decode cX7_finds 79 = .ok (.istore 4, 2) := by decide +kernel
theorem dX7_finds_81 : decode cX7_finds 81 = .ok (.iinc 5 1, 3) := by decide +kernel
theorem dX7_finds_84 : decode cX7_finds 84 = .ok (.goto (-56), 3) := by decide +kernel
theorem dX7_finds_87 : decode cX7_finds 87 = .ok (.iload 4, 2) := by decide +kernel
theorem dX7_finds_89 : decode cX7_finds 89 = .ok (.aload_n 0, 1) := by decide +kernel
theorem dX7_finds_90 : decode cX7_finds 90 = .ok (.getfield 177, 3) := by decide +kernel
theorem dX7_finds_93 : decode cX7_finds 93 = .ok (.if_icmp .le 19, 3) := by decide +kernel
theorem dX7_finds_96 : decode cX7_finds 96 = .ok (.aload_n 0, 1) := by decide +kernel
theorem dX7_finds_97 : decode cX7_finds 97 = .ok (.iload 4, 2) := by decide +kernel
theorem dX7_finds_99 : decode cX7_finds 99 = .ok (.putfield 177, 3) := by decide +kernel
theorem dX7_finds_102 : decode cX7_finds 102 = .ok (.aload_n 0, 1) := by decide +kernel
theorem dX7_finds_103 : decode cX7_finds 103 = .ok (.iload_n 2, 1) := by decide +kernel
theorem dX7_finds_104 : decode cX7_finds 104 = .ok (.putfield 180, 3) := by decide +kernel
theorem dX7_finds_107 : decode cX7_finds 107 = .ok (.aload_n 0, 1) := by decide +kernel
theorem dX7_finds_108 : decode cX7_finds 108 = .ok (.iload_n 3, 1) := by decide +kernel
theorem dX7_finds_109 : decode cX7_finds 109 = .ok (.putfield 183, 3) := by decide +kernel
theorem dX7_finds_112 : decode cX7_finds 112 = .ok (.iinc 3 1, 3) := by decide +kernel
theorem dX7_finds_115 : decode cX7_finds 115 = .ok (.goto (-99), 3) := by decide +kernel
theorem dX7_finds_118 : decode cX7_finds 118 = .ok (.iinc 2 1, 3) := by decide +kernel
theorem dX7_finds_121 : decode cX7_finds 121 = .ok (.goto (-114), 3) := by decide +kernel
theorem dX7_finds_124 : decode cX7_finds 124 = .ok (.return_, 1) := by decide +kernel
theorem dX7_found_0 : decode cX7_found 0 = .ok (.iload_n 1, 1) := by decide +kernel
theorem dX7_found_1 : decode cX7_found 1 = .ok (.invokestatic 50, 3) := by decide +kernel
theorem dX7_found_4 : decode cX7_found 4 = .ok (.ifCond .eq 15, 3) := by decide +kernel
theorem dX7_found_7 : decode cX7_found 7 = .ok (.iload_n 2, 1) := by decide +kernel
theorem dX7_found_8 : decode cX7_found 8 = .ok (.i2l, 1) := by decide +kernel
theorem dX7_found_9 : decode cX7_found 9 = .ok (.lconst 0, 1) := by decide +kernel
theorem dX7_found_10 : decode cX7_found 10 = .ok (.ldc2_w 97, 3) := by decide +kernel
theorem dX7_found_13 : decode cX7_found 13 = .ok (.invokestatic 46, 3) := by decide +kernel
theorem dX7_found_16 : decode cX7_found 16 = .ok (.ifCond .ne 6, 3) := by decide +kernel
theorem dX7_found_19 : decode cX7_found 19 = .ok (.bipush (-100), 2) := by decide +kernel
theorem dX7_found_21 : decode cX7_found 21 = .ok (.ireturn, 1) := by decide +kernel
theorem dX7_found_22 : decode cX7_found 22 = .ok (.aload_n 0, 1) := by decide +kernel
theorem dX7_found_23 : decode cX7_found 23 = .ok (.iload_n 1, 1) := by decide +kernel
theorem dX7_found_24 : decode cX7_found 24 = .ok (.invokevirtual 186, 3) := by decide +kernel
theorem dX7_found_27 : decode cX7_found 27 = .ok (.iload_n 2, 1) := by decide +kernel
theorem dX7_found_28 : decode cX7_found 28 = .ok (.ifCond .ne 10, 3) := by decide +kernel
theorem dX7_found_31 : decode cX7_found 31 = .ok (.aload_n 0, 1) := by decide +kernel
theorem dX7_found_32 : decode cX7_found 32 = .ok (.getfield 177, 3) := by decide +kernel
theorem dX7_found_35 : decode cX7_found 35 = .ok (.goto 19, 3) := by decide +kernel
theorem dX7_found_38 : decode cX7_found 38 = .ok (.iload_n 2, 1) := by decide +kernel
theorem dX7_found_39 : decode cX7_found 39 = .ok (.iconst 1, 1) := by decide +kernel
theorem dX7_found_40 : decode cX7_found 40 = .ok (.if_icmp .ne 10, 3) := by decide +kernel
theorem dX7_found_43 : decode cX7_found 43 = .ok (.aload_n 0, 1) := by decide +kernel
theorem dX7_found_44 : decode cX7_found 44 = .ok (.getfield 180, 3) := by decide +kernel
theorem dX7_found_47 : decode cX7_found 47 = .ok (.goto 7, 3) := by decide +kernel
theorem dX7_found_50 : decode cX7_found 50 = .ok (.aload_n 0, 1) := by decide +kernel
theorem dX7_found_51 : decode cX7_found 51 = .ok (.getfield 183, 3) := by decide +kernel
theorem dX7_found_54 : decode cX7_found 54 = .ok (.ireturn, 1) := by decide +kernel
theorem dX7_among_0 : decode cX7_among 0 = .ok (.iload_n 1, 1) := by decide +kernel
theorem dX7_among_1 : decode cX7_among 1 = .ok (.i2l, 1) := by decide +kernel
theorem dX7_among_2 : decode cX7_among 2 = .ok (.lconst 0, 1) := by decide +kernel
theorem dX7_among_3 : decode cX7_among 3 = .ok (.lconst 1, 1) := by decide +kernel
theorem dX7_among_4 : decode cX7_among 4 = .ok (.invokestatic 46, 3) := by decide +kernel
theorem dX7_among_7 : decode cX7_among 7 = .ok (.ifCond .ne 5, 3) := by decide +kernel
theorem dX7_among_10 : decode cX7_among 10 = .ok (.iconst (-1), 1) := by decide +kernel
theorem dX7_among_11 : decode cX7_among 11 = .ok (.ireturn, 1) := by decide +kernel
theorem dX7_among_12 : decode cX7_among 12 = .ok (.iconst 0, 1) := by decide +kernel
theorem dX7_among_13 : decode cX7_among 13 = .ok (.istore_n 2, 1) := by decide +kernel
theorem dX7_among_14 : decode cX7_among 14 = .ok (.iconst (-1), 1) := by decide +kernel
theorem dX7_among_15 : decode cX7_among 15 = .ok (.istore_n 3, 1) := by decide +kernel
theorem dX7_among_16 : decode cX7_among 16 = .ok (.iconst (-1), 1) := by decide +kernel
theorem dX7_among_17 : decode cX7_among 17 = .ok (.istore 4, 2) := by decide +kernel
theorem dX7_among_19 : decode cX7_among 19 = .ok (.iconst 0, 1) := by decide +kernel
theorem dX7_among_20 : decode cX7_among 20 = .ok (.istore 5, 2) := by decide +kernel
theorem dX7_among_22 : decode cX7_among 22 = .ok (.iload 5, 2) := by decide +kernel
theorem dX7_among_24 : decode cX7_among 24 = .ok (.bipush 6, 2) := by decide +kernel
theorem dX7_among_26 : decode cX7_among 26 = .ok (.if_icmp .ge 52, 3) := by decide +kernel
theorem dX7_among_29 : decode cX7_among 29 = .ok (.aload_n 0, 1) := by decide +kernel
theorem dX7_among_30 : decode cX7_among 30 = .ok (.iload 5, 2) := by decide +kernel
theorem dX7_among_32 : decode cX7_among 32 = .ok (.invokevirtual 186, 3) := by decide +kernel
theorem dX7_among_35 : decode cX7_among 35 = .ok (.aload_n 0, 1) := by decide +kernel
theorem dX7_among_36 : decode cX7_among 36 = .ok (.getfield 177, 3) := by decide +kernel
theorem dX7_among_39 : decode cX7_among 39 = .ok (.iload_n 3, 1) := by decide +kernel
theorem dX7_among_40 : decode cX7_among 40 = .ok (.if_icmp .le 17, 3) := by decide +kernel
theorem dX7_among_43 : decode cX7_among 43 = .ok (.iload_n 3, 1) := by decide +kernel
theorem dX7_among_44 : decode cX7_among 44 = .ok (.istore 4, 2) := by decide +kernel
theorem dX7_among_46 : decode cX7_among 46 = .ok (.aload_n 0, 1) := by decide +kernel
theorem dX7_among_47 : decode cX7_among 47 = .ok (.getfield 177, 3) := by decide +kernel
theorem dX7_among_50 : decode cX7_among 50 = .ok (.istore_n 3, 1) := by decide +kernel
theorem dX7_among_51 : decode cX7_among 51 = .ok (.iload 5, 2) := by decide +kernel
theorem dX7_among_53 : decode cX7_among 53 = .ok (.istore_n 2, 1) := by decide +kernel
theorem dX7_among_54 : decode cX7_among 54 = .ok (.goto 18, 3) := by decide +kernel
theorem dX7_among_57 : decode cX7_among 57 = .ok (.aload_n 0, 1) := by decide +kernel
theorem dX7_among_58 : decode cX7_among 58 = .ok (.getfield 177, 3) := by decide +kernel
theorem dX7_among_61 : decode cX7_among 61 = .ok (.iload 4, 2) := by decide +kernel
theorem dX7_among_63 : decode cX7_among 63 = .ok (.if_icmp .le 9, 3) := by decide +kernel
theorem dX7_among_66 : decode cX7_among 66 = .ok (.aload_n 0, 1) := by decide +kernel
theorem dX7_among_67 : decode cX7_among 67 = .ok (.getfield 177, 3) := by decide +kernel
theorem dX7_among_70 : decode cX7_among 70 = .ok (.istore 4, 2) := by decide +kernel
theorem dX7_among_72 : decode cX7_among 72 = .ok (.iinc 5 1, 3) := by decide +kernel
theorem dX7_among_75 : decode cX7_among 75 = .ok (.goto (-53), 3) := by decide +kernel
theorem dX7_among_78 : decode cX7_among 78 = .ok (.iload_n 1, 1) := by decide +kernel
theorem dX7_among_79 : decode cX7_among 79 = .ok (.ifCond .ne 7, 3) := by decide +kernel
theorem dX7_among_82 : decode cX7_among 82 = .ok (.iload_n 2, 1) := by decide +kernel
theorem dX7_among_83 : decode cX7_among 83 = .ok (.goto 7, 3) := by decide +kernel
theorem dX7_among_86 : decode cX7_among 86 = .ok (.iload_n 3, 1) := by decide +kernel
theorem dX7_among_87 : decode cX7_among 87 = .ok (.iload 4, 2) := by decide +kernel
theorem dX7_among_89 : decode cX7_among 89 = .ok (.isub, 1) := by decide +kernel
theorem dX7_among_90 : decode cX7_among 90 = .ok (.ireturn, 1) := by decide +kernel
theorem dX7_count_0 : decode cX7_count 0 = .ok (.iconst 0, 1) := by decide +kernel
theorem dX7_count_1 : decode cX7_count 1 = .ok (.istore_n 2, 1) := by decide +kernel
theorem dX7_count_2 : decode cX7_count 2 = .ok (.iconst 0, 1) := by decide +kernel
theorem dX7_count_3 : decode cX7_count 3 = .ok (.istore_n 3, 1) := by decide +kernel
theorem dX7_count_4 : decode cX7_count 4 = .ok (.iconst 0, 1) := by decide +kernel
theorem dX7_count_5 : decode cX7_count 5 = .ok (.istore 4, 2) := by decide +kernel
theorem dX7_count_7 : decode cX7_count 7 = .ok (.iload 4, 2) := by decide +kernel
theorem dX7_count_9 : decode cX7_count 9 = .ok (.bipush 6, 2) := by decide +kernel
theorem dX7_count_11 : decode cX7_count 11 = .ok (.if_icmp .ge 61, 3) := by decide +kernel
theorem dX7_count_14 : decode cX7_count 14 = .ok (.iload_n 3, 1) := by decide +kernel
theorem dX7_count_15 : decode cX7_count 15 = .ok (.aload_n 0, 1) := by decide +kernel
theorem dX7_count_16 : decode cX7_count 16 = .ok (.getfield 7, 3) := by decide +kernel
theorem dX7_count_19 : decode cX7_count 19 = .ok (.iload 4, 2) := by decide +kernel
theorem dX7_count_21 : decode cX7_count 21 = .ok (.iaload, 1) := by decide +kernel
theorem dX7_count_22 : decode cX7_count 22 = .ok (.iadd, 1) := by decide +kernel
theorem dX7_count_23 : decode cX7_count 23 = .ok (.istore_n 3, 1) := by decide +kernel
theorem dX7_count_24 : decode cX7_count 24 = .ok (.iconst 0, 1) := by decide +kernel
theorem dX7_count_25 : decode cX7_count 25 = .ok (.istore 5, 2) := by decide +kernel
theorem dX7_count_27 : decode cX7_count 27 = .ok (.iload 5, 2) := by decide +kernel
theorem dX7_count_29 : decode cX7_count 29 = .ok (.aload_n 0, 1) := by decide +kernel
theorem dX7_count_30 : decode cX7_count 30 = .ok (.getfield 7, 3) := by decide +kernel
theorem dX7_count_33 : decode cX7_count 33 = .ok (.iload 4, 2) := by decide +kernel
theorem dX7_count_35 : decode cX7_count 35 = .ok (.iaload, 1) := by decide +kernel
theorem dX7_count_36 : decode cX7_count 36 = .ok (.if_icmp .ge 30, 3) := by decide +kernel
theorem dX7_count_39 : decode cX7_count 39 = .ok (.iload_n 2, 1) := by decide +kernel
theorem dX7_count_40 : decode cX7_count 40 = .ok (.aload_n 0, 1) := by decide +kernel
theorem dX7_count_41 : decode cX7_count 41 = .ok (.iload 4, 2) := by decide +kernel
theorem dX7_count_43 : decode cX7_count 43 = .ok (.iload 5, 2) := by decide +kernel
theorem dX7_count_45 : decode cX7_count 45 = .ok (.invokevirtual 79, 3) := by decide +kernel
theorem dX7_count_48 : decode cX7_count 48 = .ok (.bipush 15, 2) := by decide +kernel
theorem dX7_count_50 : decode cX7_count 50 = .ok (.if_icmp .ge 7, 3) := by decide +kernel
theorem dX7_count_53 : decode cX7_count 53 = .ok (.iconst 1, 1) := by decide +kernel
theorem dX7_count_54 : decode cX7_count 54 = .ok (.goto 4, 3) := by decide +kernel
theorem dX7_count_57 : decode cX7_count 57 = .ok (.iconst 0, 1) := by decide +kernel
theorem dX7_count_58 : decode cX7_count 58 = .ok (.iadd, 1) := by decide +kernel
theorem dX7_count_59 : decode cX7_count 59 = .ok (.istore_n 2, 1) := by decide +kernel
theorem dX7_count_60 : decode cX7_count 60 = .ok (.iinc 5 1, 3) := by decide +kernel
theorem dX7_count_63 : decode cX7_count 63 = .ok (.goto (-36), 3) := by decide +kernel
theorem dX7_count_66 : decode cX7_count 66 = .ok (.iinc 4 1, 3) := by decide +kernel
theorem dX7_count_69 : decode cX7_count 69 = .ok (.goto (-62), 3) := by decide +kernel
theorem dX7_count_72 : decode cX7_count 72 = .ok (.iload_n 1, 1) := by decide +kernel
theorem dX7_count_73 : decode cX7_count 73 = .ok (.ifCond .ne 10, 3) := by decide +kernel
theorem dX7_count_76 : decode cX7_count 76 = .ok (.aload_n 0, 1) := by decide +kernel
theorem dX7_count_77 : decode cX7_count 77 = .ok (.getfield 60, 3) := by decide +kernel
theorem dX7_count_80 : decode cX7_count 80 = .ok (.goto 34, 3) := by decide +kernel
theorem dX7_count_83 : decode cX7_count 83 = .ok (.iload_n 1, 1) := by decide +kernel
theorem dX7_count_84 : decode cX7_count 84 = .ok (.iconst 1, 1) := by decide +kernel
theorem dX7_count_85 : decode cX7_count 85 = .ok (.if_icmp .ne 7, 3) := by decide +kernel
theorem dX7_count_88 : decode cX7_count 88 = .ok (.iload_n 2, 1) := by decide +kernel
theorem dX7_count_89 : decode cX7_count 89 = .ok (.goto 25, 3) := by decide +kernel
theorem dX7_count_92 : decode cX7_count 92 = .ok (.iload_n 1, 1) := by decide +kernel
theorem dX7_count_93 : decode cX7_count 93 = .ok (.iconst 2, 1) := by decide +kernel
theorem dX7_count_94 : decode cX7_count 94 = .ok (.if_icmp .ne 10, 3) := by decide +kernel
theorem dX7_count_97 : decode cX7_count 97 = .ok (.aload_n 0, 1) := by decide +kernel
theorem dX7_count_98 : decode cX7_count 98 = .ok (.getfield 164, 3) := by decide +kernel
theorem dX7_count_101 : decode cX7_count 101 = .ok (.goto 13, 3) := by decide +kernel
theorem dX7_count_104 : decode cX7_count 104 = .ok (.iload_n 1, 1) := by decide +kernel
theorem dX7_count_105 : decode cX7_count 105 = .ok (.iconst 3, 1) := by decide +kernel
theorem dX7_count_106 : decode cX7_count 106 = .ok (.if_icmp .ne 7, 3) := by decide +kernel
theorem dX7_count_109 : decode cX7_count 109 = .ok (.iload_n 3, 1) := by decide +kernel
theorem dX7_count_110 : decode cX7_count 110 = .ok (.goto 4, 3) := by decide +kernel
theorem dX7_count_113 : decode cX7_count 113 = .ok (.iconst (-1), 1) := by decide +kernel
theorem dX7_count_114 : decode cX7_count 114 = .ok (.ireturn, 1) := by decide +kernel
theorem dJ6_bitCount_0f7a4_0 : decode cJ6_bitCount_0f7a4 0 = .ok (.iload_n 0, 1) := by decide +kernel
theorem dJ6_bitCount_0f7a4_1 : decode cJ6_bitCount_0f7a4 1 = .ok (.iload_n 0, 1) := by decide +kernel
theorem dJ6_bitCount_0f7a4_2 : decode cJ6_bitCount_0f7a4 2 = .ok (.iconst 1, 1) := by decide +kernel
theorem dJ6_bitCount_0f7a4_3 : decode cJ6_bitCount_0f7a4 3 = .ok (.iushr, 1) := by decide +kernel
theorem dJ6_bitCount_0f7a4_4 : decode cJ6_bitCount_0f7a4 4 = .ok (.ldc_w 265, 3) := by decide +kernel
theorem dJ6_bitCount_0f7a4_7 : decode cJ6_bitCount_0f7a4 7 = .ok (.iand, 1) := by decide +kernel
theorem dJ6_bitCount_0f7a4_8 : decode cJ6_bitCount_0f7a4 8 = .ok (.isub, 1) := by decide +kernel
theorem dJ6_bitCount_0f7a4_9 : decode cJ6_bitCount_0f7a4 9 = .ok (.istore_n 0, 1) := by decide +kernel
theorem dJ6_bitCount_0f7a4_10 : decode cJ6_bitCount_0f7a4 10 = .ok (.iload_n 0, 1) := by decide +kernel
theorem dJ6_bitCount_0f7a4_11 : decode cJ6_bitCount_0f7a4 11 = .ok (.ldc_w 266, 3) := by decide +kernel
theorem dJ6_bitCount_0f7a4_14 : decode cJ6_bitCount_0f7a4 14 = .ok (.iand, 1) := by decide +kernel
theorem dJ6_bitCount_0f7a4_15 : decode cJ6_bitCount_0f7a4 15 = .ok (.iload_n 0, 1) := by decide +kernel
theorem dJ6_bitCount_0f7a4_16 : decode cJ6_bitCount_0f7a4 16 = .ok (.iconst 2, 1) := by decide +kernel
theorem dJ6_bitCount_0f7a4_17 : decode cJ6_bitCount_0f7a4 17 = .ok (.iushr, 1) := by decide +kernel
theorem dJ6_bitCount_0f7a4_18 : decode cJ6_bitCount_0f7a4 18 = .ok (.ldc_w 266, 3) := by decide +kernel
theorem dJ6_bitCount_0f7a4_21 : decode cJ6_bitCount_0f7a4 21 = .ok (.iand, 1) := by decide +kernel
theorem dJ6_bitCount_0f7a4_22 : decode cJ6_bitCount_0f7a4 22 = .ok (.iadd, 1) := by decide +kernel
theorem dJ6_bitCount_0f7a4_23 : decode cJ6_bitCount_0f7a4 23 = .ok (.istore_n 0, 1) := by decide +kernel
theorem dJ6_bitCount_0f7a4_24 : decode cJ6_bitCount_0f7a4 24 = .ok (.iload_n 0, 1) := by decide +kernel
theorem dJ6_bitCount_0f7a4_25 : decode cJ6_bitCount_0f7a4 25 = .ok (.iload_n 0, 1) := by decide +kernel
theorem dJ6_bitCount_0f7a4_26 : decode cJ6_bitCount_0f7a4 26 = .ok (.iconst 4, 1) := by decide +kernel
theorem dJ6_bitCount_0f7a4_27 : decode cJ6_bitCount_0f7a4 27 = .ok (.iushr, 1) := by decide +kernel
theorem dJ6_bitCount_0f7a4_28 : decode cJ6_bitCount_0f7a4 28 = .ok (.iadd, 1) := by decide +kernel
theorem dJ6_bitCount_0f7a4_29 : decode cJ6_bitCount_0f7a4 29 = .ok (.ldc_w 267, 3) := by decide +kernel
theorem dJ6_bitCount_0f7a4_32 : decode cJ6_bitCount_0f7a4 32 = .ok (.iand, 1) := by decide +kernel
theorem dJ6_bitCount_0f7a4_33 : decode cJ6_bitCount_0f7a4 33 = .ok (.istore_n 0, 1) := by decide +kernel
theorem dJ6_bitCount_0f7a4_34 : decode cJ6_bitCount_0f7a4 34 = .ok (.iload_n 0, 1) := by decide +kernel
theorem dJ6_bitCount_0f7a4_35 : decode cJ6_bitCount_0f7a4 35 = .ok (.iload_n 0, 1) := by decide +kernel
theorem dJ6_bitCount_0f7a4_36 : decode cJ6_bitCount_0f7a4 36 = .ok (.bipush 8, 2) := by decide +kernel
theorem dJ6_bitCount_0f7a4_38 : decode cJ6_bitCount_0f7a4 38 = .ok (.iushr, 1) := by decide +kernel
theorem dJ6_bitCount_0f7a4_39 : decode cJ6_bitCount_0f7a4 39 = .ok (.iadd, 1) := by decide +kernel
theorem dJ6_bitCount_0f7a4_40 : decode cJ6_bitCount_0f7a4 40 = .ok (.istore_n 0, 1) := by decide +kernel
theorem dJ6_bitCount_0f7a4_41 : decode cJ6_bitCount_0f7a4 41 = .ok (.iload_n 0, 1) := by decide +kernel
theorem dJ6_bitCount_0f7a4_42 : decode cJ6_bitCount_0f7a4 42 = .ok (.iload_n 0, 1) := by decide +kernel
theorem dJ6_bitCount_0f7a4_43 : decode cJ6_bitCount_0f7a4 43 = .ok (.bipush 16, 2) := by decide +kernel
theorem dJ6_bitCount_0f7a4_45 : decode cJ6_bitCount_0f7a4 45 = .ok (.iushr, 1) := by decide +kernel
theorem dJ6_bitCount_0f7a4_46 : decode cJ6_bitCount_0f7a4 46 = .ok (.iadd, 1) := by decide +kernel
theorem dJ6_bitCount_0f7a4_47 : decode cJ6_bitCount_0f7a4 47 = .ok (.istore_n 0, 1) := by decide +kernel
theorem dJ6_bitCount_0f7a4_48 : decode cJ6_bitCount_0f7a4 48 = .ok (.iload_n 0, 1) := by decide +kernel
theorem dJ6_bitCount_0f7a4_49 : decode cJ6_bitCount_0f7a4 49 = .ok (.bipush 63, 2) := by decide +kernel
theorem dJ6_bitCount_0f7a4_51 : decode cJ6_bitCount_0f7a4 51 = .ok (.iand, 1) := by decide +kernel
theorem dJ6_bitCount_0f7a4_52 : decode cJ6_bitCount_0f7a4 52 = .ok (.ireturn, 1) := by decide +kernel
theorem dJ9_floorMod_7cf53_0 : decode cJ9_floorMod_7cf53 0 = .ok (.iload_n 0, 1) := by decide +kernel
theorem dJ9_floorMod_7cf53_1 : decode cJ9_floorMod_7cf53 1 = .ok (.iload_n 1, 1) := by decide +kernel
theorem dJ9_floorMod_7cf53_2 : decode cJ9_floorMod_7cf53 2 = .ok (.irem, 1) := by decide +kernel
theorem dJ9_floorMod_7cf53_3 : decode cJ9_floorMod_7cf53 3 = .ok (.istore_n 2, 1) := by decide +kernel
theorem dJ9_floorMod_7cf53_4 : decode cJ9_floorMod_7cf53 4 = .ok (.iload_n 0, 1) := by decide +kernel
theorem dJ9_floorMod_7cf53_5 : decode cJ9_floorMod_7cf53 5 = .ok (.iload_n 1, 1) := by decide +kernel
theorem dJ9_floorMod_7cf53_6 : decode cJ9_floorMod_7cf53 6 = .ok (.ixor, 1) := by decide +kernel
theorem dJ9_floorMod_7cf53_7 : decode cJ9_floorMod_7cf53 7 = .ok (.ifCond .ge 11, 3) := by decide +kernel
theorem dJ9_floorMod_7cf53_10 : decode cJ9_floorMod_7cf53 10 = .ok (.iload_n 2, 1) := by decide +kernel
theorem dJ9_floorMod_7cf53_11 : decode cJ9_floorMod_7cf53 11 = .ok (.ifCond .eq 7, 3) := by decide +kernel
theorem dJ9_floorMod_7cf53_14 : decode cJ9_floorMod_7cf53 14 = .ok (.iload_n 2, 1) := by decide +kernel
theorem dJ9_floorMod_7cf53_15 : decode cJ9_floorMod_7cf53 15 = .ok (.iload_n 1, 1) := by decide +kernel
theorem dJ9_floorMod_7cf53_16 : decode cJ9_floorMod_7cf53 16 = .ok (.iadd, 1) := by decide +kernel
theorem dJ9_floorMod_7cf53_17 : decode cJ9_floorMod_7cf53 17 = .ok (.ireturn, 1) := by decide +kernel
theorem dJ9_floorMod_7cf53_18 : decode cJ9_floorMod_7cf53 18 = .ok (.iload_n 2, 1) := by decide +kernel
theorem dJ9_floorMod_7cf53_19 : decode cJ9_floorMod_7cf53 19 = .ok (.ireturn, 1) := by decide +kernel
theorem dJ7_fill_53178_0 : decode cJ7_fill_53178 0 = .ok (.iconst 0, 1) := by decide +kernel
theorem dJ7_fill_53178_1 : decode cJ7_fill_53178 1 = .ok (.istore_n 2, 1) := by decide +kernel
theorem dJ7_fill_53178_2 : decode cJ7_fill_53178 2 = .ok (.aload_n 0, 1) := by decide +kernel
theorem dJ7_fill_53178_3 : decode cJ7_fill_53178 3 = .ok (.arraylength, 1) := by decide +kernel
theorem dJ7_fill_53178_4 : decode cJ7_fill_53178 4 = .ok (.istore_n 3, 1) := by decide +kernel
theorem dJ7_fill_53178_5 : decode cJ7_fill_53178 5 = .ok (.iload_n 2, 1) := by decide +kernel
theorem dJ7_fill_53178_6 : decode cJ7_fill_53178 6 = .ok (.iload_n 3, 1) := by decide +kernel
theorem dJ7_fill_53178_7 : decode cJ7_fill_53178 7 = .ok (.if_icmp .ge 13, 3) := by decide +kernel
theorem dJ7_fill_53178_10 : decode cJ7_fill_53178 10 = .ok (.aload_n 0, 1) := by decide +kernel
theorem dJ7_fill_53178_11 : decode cJ7_fill_53178 11 = .ok (.iload_n 2, 1) := by decide +kernel
theorem dJ7_fill_53178_12 : decode cJ7_fill_53178 12 = .ok (.iload_n 1, 1) := by decide +kernel
theorem dJ7_fill_53178_13 : decode cJ7_fill_53178 13 = .ok (.iastore, 1) := by decide +kernel
theorem dJ7_fill_53178_14 : decode cJ7_fill_53178 14 = .ok (.iinc 2 1, 3) := by decide +kernel
theorem dJ7_fill_53178_17 : decode cJ7_fill_53178 17 = .ok (.goto (-12), 3) := by decide +kernel
theorem dJ7_fill_53178_20 : decode cJ7_fill_53178 20 = .ok (.return_, 1) := by decide +kernel
theorem dL_law_0 : decode cL_law 0 = .ok (.new 7, 3) := by decide +kernel
theorem dL_law_3 : decode cL_law 3 = .ok (.dup, 1) := by decide +kernel
theorem dL_law_4 : decode cL_law 4 = .ok (.invokespecial 9, 3) := by decide +kernel
theorem dL_law_7 : decode cL_law 7 = .ok (.astore_n 1, 1) := by decide +kernel
theorem dL_law_8 : decode cL_law 8 = .ok (.new 10, 3) := by decide +kernel
theorem dL_law_11 : decode cL_law 11 = .ok (.dup, 1) := by decide +kernel
theorem dL_law_12 : decode cL_law 12 = .ok (.invokespecial 12, 3) := by decide +kernel
theorem dL_law_15 : decode cL_law 15 = .ok (.astore_n 2, 1) := by decide +kernel
theorem dL_law_16 : decode cL_law 16 = .ok (.iconst 0, 1) := by decide +kernel
theorem dL_law_17 : decode cL_law 17 = .ok (.istore_n 3, 1) := by decide +kernel
theorem dL_law_18 : decode cL_law 18 = .ok (.iload_n 3, 1) := by decide +kernel
theorem dL_law_19 : decode cL_law 19 = .ok (.aload_n 0, 1) := by decide +kernel
theorem dL_law_20 : decode cL_law 20 = .ok (.arraylength, 1) := by decide +kernel
theorem dL_law_21 : decode cL_law 21 = .ok (.bipush 6, 2) := by decide +kernel
theorem dL_law_23 : decode cL_law 23 = .ok (.isub, 1) := by decide +kernel
theorem dL_law_24 : decode cL_law 24 = .ok (.if_icmp .gt 1165, 3) := by decide +kernel
theorem dL_law_27 : decode cL_law 27 = .ok (.aload_n 0, 1) := by decide +kernel
theorem dL_law_28 : decode cL_law 28 = .ok (.iload_n 3, 1) := by decide +kernel
theorem dL_law_29 : decode cL_law 29 = .ok (.iaload, 1) := by decide +kernel
theorem dL_law_30 : decode cL_law 30 = .ok (.bipush 31, 2) := by decide +kernel
theorem dL_law_32 : decode cL_law 32 = .ok (.iand, 1) := by decide +kernel
theorem dL_law_33 : decode cL_law 33 = .ok (.tableswitch 1150 0 25 #[119, 202, 265, 278, 291, 314, 347, 371, 424, 467, 546, 589, 632, 675, 708, 771, 804, 857, 910, 943, 966, 1025, 1058, 1071, 1104, 1127], 119) := by decide +kernel
theorem dL_law_152 : decode cL_law 152 = .ok (.aload_n 1, 1) := by decide +kernel
theorem dL_law_153 : decode cL_law 153 = .ok (.aload_n 0, 1) := by decide +kernel
theorem dL_law_154 : decode cL_law 154 = .ok (.iload_n 3, 1) := by decide +kernel
theorem dL_law_155 : decode cL_law 155 = .ok (.iconst 1, 1) := by decide +kernel
theorem dL_law_156 : decode cL_law 156 = .ok (.iadd, 1) := by decide +kernel
theorem dL_law_157 : decode cL_law 157 = .ok (.iaload, 1) := by decide +kernel
theorem dL_law_158 : decode cL_law 158 = .ok (.aload_n 0, 1) := by decide +kernel
theorem dL_law_159 : decode cL_law 159 = .ok (.iload_n 3, 1) := by decide +kernel
theorem dL_law_160 : decode cL_law 160 = .ok (.iconst 2, 1) := by decide +kernel
theorem dL_law_161 : decode cL_law 161 = .ok (.iadd, 1) := by decide +kernel
theorem dL_law_162 : decode cL_law 162 = .ok (.iaload, 1) := by decide +kernel
theorem dL_law_163 : decode cL_law 163 = .ok (.aload_n 0, 1) := by decide +kernel
theorem dL_law_164 : decode cL_law 164 = .ok (.iload_n 3, 1) := by decide +kernel
theorem dL_law_165 : decode cL_law 165 = .ok (.iconst 3, 1) := by decide +kernel
theorem dL_law_166 : decode cL_law 166 = .ok (.iadd, 1) := by decide +kernel
theorem dL_law_167 : decode cL_law 167 = .ok (.iaload, 1) := by decide +kernel
theorem dL_law_168 : decode cL_law 168 = .ok (.aload_n 0, 1) := by decide +kernel
theorem dL_law_169 : decode cL_law 169 = .ok (.iload_n 3, 1) := by decide +kernel
theorem dL_law_170 : decode cL_law 170 = .ok (.iconst 4, 1) := by decide +kernel
theorem dL_law_171 : decode cL_law 171 = .ok (.iadd, 1) := by decide +kernel
theorem dL_law_172 : decode cL_law 172 = .ok (.iaload, 1) := by decide +kernel
theorem dL_law_173 : decode cL_law 173 = .ok (.i2l, 1) := by decide +kernel
theorem dL_law_174 : decode cL_law 174 = .ok (.bipush 32, 2) := by decide +kernel
theorem dL_law_176 : decode cL_law 176 = .ok (.lshl, 1) := by decide +kernel
theorem dL_law_177 : decode cL_law 177 = .ok (.aload_n 0, 1) := by decide +kernel
theorem dL_law_178 : decode cL_law 178 = .ok (.iload_n 3, 1) := by decide +kernel
theorem dL_law_179 : decode cL_law 179 = .ok (.iconst 5, 1) := by decide +kernel
theorem dL_law_180 : decode cL_law 180 = .ok (.iadd, 1) := by decide +kernel
theorem dL_law_181 : decode cL_law 181 = .ok (.iaload, 1) := by decide +kernel
theorem dL_law_182 : decode cL_law 182 = .ok (.i2l, 1) := by decide +kernel
theorem dL_law_183 : decode cL_law 183 = .ok (.ldc2_w 13, 3) := by decide +kernel
theorem dL_law_186 : decode cL_law 186 = .ok (.land, 1) := by decide +kernel
theorem dL_law_187 : decode cL_law 187 = .ok (.lor, 1) := by decide +kernel
theorem dL_law_188 : decode cL_law 188 = .ok (.invokevirtual 15, 3) := by decide +kernel
theorem dL_law_191 : decode cL_law 191 = .ok (.aload_n 2, 1) := by decide +kernel
theorem dL_law_192 : decode cL_law 192 = .ok (.aload_n 0, 1) := by decide +kernel
theorem dL_law_193 : decode cL_law 193 = .ok (.iload_n 3, 1) := by decide +kernel
theorem dL_law_194 : decode cL_law 194 = .ok (.iconst 1, 1) := by decide +kernel
theorem dL_law_195 : decode cL_law 195 = .ok (.iadd, 1) := by decide +kernel
theorem dL_law_196 : decode cL_law 196 = .ok (.iaload, 1) := by decide +kernel
theorem dL_law_197 : decode cL_law 197 = .ok (.aload_n 0, 1) := by decide +kernel
theorem dL_law_198 : decode cL_law 198 = .ok (.iload_n 3, 1) := by decide +kernel
theorem dL_law_199 : decode cL_law 199 = .ok (.iconst 2, 1) := by decide +kernel
theorem dL_law_200 : decode cL_law 200 = .ok (.iadd, 1) := by decide +kernel
theorem dL_law_201 : decode cL_law 201 = .ok (.iaload, 1) := by decide +kernel
theorem dL_law_202 : decode cL_law 202 = .ok (.aload_n 0, 1) := by decide +kernel
theorem dL_law_203 : decode cL_law 203 = .ok (.iload_n 3, 1) := by decide +kernel
theorem dL_law_204 : decode cL_law 204 = .ok (.iconst 3, 1) := by decide +kernel
theorem dL_law_205 : decode cL_law 205 = .ok (.iadd, 1) := by decide +kernel
theorem dL_law_206 : decode cL_law 206 = .ok (.iaload, 1) := by decide +kernel
theorem dL_law_207 : decode cL_law 207 = .ok (.aload_n 0, 1) := by decide +kernel
theorem dL_law_208 : decode cL_law 208 = .ok (.iload_n 3, 1) := by decide +kernel
theorem dL_law_209 : decode cL_law 209 = .ok (.iconst 4, 1) := by decide +kernel
theorem dL_law_210 : decode cL_law 210 = .ok (.iadd, 1) := by decide +kernel
theorem dL_law_211 : decode cL_law 211 = .ok (.iaload, 1) := by decide +kernel
theorem dL_law_212 : decode cL_law 212 = .ok (.i2l, 1) := by decide +kernel
theorem dL_law_213 : decode cL_law 213 = .ok (.bipush 32, 2) := by decide +kernel
theorem dL_law_215 : decode cL_law 215 = .ok (.lshl, 1) := by decide +kernel
theorem dL_law_216 : decode cL_law 216 = .ok (.aload_n 0, 1) := by decide +kernel
theorem dL_law_217 : decode cL_law 217 = .ok (.iload_n 3, 1) := by decide +kernel
theorem dL_law_218 : decode cL_law 218 = .ok (.iconst 5, 1) := by decide +kernel
theorem dL_law_219 : decode cL_law 219 = .ok (.iadd, 1) := by decide +kernel
theorem dL_law_220 : decode cL_law 220 = .ok (.iaload, 1) := by decide +kernel
theorem dL_law_221 : decode cL_law 221 = .ok (.i2l, 1) := by decide +kernel
theorem dL_law_222 : decode cL_law 222 = .ok (.ldc2_w 13, 3) := by decide +kernel
theorem dL_law_225 : decode cL_law 225 = .ok (.land, 1) := by decide +kernel
theorem dL_law_226 : decode cL_law 226 = .ok (.lor, 1) := by decide +kernel
theorem dL_law_227 : decode cL_law 227 = .ok (.invokevirtual 19, 3) := by decide +kernel
theorem dL_law_230 : decode cL_law 230 = .ok (.if_icmp .eq 953, 3) := by decide +kernel
theorem dL_law_233 : decode cL_law 233 = .ok (.iconst 0, 1) := by decide +kernel
theorem dL_law_234 : decode cL_law 234 = .ok (.ireturn, 1) := by decide +kernel
theorem dL_law_235 : decode cL_law 235 = .ok (.aload_n 1, 1) := by decide +kernel
theorem dL_law_236 : decode cL_law 236 = .ok (.aload_n 0, 1) := by decide +kernel
theorem dL_law_237 : decode cL_law 237 = .ok (.iload_n 3, 1) := by decide +kernel
theorem dL_law_238 : decode cL_law 238 = .ok (.iconst 1, 1) := by decide +kernel
theorem dL_law_239 : decode cL_law 239 = .ok (.iadd, 1) := by decide +kernel
theorem dL_law_240 : decode cL_law 240 = .ok (.iaload, 1) := by decide +kernel
theorem dL_law_241 : decode cL_law 241 = .ok (.aload_n 0, 1) := by decide +kernel
theorem dL_law_242 : decode cL_law 242 = .ok (.iload_n 3, 1) := by decide +kernel
theorem dL_law_243 : decode cL_law 243 = .ok (.iconst 2, 1) := by decide +kernel
theorem dL_law_244 : decode cL_law 244 = .ok (.iadd, 1) := by decide +kernel
theorem dL_law_245 : decode cL_law 245 = .ok (.iaload, 1) := by decide +kernel
theorem dL_law_246 : decode cL_law 246 = .ok (.i2l, 1) := by decide +kernel
theorem dL_law_247 : decode cL_law 247 = .ok (.bipush 32, 2) := by decide +kernel
theorem dL_law_249 : decode cL_law 249 = .ok (.lshl, 1) := by decide +kernel
theorem dL_law_250 : decode cL_law 250 = .ok (.aload_n 0, 1) := by decide +kernel
theorem dL_law_251 : decode cL_law 251 = .ok (.iload_n 3, 1) := by decide +kernel
theorem dL_law_252 : decode cL_law 252 = .ok (.iconst 3, 1) := by decide +kernel
theorem dL_law_253 : decode cL_law 253 = .ok (.iadd, 1) := by decide +kernel
theorem dL_law_254 : decode cL_law 254 = .ok (.iaload, 1) := by decide +kernel
theorem dL_law_255 : decode cL_law 255 = .ok (.i2l, 1) := by decide +kernel
theorem dL_law_256 : decode cL_law 256 = .ok (.ldc2_w 13, 3) := by decide +kernel
theorem dL_law_259 : decode cL_law 259 = .ok (.land, 1) := by decide +kernel
theorem dL_law_260 : decode cL_law 260 = .ok (.lor, 1) := by decide +kernel
theorem dL_law_261 : decode cL_law 261 = .ok (.invokevirtual 20, 3) := by decide +kernel
theorem dL_law_264 : decode cL_law 264 = .ok (.aload_n 2, 1) := by decide +kernel
theorem dL_law_265 : decode cL_law 265 = .ok (.aload_n 0, 1) := by decide +kernel
theorem dL_law_266 : decode cL_law 266 = .ok (.iload_n 3, 1) := by decide +kernel
theorem dL_law_267 : decode cL_law 267 = .ok (.iconst 1, 1) := by decide +kernel
theorem dL_law_268 : decode cL_law 268 = .ok (.iadd, 1) := by decide +kernel
theorem dL_law_269 : decode cL_law 269 = .ok (.iaload, 1) := by decide +kernel
theorem dL_law_270 : decode cL_law 270 = .ok (.aload_n 0, 1) := by decide +kernel
theorem dL_law_271 : decode cL_law 271 = .ok (.iload_n 3, 1) := by decide +kernel
theorem dL_law_272 : decode cL_law 272 = .ok (.iconst 2, 1) := by decide +kernel
theorem dL_law_273 : decode cL_law 273 = .ok (.iadd, 1) := by decide +kernel
theorem dL_law_274 : decode cL_law 274 = .ok (.iaload, 1) := by decide +kernel
theorem dL_law_275 : decode cL_law 275 = .ok (.i2l, 1) := by decide +kernel
theorem dL_law_276 : decode cL_law 276 = .ok (.bipush 32, 2) := by decide +kernel
theorem dL_law_278 : decode cL_law 278 = .ok (.lshl, 1) := by decide +kernel
theorem dL_law_279 : decode cL_law 279 = .ok (.aload_n 0, 1) := by decide +kernel
theorem dL_law_280 : decode cL_law 280 = .ok (.iload_n 3, 1) := by decide +kernel
theorem dL_law_281 : decode cL_law 281 = .ok (.iconst 3, 1) := by decide +kernel
theorem dL_law_282 : decode cL_law 282 = .ok (.iadd, 1) := by decide +kernel
theorem dL_law_283 : decode cL_law 283 = .ok (.iaload, 1) := by decide +kernel
theorem dL_law_284 : decode cL_law 284 = .ok (.i2l, 1) := by decide +kernel
theorem dL_law_285 : decode cL_law 285 = .ok (.ldc2_w 13, 3) := by decide +kernel
theorem dL_law_288 : decode cL_law 288 = .ok (.land, 1) := by decide +kernel
theorem dL_law_289 : decode cL_law 289 = .ok (.lor, 1) := by decide +kernel
theorem dL_law_290 : decode cL_law 290 = .ok (.invokevirtual 24, 3) := by decide +kernel
theorem dL_law_293 : decode cL_law 293 = .ok (.if_icmp .eq 890, 3) := by decide +kernel
theorem dL_law_296 : decode cL_law 296 = .ok (.iconst 0, 1) := by decide +kernel
theorem dL_law_297 : decode cL_law 297 = .ok (.ireturn, 1) := by decide +kernel
theorem dL_law_298 : decode cL_law 298 = .ok (.aload_n 1, 1) := by decide +kernel
theorem dL_law_299 : decode cL_law 299 = .ok (.invokevirtual 25, 3) := by decide +kernel
theorem dL_law_302 : decode cL_law 302 = .ok (.aload_n 2, 1) := by decide +kernel
theorem dL_law_303 : decode cL_law 303 = .ok (.invokevirtual 29, 3) := by decide +kernel
theorem dL_law_306 : decode cL_law 306 = .ok (.if_icmp .eq 877, 3) := by decide +kernel
theorem dL_law_309 : decode cL_law 309 = .ok (.iconst 0, 1) := by decide +kernel
theorem dL_law_310 : decode cL_law 310 = .ok (.ireturn, 1) := by decide +kernel
theorem dL_law_311 : decode cL_law 311 = .ok (.aload_n 1, 1) := by decide +kernel
theorem dL_law_312 : decode cL_law 312 = .ok (.invokevirtual 30, 3) := by decide +kernel
theorem dL_law_315 : decode cL_law 315 = .ok (.aload_n 2, 1) := by decide +kernel
theorem dL_law_316 : decode cL_law 316 = .ok (.invokevirtual 33, 3) := by decide +kernel
theorem dL_law_319 : decode cL_law 319 = .ok (.if_icmp .eq 864, 3) := by decide +kernel
theorem dL_law_322 : decode cL_law 322 = .ok (.iconst 0, 1) := by decide +kernel
theorem dL_law_323 : decode cL_law 323 = .ok (.ireturn, 1) := by decide +kernel
theorem dL_law_324 : decode cL_law 324 = .ok (.aload_n 1, 1) := by decide +kernel
theorem dL_law_325 : decode cL_law 325 = .ok (.aload_n 0, 1) := by decide +kernel
theorem dL_law_326 : decode cL_law 326 = .ok (.iload_n 3, 1) := by decide +kernel
theorem dL_law_327 : decode cL_law 327 = .ok (.iconst 1, 1) := by decide +kernel
theorem dL_law_328 : decode cL_law 328 = .ok (.iadd, 1) := by decide +kernel
theorem dL_law_329 : decode cL_law 329 = .ok (.iaload, 1) := by decide +kernel
theorem dL_law_330 : decode cL_law 330 = .ok (.invokevirtual 34, 3) := by decide +kernel
theorem dL_law_333 : decode cL_law 333 = .ok (.aload_n 2, 1) := by decide +kernel
theorem dL_law_334 : decode cL_law 334 = .ok (.aload_n 0, 1) := by decide +kernel
theorem dL_law_335 : decode cL_law 335 = .ok (.iload_n 3, 1) := by decide +kernel
theorem dL_law_336 : decode cL_law 336 = .ok (.iconst 1, 1) := by decide +kernel
theorem dL_law_337 : decode cL_law 337 = .ok (.iadd, 1) := by decide +kernel
theorem dL_law_338 : decode cL_law 338 = .ok (.iaload, 1) := by decide +kernel
theorem dL_law_339 : decode cL_law 339 = .ok (.invokevirtual 38, 3) := by decide +kernel
theorem dL_law_342 : decode cL_law 342 = .ok (.if_icmp .eq 841, 3) := by decide +kernel
theorem dL_law_345 : decode cL_law 345 = .ok (.iconst 0, 1) := by decide +kernel
theorem dL_law_346 : decode cL_law 346 = .ok (.ireturn, 1) := by decide +kernel
theorem dL_law_347 : decode cL_law 347 = .ok (.aload_n 1, 1) := by decide +kernel
theorem dL_law_348 : decode cL_law 348 = .ok (.aload_n 0, 1) := by decide +kernel
theorem dL_law_349 : decode cL_law 349 = .ok (.iload_n 3, 1) := by decide +kernel
theorem dL_law_350 : decode cL_law 350 = .ok (.iconst 1, 1) := by decide +kernel
theorem dL_law_351 : decode cL_law 351 = .ok (.iadd, 1) := by decide +kernel
theorem dL_law_352 : decode cL_law 352 = .ok (.iaload, 1) := by decide +kernel
theorem dL_law_353 : decode cL_law 353 = .ok (.aload_n 0, 1) := by decide +kernel
theorem dL_law_354 : decode cL_law 354 = .ok (.iload_n 3, 1) := by decide +kernel
theorem dL_law_355 : decode cL_law 355 = .ok (.iconst 2, 1) := by decide +kernel
theorem dL_law_356 : decode cL_law 356 = .ok (.iadd, 1) := by decide +kernel
theorem dL_law_357 : decode cL_law 357 = .ok (.iaload, 1) := by decide +kernel
theorem dL_law_358 : decode cL_law 358 = .ok (.invokevirtual 39, 3) := by decide +kernel
theorem dL_law_361 : decode cL_law 361 = .ok (.aload_n 2, 1) := by decide +kernel
theorem dL_law_362 : decode cL_law 362 = .ok (.aload_n 0, 1) := by decide +kernel
theorem dL_law_363 : decode cL_law 363 = .ok (.iload_n 3, 1) := by decide +kernel
theorem dL_law_364 : decode cL_law 364 = .ok (.iconst 1, 1) := by decide +kernel
theorem dL_law_365 : decode cL_law 365 = .ok (.iadd, 1) := by decide +kernel
theorem dL_law_366 : decode cL_law 366 = .ok (.iaload, 1) := by decide +kernel
theorem dL_law_367 : decode cL_law 367 = .ok (.aload_n 0, 1) := by decide +kernel
theorem dL_law_368 : decode cL_law 368 = .ok (.iload_n 3, 1) := by decide +kernel
theorem dL_law_369 : decode cL_law 369 = .ok (.iconst 2, 1) := by decide +kernel
theorem dL_law_370 : decode cL_law 370 = .ok (.iadd, 1) := by decide +kernel
theorem dL_law_371 : decode cL_law 371 = .ok (.iaload, 1) := by decide +kernel
theorem dL_law_372 : decode cL_law 372 = .ok (.invokevirtual 43, 3) := by decide +kernel
theorem dL_law_375 : decode cL_law 375 = .ok (.if_icmp .eq 808, 3) := by decide +kernel
theorem dL_law_378 : decode cL_law 378 = .ok (.iconst 0, 1) := by decide +kernel
theorem dL_law_379 : decode cL_law 379 = .ok (.ireturn, 1) := by decide +kernel
theorem dL_law_380 : decode cL_law 380 = .ok (.aload_n 1, 1) := by decide +kernel
theorem dL_law_381 : decode cL_law 381 = .ok (.aload_n 0, 1) := by decide +kernel
theorem dL_law_382 : decode cL_law 382 = .ok (.iload_n 3, 1) := by decide +kernel
theorem dL_law_383 : decode cL_law 383 = .ok (.iconst 1, 1) := by decide +kernel
theorem dL_law_384 : decode cL_law 384 = .ok (.iadd, 1) := by decide +kernel
theorem dL_law_385 : decode cL_law 385 = .ok (.iaload, 1) := by decide +kernel
theorem dL_law_386 : decode cL_law 386 = .ok (.invokevirtual 44, 3) := by decide +kernel
theorem dL_law_389 : decode cL_law 389 = .ok (.aload_n 2, 1) := by decide +kernel
theorem dL_law_390 : decode cL_law 390 = .ok (.aload_n 0, 1) := by decide +kernel
theorem dL_law_391 : decode cL_law 391 = .ok (.iload_n 3, 1) := by decide +kernel
theorem dL_law_392 : decode cL_law 392 = .ok (.iconst 1, 1) := by decide +kernel
theorem dL_law_393 : decode cL_law 393 = .ok (.iadd, 1) := by decide +kernel
theorem dL_law_394 : decode cL_law 394 = .ok (.iaload, 1) := by decide +kernel
theorem dL_law_395 : decode cL_law 395 = .ok (.invokevirtual 48, 3) := by decide +kernel
theorem dL_law_398 : decode cL_law 398 = .ok (.lcmp, 1) := by decide +kernel
theorem dL_law_399 : decode cL_law 399 = .ok (.ifCond .eq 784, 3) := by decide +kernel
theorem dL_law_402 : decode cL_law 402 = .ok (.iconst 0, 1) := by decide +kernel
theorem dL_law_403 : decode cL_law 403 = .ok (.ireturn, 1) := by decide +kernel
theorem dL_law_404 : decode cL_law 404 = .ok (.aload_n 1, 1) := by decide +kernel
theorem dL_law_405 : decode cL_law 405 = .ok (.aload_n 0, 1) := by decide +kernel
theorem dL_law_406 : decode cL_law 406 = .ok (.iload_n 3, 1) := by decide +kernel
theorem dL_law_407 : decode cL_law 407 = .ok (.iconst 1, 1) := by decide +kernel
theorem dL_law_408 : decode cL_law 408 = .ok (.iadd, 1) := by decide +kernel
theorem dL_law_409 : decode cL_law 409 = .ok (.iaload, 1) := by decide +kernel
theorem dL_law_410 : decode cL_law 410 = .ok (.aload_n 0, 1) := by decide +kernel
theorem dL_law_411 : decode cL_law 411 = .ok (.iload_n 3, 1) := by decide +kernel
theorem dL_law_412 : decode cL_law 412 = .ok (.iconst 2, 1) := by decide +kernel
theorem dL_law_413 : decode cL_law 413 = .ok (.iadd, 1) := by decide +kernel
theorem dL_law_414 : decode cL_law 414 = .ok (.iaload, 1) := by decide +kernel
theorem dL_law_415 : decode cL_law 415 = .ok (.aload_n 0, 1) := by decide +kernel
theorem dL_law_416 : decode cL_law 416 = .ok (.iload_n 3, 1) := by decide +kernel
theorem dL_law_417 : decode cL_law 417 = .ok (.iconst 3, 1) := by decide +kernel
theorem dL_law_418 : decode cL_law 418 = .ok (.iadd, 1) := by decide +kernel
theorem dL_law_419 : decode cL_law 419 = .ok (.iaload, 1) := by decide +kernel
theorem dL_law_420 : decode cL_law 420 = .ok (.aload_n 0, 1) := by decide +kernel
theorem dL_law_421 : decode cL_law 421 = .ok (.iload_n 3, 1) := by decide +kernel
theorem dL_law_422 : decode cL_law 422 = .ok (.iconst 4, 1) := by decide +kernel
theorem dL_law_423 : decode cL_law 423 = .ok (.iadd, 1) := by decide +kernel
theorem dL_law_424 : decode cL_law 424 = .ok (.iaload, 1) := by decide +kernel
theorem dL_law_425 : decode cL_law 425 = .ok (.invokevirtual 49, 3) := by decide +kernel
theorem dL_law_428 : decode cL_law 428 = .ok (.aload_n 2, 1) := by decide +kernel
theorem dL_law_429 : decode cL_law 429 = .ok (.aload_n 0, 1) := by decide +kernel
theorem dL_law_430 : decode cL_law 430 = .ok (.iload_n 3, 1) := by decide +kernel
theorem dL_law_431 : decode cL_law 431 = .ok (.iconst 1, 1) := by decide +kernel
theorem dL_law_432 : decode cL_law 432 = .ok (.iadd, 1) := by decide +kernel
theorem dL_law_433 : decode cL_law 433 = .ok (.iaload, 1) := by decide +kernel
theorem dL_law_434 : decode cL_law 434 = .ok (.aload_n 0, 1) := by decide +kernel
theorem dL_law_435 : decode cL_law 435 = .ok (.iload_n 3, 1) := by decide +kernel
theorem dL_law_436 : decode cL_law 436 = .ok (.iconst 2, 1) := by decide +kernel
theorem dL_law_437 : decode cL_law 437 = .ok (.iadd, 1) := by decide +kernel
theorem dL_law_438 : decode cL_law 438 = .ok (.iaload, 1) := by decide +kernel
theorem dL_law_439 : decode cL_law 439 = .ok (.aload_n 0, 1) := by decide +kernel
theorem dL_law_440 : decode cL_law 440 = .ok (.iload_n 3, 1) := by decide +kernel
theorem dL_law_441 : decode cL_law 441 = .ok (.iconst 3, 1) := by decide +kernel
theorem dL_law_442 : decode cL_law 442 = .ok (.iadd, 1) := by decide +kernel
theorem dL_law_443 : decode cL_law 443 = .ok (.iaload, 1) := by decide +kernel
theorem dL_law_444 : decode cL_law 444 = .ok (.aload_n 0, 1) := by decide +kernel
theorem dL_law_445 : decode cL_law 445 = .ok (.iload_n 3, 1) := by decide +kernel
theorem dL_law_446 : decode cL_law 446 = .ok (.iconst 4, 1) := by decide +kernel
theorem dL_law_447 : decode cL_law 447 = .ok (.iadd, 1) := by decide +kernel
theorem dL_law_448 : decode cL_law 448 = .ok (.iaload, 1) := by decide +kernel
theorem dL_law_449 : decode cL_law 449 = .ok (.invokevirtual 53, 3) := by decide +kernel
theorem dL_law_452 : decode cL_law 452 = .ok (.if_icmp .eq 731, 3) := by decide +kernel
theorem dL_law_455 : decode cL_law 455 = .ok (.iconst 0, 1) := by decide +kernel
theorem dL_law_456 : decode cL_law 456 = .ok (.ireturn, 1) := by decide +kernel
theorem dL_law_457 : decode cL_law 457 = .ok (.aload_n 1, 1) := by decide +kernel
theorem dL_law_458 : decode cL_law 458 = .ok (.aload_n 0, 1) := by decide +kernel
theorem dL_law_459 : decode cL_law 459 = .ok (.iload_n 3, 1) := by decide +kernel
theorem dL_law_460 : decode cL_law 460 = .ok (.iconst 1, 1) := by decide +kernel
theorem dL_law_461 : decode cL_law 461 = .ok (.iadd, 1) := by decide +kernel
theorem dL_law_462 : decode cL_law 462 = .ok (.iaload, 1) := by decide +kernel
theorem dL_law_463 : decode cL_law 463 = .ok (.aload_n 0, 1) := by decide +kernel
theorem dL_law_464 : decode cL_law 464 = .ok (.iload_n 3, 1) := by decide +kernel
theorem dL_law_465 : decode cL_law 465 = .ok (.iconst 2, 1) := by decide +kernel
theorem dL_law_466 : decode cL_law 466 = .ok (.iadd, 1) := by decide +kernel
theorem dL_law_467 : decode cL_law 467 = .ok (.iaload, 1) := by decide +kernel
theorem dL_law_468 : decode cL_law 468 = .ok (.aload_n 0, 1) := by decide +kernel
theorem dL_law_469 : decode cL_law 469 = .ok (.iload_n 3, 1) := by decide +kernel
theorem dL_law_470 : decode cL_law 470 = .ok (.iconst 3, 1) := by decide +kernel
theorem dL_law_471 : decode cL_law 471 = .ok (.iadd, 1) := by decide +kernel
theorem dL_law_472 : decode cL_law 472 = .ok (.iaload, 1) := by decide +kernel
theorem dL_law_473 : decode cL_law 473 = .ok (.invokevirtual 54, 3) := by decide +kernel
theorem dL_law_476 : decode cL_law 476 = .ok (.aload_n 2, 1) := by decide +kernel
theorem dL_law_477 : decode cL_law 477 = .ok (.aload_n 0, 1) := by decide +kernel
theorem dL_law_478 : decode cL_law 478 = .ok (.iload_n 3, 1) := by decide +kernel
theorem dL_law_479 : decode cL_law 479 = .ok (.iconst 1, 1) := by decide +kernel
theorem dL_law_480 : decode cL_law 480 = .ok (.iadd, 1) := by decide +kernel
theorem dL_law_481 : decode cL_law 481 = .ok (.iaload, 1) := by decide +kernel
theorem dL_law_482 : decode cL_law 482 = .ok (.aload_n 0, 1) := by decide +kernel
theorem dL_law_483 : decode cL_law 483 = .ok (.iload_n 3, 1) := by decide +kernel
theorem dL_law_484 : decode cL_law 484 = .ok (.iconst 2, 1) := by decide +kernel
theorem dL_law_485 : decode cL_law 485 = .ok (.iadd, 1) := by decide +kernel
theorem dL_law_486 : decode cL_law 486 = .ok (.iaload, 1) := by decide +kernel
theorem dL_law_487 : decode cL_law 487 = .ok (.aload_n 0, 1) := by decide +kernel
theorem dL_law_488 : decode cL_law 488 = .ok (.iload_n 3, 1) := by decide +kernel
theorem dL_law_489 : decode cL_law 489 = .ok (.iconst 3, 1) := by decide +kernel
theorem dL_law_490 : decode cL_law 490 = .ok (.iadd, 1) := by decide +kernel
theorem dL_law_491 : decode cL_law 491 = .ok (.iaload, 1) := by decide +kernel
theorem dL_law_492 : decode cL_law 492 = .ok (.invokevirtual 58, 3) := by decide +kernel
theorem dL_law_495 : decode cL_law 495 = .ok (.if_icmp .eq 688, 3) := by decide +kernel
theorem dL_law_498 : decode cL_law 498 = .ok (.iconst 0, 1) := by decide +kernel
theorem dL_law_499 : decode cL_law 499 = .ok (.ireturn, 1) := by decide +kernel
theorem dL_law_500 : decode cL_law 500 = .ok (.aload_n 1, 1) := by decide +kernel
theorem dL_law_501 : decode cL_law 501 = .ok (.aload_n 0, 1) := by decide +kernel
theorem dL_law_502 : decode cL_law 502 = .ok (.iload_n 3, 1) := by decide +kernel
theorem dL_law_503 : decode cL_law 503 = .ok (.iconst 1, 1) := by decide +kernel
theorem dL_law_504 : decode cL_law 504 = .ok (.iadd, 1) := by decide +kernel
theorem dL_law_505 : decode cL_law 505 = .ok (.iaload, 1) := by decide +kernel
theorem dL_law_506 : decode cL_law 506 = .ok (.aload_n 0, 1) := by decide +kernel
theorem dL_law_507 : decode cL_law 507 = .ok (.iload_n 3, 1) := by decide +kernel
theorem dL_law_508 : decode cL_law 508 = .ok (.iconst 2, 1) := by decide +kernel
theorem dL_law_509 : decode cL_law 509 = .ok (.iadd, 1) := by decide +kernel
theorem dL_law_510 : decode cL_law 510 = .ok (.iaload, 1) := by decide +kernel
theorem dL_law_511 : decode cL_law 511 = .ok (.aload_n 0, 1) := by decide +kernel
theorem dL_law_512 : decode cL_law 512 = .ok (.iload_n 3, 1) := by decide +kernel
theorem dL_law_513 : decode cL_law 513 = .ok (.iconst 3, 1) := by decide +kernel
theorem dL_law_514 : decode cL_law 514 = .ok (.iadd, 1) := by decide +kernel
theorem dL_law_515 : decode cL_law 515 = .ok (.iaload, 1) := by decide +kernel
theorem dL_law_516 : decode cL_law 516 = .ok (.aload_n 0, 1) := by decide +kernel
theorem dL_law_517 : decode cL_law 517 = .ok (.iload_n 3, 1) := by decide +kernel
theorem dL_law_518 : decode cL_law 518 = .ok (.iconst 4, 1) := by decide +kernel
theorem dL_law_519 : decode cL_law 519 = .ok (.iadd, 1) := by decide +kernel
theorem dL_law_520 : decode cL_law 520 = .ok (.iaload, 1) := by decide +kernel
theorem dL_law_521 : decode cL_law 521 = .ok (.aload_n 0, 1) := by decide +kernel
theorem dL_law_522 : decode cL_law 522 = .ok (.iload_n 3, 1) := by decide +kernel
theorem dL_law_523 : decode cL_law 523 = .ok (.iconst 5, 1) := by decide +kernel
theorem dL_law_524 : decode cL_law 524 = .ok (.iadd, 1) := by decide +kernel
theorem dL_law_525 : decode cL_law 525 = .ok (.iaload, 1) := by decide +kernel
theorem dL_law_526 : decode cL_law 526 = .ok (.ifCond .eq 7, 3) := by decide +kernel
theorem dL_law_529 : decode cL_law 529 = .ok (.iconst 1, 1) := by decide +kernel
theorem dL_law_530 : decode cL_law 530 = .ok (.goto 4, 3) := by decide +kernel
theorem dL_law_533 : decode cL_law 533 = .ok (.iconst 0, 1) := by decide +kernel
theorem dL_law_534 : decode cL_law 534 = .ok (.invokevirtual 59, 3) := by decide +kernel
theorem dL_law_537 : decode cL_law 537 = .ok (.aload_n 2, 1) := by decide +kernel
theorem dL_law_538 : decode cL_law 538 = .ok (.aload_n 0, 1) := by decide +kernel
theorem dL_law_539 : decode cL_law 539 = .ok (.iload_n 3, 1) := by decide +kernel
theorem dL_law_540 : decode cL_law 540 = .ok (.iconst 1, 1) := by decide +kernel
theorem dL_law_541 : decode cL_law 541 = .ok (.iadd, 1) := by decide +kernel
theorem dL_law_542 : decode cL_law 542 = .ok (.iaload, 1) := by decide +kernel
theorem dL_law_543 : decode cL_law 543 = .ok (.aload_n 0, 1) := by decide +kernel
theorem dL_law_544 : decode cL_law 544 = .ok (.iload_n 3, 1) := by decide +kernel
theorem dL_law_545 : decode cL_law 545 = .ok (.iconst 2, 1) := by decide +kernel
theorem dL_law_546 : decode cL_law 546 = .ok (.iadd, 1) := by decide +kernel
theorem dL_law_547 : decode cL_law 547 = .ok (.iaload, 1) := by decide +kernel
theorem dL_law_548 : decode cL_law 548 = .ok (.aload_n 0, 1) := by decide +kernel
theorem dL_law_549 : decode cL_law 549 = .ok (.iload_n 3, 1) := by decide +kernel
theorem dL_law_550 : decode cL_law 550 = .ok (.iconst 3, 1) := by decide +kernel
theorem dL_law_551 : decode cL_law 551 = .ok (.iadd, 1) := by decide +kernel
theorem dL_law_552 : decode cL_law 552 = .ok (.iaload, 1) := by decide +kernel
theorem dL_law_553 : decode cL_law 553 = .ok (.aload_n 0, 1) := by decide +kernel
theorem dL_law_554 : decode cL_law 554 = .ok (.iload_n 3, 1) := by decide +kernel
theorem dL_law_555 : decode cL_law 555 = .ok (.iconst 4, 1) := by decide +kernel
theorem dL_law_556 : decode cL_law 556 = .ok (.iadd, 1) := by decide +kernel
theorem dL_law_557 : decode cL_law 557 = .ok (.iaload, 1) := by decide +kernel
theorem dL_law_558 : decode cL_law 558 = .ok (.aload_n 0, 1) := by decide +kernel
theorem dL_law_559 : decode cL_law 559 = .ok (.iload_n 3, 1) := by decide +kernel
theorem dL_law_560 : decode cL_law 560 = .ok (.iconst 5, 1) := by decide +kernel
theorem dL_law_561 : decode cL_law 561 = .ok (.iadd, 1) := by decide +kernel
theorem dL_law_562 : decode cL_law 562 = .ok (.iaload, 1) := by decide +kernel
theorem dL_law_563 : decode cL_law 563 = .ok (.ifCond .eq 7, 3) := by decide +kernel
theorem dL_law_566 : decode cL_law 566 = .ok (.iconst 1, 1) := by decide +kernel
theorem dL_law_567 : decode cL_law 567 = .ok (.goto 4, 3) := by decide +kernel
theorem dL_law_570 : decode cL_law 570 = .ok (.iconst 0, 1) := by decide +kernel
theorem dL_law_571 : decode cL_law 571 = .ok (.invokevirtual 63, 3) := by decide +kernel
theorem dL_law_574 : decode cL_law 574 = .ok (.if_icmp .eq 609, 3) := by decide +kernel
theorem dL_law_577 : decode cL_law 577 = .ok (.iconst 0, 1) := by decide +kernel
theorem dL_law_578 : decode cL_law 578 = .ok (.ireturn, 1) := by decide +kernel
theorem dL_law_579 : decode cL_law 579 = .ok (.aload_n 1, 1) := by decide +kernel
theorem dL_law_580 : decode cL_law 580 = .ok (.aload_n 0, 1) := by decide +kernel
theorem dL_law_581 : decode cL_law 581 = .ok (.iload_n 3, 1) := by decide +kernel
theorem dL_law_582 : decode cL_law 582 = .ok (.iconst 1, 1) := by decide +kernel
theorem dL_law_583 : decode cL_law 583 = .ok (.iadd, 1) := by decide +kernel
theorem dL_law_584 : decode cL_law 584 = .ok (.iaload, 1) := by decide +kernel
theorem dL_law_585 : decode cL_law 585 = .ok (.aload_n 0, 1) := by decide +kernel
theorem dL_law_586 : decode cL_law 586 = .ok (.iload_n 3, 1) := by decide +kernel
theorem dL_law_587 : decode cL_law 587 = .ok (.iconst 2, 1) := by decide +kernel
theorem dL_law_588 : decode cL_law 588 = .ok (.iadd, 1) := by decide +kernel
theorem dL_law_589 : decode cL_law 589 = .ok (.iaload, 1) := by decide +kernel
theorem dL_law_590 : decode cL_law 590 = .ok (.aload_n 0, 1) := by decide +kernel
theorem dL_law_591 : decode cL_law 591 = .ok (.iload_n 3, 1) := by decide +kernel
theorem dL_law_592 : decode cL_law 592 = .ok (.iconst 3, 1) := by decide +kernel
theorem dL_law_593 : decode cL_law 593 = .ok (.iadd, 1) := by decide +kernel
theorem dL_law_594 : decode cL_law 594 = .ok (.iaload, 1) := by decide +kernel
theorem dL_law_595 : decode cL_law 595 = .ok (.invokevirtual 64, 3) := by decide +kernel
theorem dL_law_598 : decode cL_law 598 = .ok (.aload_n 2, 1) := by decide +kernel
theorem dL_law_599 : decode cL_law 599 = .ok (.aload_n 0, 1) := by decide +kernel
theorem dL_law_600 : decode cL_law 600 = .ok (.iload_n 3, 1) := by decide +kernel
theorem dL_law_601 : decode cL_law 601 = .ok (.iconst 1, 1) := by decide +kernel
theorem dL_law_602 : decode cL_law 602 = .ok (.iadd, 1) := by decide +kernel
theorem dL_law_603 : decode cL_law 603 = .ok (.iaload, 1) := by decide +kernel
theorem dL_law_604 : decode cL_law 604 = .ok (.aload_n 0, 1) := by decide +kernel
theorem dL_law_605 : decode cL_law 605 = .ok (.iload_n 3, 1) := by decide +kernel
theorem dL_law_606 : decode cL_law 606 = .ok (.iconst 2, 1) := by decide +kernel
theorem dL_law_607 : decode cL_law 607 = .ok (.iadd, 1) := by decide +kernel
theorem dL_law_608 : decode cL_law 608 = .ok (.iaload, 1) := by decide +kernel
theorem dL_law_609 : decode cL_law 609 = .ok (.aload_n 0, 1) := by decide +kernel
theorem dL_law_610 : decode cL_law 610 = .ok (.iload_n 3, 1) := by decide +kernel
theorem dL_law_611 : decode cL_law 611 = .ok (.iconst 3, 1) := by decide +kernel
theorem dL_law_612 : decode cL_law 612 = .ok (.iadd, 1) := by decide +kernel
theorem dL_law_613 : decode cL_law 613 = .ok (.iaload, 1) := by decide +kernel
theorem dL_law_614 : decode cL_law 614 = .ok (.invokevirtual 67, 3) := by decide +kernel
theorem dL_law_617 : decode cL_law 617 = .ok (.if_icmp .eq 566, 3) := by decide +kernel
theorem dL_law_620 : decode cL_law 620 = .ok (.iconst 0, 1) := by decide +kernel
theorem dL_law_621 : decode cL_law 621 = .ok (.ireturn, 1) := by decide +kernel
theorem dL_law_622 : decode cL_law 622 = .ok (.aload_n 1, 1) := by decide +kernel
theorem dL_law_623 : decode cL_law 623 = .ok (.aload_n 0, 1) := by decide +kernel
theorem dL_law_624 : decode cL_law 624 = .ok (.iload_n 3, 1) := by decide +kernel
theorem dL_law_625 : decode cL_law 625 = .ok (.iconst 1, 1) := by decide +kernel
theorem dL_law_626 : decode cL_law 626 = .ok (.iadd, 1) := by decide +kernel
theorem dL_law_627 : decode cL_law 627 = .ok (.iaload, 1) := by decide +kernel
theorem dL_law_628 : decode cL_law 628 = .ok (.aload_n 0, 1) := by decide +kernel
theorem dL_law_629 : decode cL_law 629 = .ok (.iload_n 3, 1) := by decide +kernel
theorem dL_law_630 : decode cL_law 630 = .ok (.iconst 2, 1) := by decide +kernel
theorem dL_law_631 : decode cL_law 631 = .ok (.iadd, 1) := by decide +kernel
theorem dL_law_632 : decode cL_law 632 = .ok (.iaload, 1) := by decide +kernel
theorem dL_law_633 : decode cL_law 633 = .ok (.aload_n 0, 1) := by decide +kernel
theorem dL_law_634 : decode cL_law 634 = .ok (.iload_n 3, 1) := by decide +kernel
theorem dL_law_635 : decode cL_law 635 = .ok (.iconst 3, 1) := by decide +kernel
theorem dL_law_636 : decode cL_law 636 = .ok (.iadd, 1) := by decide +kernel
theorem dL_law_637 : decode cL_law 637 = .ok (.iaload, 1) := by decide +kernel
theorem dL_law_638 : decode cL_law 638 = .ok (.invokevirtual 68, 3) := by decide +kernel
theorem dL_law_641 : decode cL_law 641 = .ok (.aload_n 2, 1) := by decide +kernel
theorem dL_law_642 : decode cL_law 642 = .ok (.aload_n 0, 1) := by decide +kernel
theorem dL_law_643 : decode cL_law 643 = .ok (.iload_n 3, 1) := by decide +kernel
theorem dL_law_644 : decode cL_law 644 = .ok (.iconst 1, 1) := by decide +kernel
theorem dL_law_645 : decode cL_law 645 = .ok (.iadd, 1) := by decide +kernel
theorem dL_law_646 : decode cL_law 646 = .ok (.iaload, 1) := by decide +kernel
theorem dL_law_647 : decode cL_law 647 = .ok (.aload_n 0, 1) := by decide +kernel
theorem dL_law_648 : decode cL_law 648 = .ok (.iload_n 3, 1) := by decide +kernel
theorem dL_law_649 : decode cL_law 649 = .ok (.iconst 2, 1) := by decide +kernel
theorem dL_law_650 : decode cL_law 650 = .ok (.iadd, 1) := by decide +kernel
theorem dL_law_651 : decode cL_law 651 = .ok (.iaload, 1) := by decide +kernel
theorem dL_law_652 : decode cL_law 652 = .ok (.aload_n 0, 1) := by decide +kernel
theorem dL_law_653 : decode cL_law 653 = .ok (.iload_n 3, 1) := by decide +kernel
theorem dL_law_654 : decode cL_law 654 = .ok (.iconst 3, 1) := by decide +kernel
theorem dL_law_655 : decode cL_law 655 = .ok (.iadd, 1) := by decide +kernel
theorem dL_law_656 : decode cL_law 656 = .ok (.iaload, 1) := by decide +kernel
theorem dL_law_657 : decode cL_law 657 = .ok (.invokevirtual 71, 3) := by decide +kernel
theorem dL_law_660 : decode cL_law 660 = .ok (.if_icmp .eq 523, 3) := by decide +kernel
theorem dL_law_663 : decode cL_law 663 = .ok (.iconst 0, 1) := by decide +kernel
theorem dL_law_664 : decode cL_law 664 = .ok (.ireturn, 1) := by decide +kernel
theorem dL_law_665 : decode cL_law 665 = .ok (.aload_n 1, 1) := by decide +kernel
theorem dL_law_666 : decode cL_law 666 = .ok (.aload_n 0, 1) := by decide +kernel
theorem dL_law_667 : decode cL_law 667 = .ok (.iload_n 3, 1) := by decide +kernel
theorem dL_law_668 : decode cL_law 668 = .ok (.iconst 1, 1) := by decide +kernel
theorem dL_law_669 : decode cL_law 669 = .ok (.iadd, 1) := by decide +kernel
theorem dL_law_670 : decode cL_law 670 = .ok (.iaload, 1) := by decide +kernel
theorem dL_law_671 : decode cL_law 671 = .ok (.aload_n 0, 1) := by decide +kernel
theorem dL_law_672 : decode cL_law 672 = .ok (.iload_n 3, 1) := by decide +kernel
theorem dL_law_673 : decode cL_law 673 = .ok (.iconst 2, 1) := by decide +kernel
theorem dL_law_674 : decode cL_law 674 = .ok (.iadd, 1) := by decide +kernel
theorem dL_law_675 : decode cL_law 675 = .ok (.iaload, 1) := by decide +kernel
theorem dL_law_676 : decode cL_law 676 = .ok (.aload_n 0, 1) := by decide +kernel
theorem dL_law_677 : decode cL_law 677 = .ok (.iload_n 3, 1) := by decide +kernel
theorem dL_law_678 : decode cL_law 678 = .ok (.iconst 3, 1) := by decide +kernel
theorem dL_law_679 : decode cL_law 679 = .ok (.iadd, 1) := by decide +kernel
theorem dL_law_680 : decode cL_law 680 = .ok (.iaload, 1) := by decide +kernel
theorem dL_law_681 : decode cL_law 681 = .ok (.invokevirtual 72, 3) := by decide +kernel
theorem dL_law_684 : decode cL_law 684 = .ok (.aload_n 2, 1) := by decide +kernel
theorem dL_law_685 : decode cL_law 685 = .ok (.aload_n 0, 1) := by decide +kernel
theorem dL_law_686 : decode cL_law 686 = .ok (.iload_n 3, 1) := by decide +kernel
theorem dL_law_687 : decode cL_law 687 = .ok (.iconst 1, 1) := by decide +kernel
theorem dL_law_688 : decode cL_law 688 = .ok (.iadd, 1) := by decide +kernel
theorem dL_law_689 : decode cL_law 689 = .ok (.iaload, 1) := by decide +kernel
theorem dL_law_690 : decode cL_law 690 = .ok (.aload_n 0, 1) := by decide +kernel
theorem dL_law_691 : decode cL_law 691 = .ok (.iload_n 3, 1) := by decide +kernel
theorem dL_law_692 : decode cL_law 692 = .ok (.iconst 2, 1) := by decide +kernel
theorem dL_law_693 : decode cL_law 693 = .ok (.iadd, 1) := by decide +kernel
theorem dL_law_694 : decode cL_law 694 = .ok (.iaload, 1) := by decide +kernel
theorem dL_law_695 : decode cL_law 695 = .ok (.aload_n 0, 1) := by decide +kernel
theorem dL_law_696 : decode cL_law 696 = .ok (.iload_n 3, 1) := by decide +kernel
theorem dL_law_697 : decode cL_law 697 = .ok (.iconst 3, 1) := by decide +kernel
theorem dL_law_698 : decode cL_law 698 = .ok (.iadd, 1) := by decide +kernel
theorem dL_law_699 : decode cL_law 699 = .ok (.iaload, 1) := by decide +kernel
theorem dL_law_700 : decode cL_law 700 = .ok (.invokevirtual 75, 3) := by decide +kernel
theorem dL_law_703 : decode cL_law 703 = .ok (.if_icmp .eq 480, 3) := by decide +kernel
theorem dL_law_706 : decode cL_law 706 = .ok (.iconst 0, 1) := by decide +kernel
theorem dL_law_707 : decode cL_law 707 = .ok (.ireturn, 1) := by decide +kernel
theorem dL_law_708 : decode cL_law 708 = .ok (.aload_n 1, 1) := by decide +kernel
theorem dL_law_709 : decode cL_law 709 = .ok (.aload_n 0, 1) := by decide +kernel
theorem dL_law_710 : decode cL_law 710 = .ok (.iload_n 3, 1) := by decide +kernel
theorem dL_law_711 : decode cL_law 711 = .ok (.iconst 1, 1) := by decide +kernel
theorem dL_law_712 : decode cL_law 712 = .ok (.iadd, 1) := by decide +kernel
theorem dL_law_713 : decode cL_law 713 = .ok (.iaload, 1) := by decide +kernel
theorem dL_law_714 : decode cL_law 714 = .ok (.aload_n 0, 1) := by decide +kernel
theorem dL_law_715 : decode cL_law 715 = .ok (.iload_n 3, 1) := by decide +kernel
theorem dL_law_716 : decode cL_law 716 = .ok (.iconst 2, 1) := by decide +kernel
theorem dL_law_717 : decode cL_law 717 = .ok (.iadd, 1) := by decide +kernel
theorem dL_law_718 : decode cL_law 718 = .ok (.iaload, 1) := by decide +kernel
theorem dL_law_719 : decode cL_law 719 = .ok (.invokevirtual 76, 3) := by decide +kernel
theorem dL_law_722 : decode cL_law 722 = .ok (.aload_n 2, 1) := by decide +kernel
theorem dL_law_723 : decode cL_law 723 = .ok (.aload_n 0, 1) := by decide +kernel
theorem dL_law_724 : decode cL_law 724 = .ok (.iload_n 3, 1) := by decide +kernel
theorem dL_law_725 : decode cL_law 725 = .ok (.iconst 1, 1) := by decide +kernel
theorem dL_law_726 : decode cL_law 726 = .ok (.iadd, 1) := by decide +kernel
theorem dL_law_727 : decode cL_law 727 = .ok (.iaload, 1) := by decide +kernel
theorem dL_law_728 : decode cL_law 728 = .ok (.aload_n 0, 1) := by decide +kernel
theorem dL_law_729 : decode cL_law 729 = .ok (.iload_n 3, 1) := by decide +kernel
theorem dL_law_730 : decode cL_law 730 = .ok (.iconst 2, 1) := by decide +kernel
theorem dL_law_731 : decode cL_law 731 = .ok (.iadd, 1) := by decide +kernel
theorem dL_law_732 : decode cL_law 732 = .ok (.iaload, 1) := by decide +kernel
theorem dL_law_733 : decode cL_law 733 = .ok (.invokevirtual 79, 3) := by decide +kernel
theorem dL_law_736 : decode cL_law 736 = .ok (.if_icmp .eq 447, 3) := by decide +kernel
theorem dL_law_739 : decode cL_law 739 = .ok (.iconst 0, 1) := by decide +kernel
theorem dL_law_740 : decode cL_law 740 = .ok (.ireturn, 1) := by decide +kernel
theorem dL_law_741 : decode cL_law 741 = .ok (.aload_n 1, 1) := by decide +kernel
theorem dL_law_742 : decode cL_law 742 = .ok (.aload_n 0, 1) := by decide +kernel
theorem dL_law_743 : decode cL_law 743 = .ok (.iload_n 3, 1) := by decide +kernel
theorem dL_law_744 : decode cL_law 744 = .ok (.iconst 1, 1) := by decide +kernel
theorem dL_law_745 : decode cL_law 745 = .ok (.iadd, 1) := by decide +kernel
theorem dL_law_746 : decode cL_law 746 = .ok (.iaload, 1) := by decide +kernel
theorem dL_law_747 : decode cL_law 747 = .ok (.aload_n 0, 1) := by decide +kernel
theorem dL_law_748 : decode cL_law 748 = .ok (.iload_n 3, 1) := by decide +kernel
theorem dL_law_749 : decode cL_law 749 = .ok (.iconst 2, 1) := by decide +kernel
theorem dL_law_750 : decode cL_law 750 = .ok (.iadd, 1) := by decide +kernel
theorem dL_law_751 : decode cL_law 751 = .ok (.iaload, 1) := by decide +kernel
theorem dL_law_752 : decode cL_law 752 = .ok (.aload_n 0, 1) := by decide +kernel
theorem dL_law_753 : decode cL_law 753 = .ok (.iload_n 3, 1) := by decide +kernel
theorem dL_law_754 : decode cL_law 754 = .ok (.iconst 3, 1) := by decide +kernel
theorem dL_law_755 : decode cL_law 755 = .ok (.iadd, 1) := by decide +kernel
theorem dL_law_756 : decode cL_law 756 = .ok (.iaload, 1) := by decide +kernel
theorem dL_law_757 : decode cL_law 757 = .ok (.aload_n 0, 1) := by decide +kernel
theorem dL_law_758 : decode cL_law 758 = .ok (.iload_n 3, 1) := by decide +kernel
theorem dL_law_759 : decode cL_law 759 = .ok (.iconst 4, 1) := by decide +kernel
theorem dL_law_760 : decode cL_law 760 = .ok (.iadd, 1) := by decide +kernel
theorem dL_law_761 : decode cL_law 761 = .ok (.iaload, 1) := by decide +kernel
theorem dL_law_762 : decode cL_law 762 = .ok (.aload_n 0, 1) := by decide +kernel
theorem dL_law_763 : decode cL_law 763 = .ok (.iload_n 3, 1) := by decide +kernel
theorem dL_law_764 : decode cL_law 764 = .ok (.iconst 5, 1) := by decide +kernel
theorem dL_law_765 : decode cL_law 765 = .ok (.iadd, 1) := by decide +kernel
theorem dL_law_766 : decode cL_law 766 = .ok (.iaload, 1) := by decide +kernel
theorem dL_law_767 : decode cL_law 767 = .ok (.invokevirtual 80, 3) := by decide +kernel
theorem dL_law_770 : decode cL_law 770 = .ok (.aload_n 2, 1) := by decide +kernel
theorem dL_law_771 : decode cL_law 771 = .ok (.aload_n 0, 1) := by decide +kernel
theorem dL_law_772 : decode cL_law 772 = .ok (.iload_n 3, 1) := by decide +kernel
theorem dL_law_773 : decode cL_law 773 = .ok (.iconst 1, 1) := by decide +kernel
theorem dL_law_774 : decode cL_law 774 = .ok (.iadd, 1) := by decide +kernel
theorem dL_law_775 : decode cL_law 775 = .ok (.iaload, 1) := by decide +kernel
theorem dL_law_776 : decode cL_law 776 = .ok (.aload_n 0, 1) := by decide +kernel
theorem dL_law_777 : decode cL_law 777 = .ok (.iload_n 3, 1) := by decide +kernel
theorem dL_law_778 : decode cL_law 778 = .ok (.iconst 2, 1) := by decide +kernel
theorem dL_law_779 : decode cL_law 779 = .ok (.iadd, 1) := by decide +kernel
theorem dL_law_780 : decode cL_law 780 = .ok (.iaload, 1) := by decide +kernel
theorem dL_law_781 : decode cL_law 781 = .ok (.aload_n 0, 1) := by decide +kernel
theorem dL_law_782 : decode cL_law 782 = .ok (.iload_n 3, 1) := by decide +kernel
theorem dL_law_783 : decode cL_law 783 = .ok (.iconst 3, 1) := by decide +kernel
theorem dL_law_784 : decode cL_law 784 = .ok (.iadd, 1) := by decide +kernel
theorem dL_law_785 : decode cL_law 785 = .ok (.iaload, 1) := by decide +kernel
theorem dL_law_786 : decode cL_law 786 = .ok (.aload_n 0, 1) := by decide +kernel
theorem dL_law_787 : decode cL_law 787 = .ok (.iload_n 3, 1) := by decide +kernel
theorem dL_law_788 : decode cL_law 788 = .ok (.iconst 4, 1) := by decide +kernel
theorem dL_law_789 : decode cL_law 789 = .ok (.iadd, 1) := by decide +kernel
theorem dL_law_790 : decode cL_law 790 = .ok (.iaload, 1) := by decide +kernel
theorem dL_law_791 : decode cL_law 791 = .ok (.aload_n 0, 1) := by decide +kernel
theorem dL_law_792 : decode cL_law 792 = .ok (.iload_n 3, 1) := by decide +kernel
theorem dL_law_793 : decode cL_law 793 = .ok (.iconst 5, 1) := by decide +kernel
theorem dL_law_794 : decode cL_law 794 = .ok (.iadd, 1) := by decide +kernel
theorem dL_law_795 : decode cL_law 795 = .ok (.iaload, 1) := by decide +kernel
theorem dL_law_796 : decode cL_law 796 = .ok (.invokevirtual 84, 3) := by decide +kernel
theorem dL_law_799 : decode cL_law 799 = .ok (.if_icmp .eq 384, 3) := by decide +kernel
theorem dL_law_802 : decode cL_law 802 = .ok (.iconst 0, 1) := by decide +kernel
theorem dL_law_803 : decode cL_law 803 = .ok (.ireturn, 1) := by decide +kernel
theorem dL_law_804 : decode cL_law 804 = .ok (.aload_n 1, 1) := by decide +kernel
theorem dL_law_805 : decode cL_law 805 = .ok (.aload_n 0, 1) := by decide +kernel
theorem dL_law_806 : decode cL_law 806 = .ok (.iload_n 3, 1) := by decide +kernel
theorem dL_law_807 : decode cL_law 807 = .ok (.iconst 1, 1) := by decide +kernel
theorem dL_law_808 : decode cL_law 808 = .ok (.iadd, 1) := by decide +kernel
theorem dL_law_809 : decode cL_law 809 = .ok (.iaload, 1) := by decide +kernel
theorem dL_law_810 : decode cL_law 810 = .ok (.aload_n 0, 1) := by decide +kernel
theorem dL_law_811 : decode cL_law 811 = .ok (.iload_n 3, 1) := by decide +kernel
theorem dL_law_812 : decode cL_law 812 = .ok (.iconst 2, 1) := by decide +kernel
theorem dL_law_813 : decode cL_law 813 = .ok (.iadd, 1) := by decide +kernel
theorem dL_law_814 : decode cL_law 814 = .ok (.iaload, 1) := by decide +kernel
theorem dL_law_815 : decode cL_law 815 = .ok (.invokevirtual 85, 3) := by decide +kernel
theorem dL_law_818 : decode cL_law 818 = .ok (.aload_n 2, 1) := by decide +kernel
theorem dL_law_819 : decode cL_law 819 = .ok (.aload_n 0, 1) := by decide +kernel
theorem dL_law_820 : decode cL_law 820 = .ok (.iload_n 3, 1) := by decide +kernel
theorem dL_law_821 : decode cL_law 821 = .ok (.iconst 1, 1) := by decide +kernel
theorem dL_law_822 : decode cL_law 822 = .ok (.iadd, 1) := by decide +kernel
theorem dL_law_823 : decode cL_law 823 = .ok (.iaload, 1) := by decide +kernel
theorem dL_law_824 : decode cL_law 824 = .ok (.aload_n 0, 1) := by decide +kernel
theorem dL_law_825 : decode cL_law 825 = .ok (.iload_n 3, 1) := by decide +kernel
theorem dL_law_826 : decode cL_law 826 = .ok (.iconst 2, 1) := by decide +kernel
theorem dL_law_827 : decode cL_law 827 = .ok (.iadd, 1) := by decide +kernel
theorem dL_law_828 : decode cL_law 828 = .ok (.iaload, 1) := by decide +kernel
theorem dL_law_829 : decode cL_law 829 = .ok (.invokevirtual 88, 3) := by decide +kernel
theorem dL_law_832 : decode cL_law 832 = .ok (.if_icmp .eq 351, 3) := by decide +kernel
theorem dL_law_835 : decode cL_law 835 = .ok (.iconst 0, 1) := by decide +kernel
theorem dL_law_836 : decode cL_law 836 = .ok (.ireturn, 1) := by decide +kernel
theorem dL_law_837 : decode cL_law 837 = .ok (.aload_n 1, 1) := by decide +kernel
theorem dL_law_838 : decode cL_law 838 = .ok (.aload_n 0, 1) := by decide +kernel
theorem dL_law_839 : decode cL_law 839 = .ok (.iload_n 3, 1) := by decide +kernel
theorem dL_law_840 : decode cL_law 840 = .ok (.iconst 1, 1) := by decide +kernel
theorem dL_law_841 : decode cL_law 841 = .ok (.iadd, 1) := by decide +kernel
theorem dL_law_842 : decode cL_law 842 = .ok (.iaload, 1) := by decide +kernel
theorem dL_law_843 : decode cL_law 843 = .ok (.aload_n 0, 1) := by decide +kernel
theorem dL_law_844 : decode cL_law 844 = .ok (.iload_n 3, 1) := by decide +kernel
theorem dL_law_845 : decode cL_law 845 = .ok (.iconst 2, 1) := by decide +kernel
theorem dL_law_846 : decode cL_law 846 = .ok (.iadd, 1) := by decide +kernel
theorem dL_law_847 : decode cL_law 847 = .ok (.iaload, 1) := by decide +kernel
theorem dL_law_848 : decode cL_law 848 = .ok (.aload_n 0, 1) := by decide +kernel
theorem dL_law_849 : decode cL_law 849 = .ok (.iload_n 3, 1) := by decide +kernel
theorem dL_law_850 : decode cL_law 850 = .ok (.iconst 3, 1) := by decide +kernel
theorem dL_law_851 : decode cL_law 851 = .ok (.iadd, 1) := by decide +kernel
theorem dL_law_852 : decode cL_law 852 = .ok (.iaload, 1) := by decide +kernel
theorem dL_law_853 : decode cL_law 853 = .ok (.aload_n 0, 1) := by decide +kernel
theorem dL_law_854 : decode cL_law 854 = .ok (.iload_n 3, 1) := by decide +kernel
theorem dL_law_855 : decode cL_law 855 = .ok (.iconst 4, 1) := by decide +kernel
theorem dL_law_856 : decode cL_law 856 = .ok (.iadd, 1) := by decide +kernel
theorem dL_law_857 : decode cL_law 857 = .ok (.iaload, 1) := by decide +kernel
theorem dL_law_858 : decode cL_law 858 = .ok (.invokevirtual 89, 3) := by decide +kernel
theorem dL_law_861 : decode cL_law 861 = .ok (.aload_n 2, 1) := by decide +kernel
theorem dL_law_862 : decode cL_law 862 = .ok (.aload_n 0, 1) := by decide +kernel
theorem dL_law_863 : decode cL_law 863 = .ok (.iload_n 3, 1) := by decide +kernel
theorem dL_law_864 : decode cL_law 864 = .ok (.iconst 1, 1) := by decide +kernel
theorem dL_law_865 : decode cL_law 865 = .ok (.iadd, 1) := by decide +kernel
theorem dL_law_866 : decode cL_law 866 = .ok (.iaload, 1) := by decide +kernel
theorem dL_law_867 : decode cL_law 867 = .ok (.aload_n 0, 1) := by decide +kernel
theorem dL_law_868 : decode cL_law 868 = .ok (.iload_n 3, 1) := by decide +kernel
theorem dL_law_869 : decode cL_law 869 = .ok (.iconst 2, 1) := by decide +kernel
theorem dL_law_870 : decode cL_law 870 = .ok (.iadd, 1) := by decide +kernel
theorem dL_law_871 : decode cL_law 871 = .ok (.iaload, 1) := by decide +kernel
theorem dL_law_872 : decode cL_law 872 = .ok (.aload_n 0, 1) := by decide +kernel
theorem dL_law_873 : decode cL_law 873 = .ok (.iload_n 3, 1) := by decide +kernel
theorem dL_law_874 : decode cL_law 874 = .ok (.iconst 3, 1) := by decide +kernel
theorem dL_law_875 : decode cL_law 875 = .ok (.iadd, 1) := by decide +kernel
theorem dL_law_876 : decode cL_law 876 = .ok (.iaload, 1) := by decide +kernel
theorem dL_law_877 : decode cL_law 877 = .ok (.aload_n 0, 1) := by decide +kernel
theorem dL_law_878 : decode cL_law 878 = .ok (.iload_n 3, 1) := by decide +kernel
theorem dL_law_879 : decode cL_law 879 = .ok (.iconst 4, 1) := by decide +kernel
theorem dL_law_880 : decode cL_law 880 = .ok (.iadd, 1) := by decide +kernel
theorem dL_law_881 : decode cL_law 881 = .ok (.iaload, 1) := by decide +kernel
theorem dL_law_882 : decode cL_law 882 = .ok (.invokevirtual 92, 3) := by decide +kernel
theorem dL_law_885 : decode cL_law 885 = .ok (.if_icmp .eq 298, 3) := by decide +kernel
theorem dL_law_888 : decode cL_law 888 = .ok (.iconst 0, 1) := by decide +kernel
theorem dL_law_889 : decode cL_law 889 = .ok (.ireturn, 1) := by decide +kernel
theorem dL_law_890 : decode cL_law 890 = .ok (.aload_n 1, 1) := by decide +kernel
theorem dL_law_891 : decode cL_law 891 = .ok (.aload_n 0, 1) := by decide +kernel
theorem dL_law_892 : decode cL_law 892 = .ok (.iload_n 3, 1) := by decide +kernel
theorem dL_law_893 : decode cL_law 893 = .ok (.iconst 1, 1) := by decide +kernel
theorem dL_law_894 : decode cL_law 894 = .ok (.iadd, 1) := by decide +kernel
theorem dL_law_895 : decode cL_law 895 = .ok (.iaload, 1) := by decide +kernel
theorem dL_law_896 : decode cL_law 896 = .ok (.aload_n 0, 1) := by decide +kernel
theorem dL_law_897 : decode cL_law 897 = .ok (.iload_n 3, 1) := by decide +kernel
theorem dL_law_898 : decode cL_law 898 = .ok (.iconst 2, 1) := by decide +kernel
theorem dL_law_899 : decode cL_law 899 = .ok (.iadd, 1) := by decide +kernel
theorem dL_law_900 : decode cL_law 900 = .ok (.iaload, 1) := by decide +kernel
theorem dL_law_901 : decode cL_law 901 = .ok (.aload_n 0, 1) := by decide +kernel
theorem dL_law_902 : decode cL_law 902 = .ok (.iload_n 3, 1) := by decide +kernel
theorem dL_law_903 : decode cL_law 903 = .ok (.iconst 3, 1) := by decide +kernel
theorem dL_law_904 : decode cL_law 904 = .ok (.iadd, 1) := by decide +kernel
theorem dL_law_905 : decode cL_law 905 = .ok (.iaload, 1) := by decide +kernel
theorem dL_law_906 : decode cL_law 906 = .ok (.aload_n 0, 1) := by decide +kernel
theorem dL_law_907 : decode cL_law 907 = .ok (.iload_n 3, 1) := by decide +kernel
theorem dL_law_908 : decode cL_law 908 = .ok (.iconst 4, 1) := by decide +kernel
theorem dL_law_909 : decode cL_law 909 = .ok (.iadd, 1) := by decide +kernel
theorem dL_law_910 : decode cL_law 910 = .ok (.iaload, 1) := by decide +kernel
theorem dL_law_911 : decode cL_law 911 = .ok (.invokevirtual 93, 3) := by decide +kernel
theorem dL_law_914 : decode cL_law 914 = .ok (.aload_n 2, 1) := by decide +kernel
theorem dL_law_915 : decode cL_law 915 = .ok (.aload_n 0, 1) := by decide +kernel
theorem dL_law_916 : decode cL_law 916 = .ok (.iload_n 3, 1) := by decide +kernel
theorem dL_law_917 : decode cL_law 917 = .ok (.iconst 1, 1) := by decide +kernel
theorem dL_law_918 : decode cL_law 918 = .ok (.iadd, 1) := by decide +kernel
theorem dL_law_919 : decode cL_law 919 = .ok (.iaload, 1) := by decide +kernel
theorem dL_law_920 : decode cL_law 920 = .ok (.aload_n 0, 1) := by decide +kernel
theorem dL_law_921 : decode cL_law 921 = .ok (.iload_n 3, 1) := by decide +kernel
theorem dL_law_922 : decode cL_law 922 = .ok (.iconst 2, 1) := by decide +kernel
theorem dL_law_923 : decode cL_law 923 = .ok (.iadd, 1) := by decide +kernel
theorem dL_law_924 : decode cL_law 924 = .ok (.iaload, 1) := by decide +kernel
theorem dL_law_925 : decode cL_law 925 = .ok (.aload_n 0, 1) := by decide +kernel
theorem dL_law_926 : decode cL_law 926 = .ok (.iload_n 3, 1) := by decide +kernel
theorem dL_law_927 : decode cL_law 927 = .ok (.iconst 3, 1) := by decide +kernel
theorem dL_law_928 : decode cL_law 928 = .ok (.iadd, 1) := by decide +kernel
theorem dL_law_929 : decode cL_law 929 = .ok (.iaload, 1) := by decide +kernel
theorem dL_law_930 : decode cL_law 930 = .ok (.aload_n 0, 1) := by decide +kernel
theorem dL_law_931 : decode cL_law 931 = .ok (.iload_n 3, 1) := by decide +kernel
theorem dL_law_932 : decode cL_law 932 = .ok (.iconst 4, 1) := by decide +kernel
theorem dL_law_933 : decode cL_law 933 = .ok (.iadd, 1) := by decide +kernel
theorem dL_law_934 : decode cL_law 934 = .ok (.iaload, 1) := by decide +kernel
theorem dL_law_935 : decode cL_law 935 = .ok (.invokevirtual 96, 3) := by decide +kernel
theorem dL_law_938 : decode cL_law 938 = .ok (.if_icmp .eq 245, 3) := by decide +kernel
theorem dL_law_941 : decode cL_law 941 = .ok (.iconst 0, 1) := by decide +kernel
theorem dL_law_942 : decode cL_law 942 = .ok (.ireturn, 1) := by decide +kernel
theorem dL_law_943 : decode cL_law 943 = .ok (.aload_n 1, 1) := by decide +kernel
theorem dL_law_944 : decode cL_law 944 = .ok (.aload_n 0, 1) := by decide +kernel
theorem dL_law_945 : decode cL_law 945 = .ok (.iload_n 3, 1) := by decide +kernel
theorem dL_law_946 : decode cL_law 946 = .ok (.iconst 1, 1) := by decide +kernel
theorem dL_law_947 : decode cL_law 947 = .ok (.iadd, 1) := by decide +kernel
theorem dL_law_948 : decode cL_law 948 = .ok (.iaload, 1) := by decide +kernel
theorem dL_law_949 : decode cL_law 949 = .ok (.aload_n 0, 1) := by decide +kernel
theorem dL_law_950 : decode cL_law 950 = .ok (.iload_n 3, 1) := by decide +kernel
theorem dL_law_951 : decode cL_law 951 = .ok (.iconst 2, 1) := by decide +kernel
theorem dL_law_952 : decode cL_law 952 = .ok (.iadd, 1) := by decide +kernel
theorem dL_law_953 : decode cL_law 953 = .ok (.iaload, 1) := by decide +kernel
theorem dL_law_954 : decode cL_law 954 = .ok (.invokevirtual 97, 3) := by decide +kernel
theorem dL_law_957 : decode cL_law 957 = .ok (.aload_n 2, 1) := by decide +kernel
theorem dL_law_958 : decode cL_law 958 = .ok (.aload_n 0, 1) := by decide +kernel
theorem dL_law_959 : decode cL_law 959 = .ok (.iload_n 3, 1) := by decide +kernel
theorem dL_law_960 : decode cL_law 960 = .ok (.iconst 1, 1) := by decide +kernel
theorem dL_law_961 : decode cL_law 961 = .ok (.iadd, 1) := by decide +kernel
theorem dL_law_962 : decode cL_law 962 = .ok (.iaload, 1) := by decide +kernel
theorem dL_law_963 : decode cL_law 963 = .ok (.aload_n 0, 1) := by decide +kernel
theorem dL_law_964 : decode cL_law 964 = .ok (.iload_n 3, 1) := by decide +kernel
theorem dL_law_965 : decode cL_law 965 = .ok (.iconst 2, 1) := by decide +kernel
theorem dL_law_966 : decode cL_law 966 = .ok (.iadd, 1) := by decide +kernel
theorem dL_law_967 : decode cL_law 967 = .ok (.iaload, 1) := by decide +kernel
theorem dL_law_968 : decode cL_law 968 = .ok (.invokevirtual 100, 3) := by decide +kernel
theorem dL_law_971 : decode cL_law 971 = .ok (.if_icmp .eq 212, 3) := by decide +kernel
theorem dL_law_974 : decode cL_law 974 = .ok (.iconst 0, 1) := by decide +kernel
theorem dL_law_975 : decode cL_law 975 = .ok (.ireturn, 1) := by decide +kernel
theorem dL_law_976 : decode cL_law 976 = .ok (.aload_n 1, 1) := by decide +kernel
theorem dL_law_977 : decode cL_law 977 = .ok (.aload_n 0, 1) := by decide +kernel
theorem dL_law_978 : decode cL_law 978 = .ok (.iload_n 3, 1) := by decide +kernel
theorem dL_law_979 : decode cL_law 979 = .ok (.iconst 1, 1) := by decide +kernel
theorem dL_law_980 : decode cL_law 980 = .ok (.iadd, 1) := by decide +kernel
theorem dL_law_981 : decode cL_law 981 = .ok (.iaload, 1) := by decide +kernel
theorem dL_law_982 : decode cL_law 982 = .ok (.invokevirtual 101, 3) := by decide +kernel
theorem dL_law_985 : decode cL_law 985 = .ok (.aload_n 2, 1) := by decide +kernel
theorem dL_law_986 : decode cL_law 986 = .ok (.aload_n 0, 1) := by decide +kernel
theorem dL_law_987 : decode cL_law 987 = .ok (.iload_n 3, 1) := by decide +kernel
theorem dL_law_988 : decode cL_law 988 = .ok (.iconst 1, 1) := by decide +kernel
theorem dL_law_989 : decode cL_law 989 = .ok (.iadd, 1) := by decide +kernel
theorem dL_law_990 : decode cL_law 990 = .ok (.iaload, 1) := by decide +kernel
theorem dL_law_991 : decode cL_law 991 = .ok (.invokevirtual 104, 3) := by decide +kernel
theorem dL_law_994 : decode cL_law 994 = .ok (.if_icmp .eq 189, 3) := by decide +kernel
theorem dL_law_997 : decode cL_law 997 = .ok (.iconst 0, 1) := by decide +kernel
theorem dL_law_998 : decode cL_law 998 = .ok (.ireturn, 1) := by decide +kernel
theorem dL_law_999 : decode cL_law 999 = .ok (.aload_n 1, 1) := by decide +kernel
theorem dL_law_1000 : decode cL_law 1000 = .ok (.aload_n 0, 1) := by decide +kernel
theorem dL_law_1001 : decode cL_law 1001 = .ok (.iload_n 3, 1) := by decide +kernel
theorem dL_law_1002 : decode cL_law 1002 = .ok (.iconst 1, 1) := by decide +kernel
theorem dL_law_1003 : decode cL_law 1003 = .ok (.iadd, 1) := by decide +kernel
theorem dL_law_1004 : decode cL_law 1004 = .ok (.iaload, 1) := by decide +kernel
theorem dL_law_1005 : decode cL_law 1005 = .ok (.aload_n 0, 1) := by decide +kernel
theorem dL_law_1006 : decode cL_law 1006 = .ok (.iload_n 3, 1) := by decide +kernel
theorem dL_law_1007 : decode cL_law 1007 = .ok (.iconst 2, 1) := by decide +kernel
theorem dL_law_1008 : decode cL_law 1008 = .ok (.iadd, 1) := by decide +kernel
theorem dL_law_1009 : decode cL_law 1009 = .ok (.iaload, 1) := by decide +kernel
theorem dL_law_1010 : decode cL_law 1010 = .ok (.aload_n 0, 1) := by decide +kernel
theorem dL_law_1011 : decode cL_law 1011 = .ok (.iload_n 3, 1) := by decide +kernel
theorem dL_law_1012 : decode cL_law 1012 = .ok (.iconst 3, 1) := by decide +kernel
theorem dL_law_1013 : decode cL_law 1013 = .ok (.iadd, 1) := by decide +kernel
theorem dL_law_1014 : decode cL_law 1014 = .ok (.iaload, 1) := by decide +kernel
theorem dL_law_1015 : decode cL_law 1015 = .ok (.ifCond .eq 7, 3) := by decide +kernel
theorem dL_law_1018 : decode cL_law 1018 = .ok (.iconst 1, 1) := by decide +kernel
theorem dL_law_1019 : decode cL_law 1019 = .ok (.goto 4, 3) := by decide +kernel
theorem dL_law_1022 : decode cL_law 1022 = .ok (.iconst 0, 1) := by decide +kernel
theorem dL_law_1023 : decode cL_law 1023 = .ok (.invokevirtual 105, 3) := by decide +kernel
theorem dL_law_1026 : decode cL_law 1026 = .ok (.aload_n 2, 1) := by decide +kernel
theorem dL_law_1027 : decode cL_law 1027 = .ok (.aload_n 0, 1) := by decide +kernel
theorem dL_law_1028 : decode cL_law 1028 = .ok (.iload_n 3, 1) := by decide +kernel
theorem dL_law_1029 : decode cL_law 1029 = .ok (.iconst 1, 1) := by decide +kernel
theorem dL_law_1030 : decode cL_law 1030 = .ok (.iadd, 1) := by decide +kernel
theorem dL_law_1031 : decode cL_law 1031 = .ok (.iaload, 1) := by decide +kernel
theorem dL_law_1032 : decode cL_law 1032 = .ok (.aload_n 0, 1) := by decide +kernel
theorem dL_law_1033 : decode cL_law 1033 = .ok (.iload_n 3, 1) := by decide +kernel
theorem dL_law_1034 : decode cL_law 1034 = .ok (.iconst 2, 1) := by decide +kernel
theorem dL_law_1035 : decode cL_law 1035 = .ok (.iadd, 1) := by decide +kernel
theorem dL_law_1036 : decode cL_law 1036 = .ok (.iaload, 1) := by decide +kernel
theorem dL_law_1037 : decode cL_law 1037 = .ok (.aload_n 0, 1) := by decide +kernel
theorem dL_law_1038 : decode cL_law 1038 = .ok (.iload_n 3, 1) := by decide +kernel
theorem dL_law_1039 : decode cL_law 1039 = .ok (.iconst 3, 1) := by decide +kernel
theorem dL_law_1040 : decode cL_law 1040 = .ok (.iadd, 1) := by decide +kernel
theorem dL_law_1041 : decode cL_law 1041 = .ok (.iaload, 1) := by decide +kernel
theorem dL_law_1042 : decode cL_law 1042 = .ok (.ifCond .eq 7, 3) := by decide +kernel
theorem dL_law_1045 : decode cL_law 1045 = .ok (.iconst 1, 1) := by decide +kernel
theorem dL_law_1046 : decode cL_law 1046 = .ok (.goto 4, 3) := by decide +kernel
theorem dL_law_1049 : decode cL_law 1049 = .ok (.iconst 0, 1) := by decide +kernel
theorem dL_law_1050 : decode cL_law 1050 = .ok (.invokevirtual 109, 3) := by decide +kernel
theorem dL_law_1053 : decode cL_law 1053 = .ok (.if_icmp .eq 130, 3) := by decide +kernel
theorem dL_law_1056 : decode cL_law 1056 = .ok (.iconst 0, 1) := by decide +kernel
theorem dL_law_1057 : decode cL_law 1057 = .ok (.ireturn, 1) := by decide +kernel
theorem dL_law_1058 : decode cL_law 1058 = .ok (.aload_n 1, 1) := by decide +kernel
theorem dL_law_1059 : decode cL_law 1059 = .ok (.aload_n 0, 1) := by decide +kernel
theorem dL_law_1060 : decode cL_law 1060 = .ok (.iload_n 3, 1) := by decide +kernel
theorem dL_law_1061 : decode cL_law 1061 = .ok (.iconst 1, 1) := by decide +kernel
theorem dL_law_1062 : decode cL_law 1062 = .ok (.iadd, 1) := by decide +kernel
theorem dL_law_1063 : decode cL_law 1063 = .ok (.iaload, 1) := by decide +kernel
theorem dL_law_1064 : decode cL_law 1064 = .ok (.aload_n 0, 1) := by decide +kernel
theorem dL_law_1065 : decode cL_law 1065 = .ok (.iload_n 3, 1) := by decide +kernel
theorem dL_law_1066 : decode cL_law 1066 = .ok (.iconst 2, 1) := by decide +kernel
theorem dL_law_1067 : decode cL_law 1067 = .ok (.iadd, 1) := by decide +kernel
theorem dL_law_1068 : decode cL_law 1068 = .ok (.iaload, 1) := by decide +kernel
theorem dL_law_1069 : decode cL_law 1069 = .ok (.invokevirtual 110, 3) := by decide +kernel
theorem dL_law_1072 : decode cL_law 1072 = .ok (.aload_n 2, 1) := by decide +kernel
theorem dL_law_1073 : decode cL_law 1073 = .ok (.aload_n 0, 1) := by decide +kernel
theorem dL_law_1074 : decode cL_law 1074 = .ok (.iload_n 3, 1) := by decide +kernel
theorem dL_law_1075 : decode cL_law 1075 = .ok (.iconst 1, 1) := by decide +kernel
theorem dL_law_1076 : decode cL_law 1076 = .ok (.iadd, 1) := by decide +kernel
theorem dL_law_1077 : decode cL_law 1077 = .ok (.iaload, 1) := by decide +kernel
theorem dL_law_1078 : decode cL_law 1078 = .ok (.aload_n 0, 1) := by decide +kernel
theorem dL_law_1079 : decode cL_law 1079 = .ok (.iload_n 3, 1) := by decide +kernel
theorem dL_law_1080 : decode cL_law 1080 = .ok (.iconst 2, 1) := by decide +kernel
theorem dL_law_1081 : decode cL_law 1081 = .ok (.iadd, 1) := by decide +kernel
theorem dL_law_1082 : decode cL_law 1082 = .ok (.iaload, 1) := by decide +kernel
theorem dL_law_1083 : decode cL_law 1083 = .ok (.invokevirtual 113, 3) := by decide +kernel
theorem dL_law_1086 : decode cL_law 1086 = .ok (.if_icmp .eq 97, 3) := by decide +kernel
theorem dL_law_1089 : decode cL_law 1089 = .ok (.iconst 0, 1) := by decide +kernel
theorem dL_law_1090 : decode cL_law 1090 = .ok (.ireturn, 1) := by decide +kernel
theorem dL_law_1091 : decode cL_law 1091 = .ok (.aload_n 1, 1) := by decide +kernel
theorem dL_law_1092 : decode cL_law 1092 = .ok (.invokevirtual 114, 3) := by decide +kernel
theorem dL_law_1095 : decode cL_law 1095 = .ok (.aload_n 2, 1) := by decide +kernel
theorem dL_law_1096 : decode cL_law 1096 = .ok (.invokevirtual 117, 3) := by decide +kernel
theorem dL_law_1099 : decode cL_law 1099 = .ok (.if_icmp .eq 84, 3) := by decide +kernel
theorem dL_law_1102 : decode cL_law 1102 = .ok (.iconst 0, 1) := by decide +kernel
theorem dL_law_1103 : decode cL_law 1103 = .ok (.ireturn, 1) := by decide +kernel
theorem dL_law_1104 : decode cL_law 1104 = .ok (.aload_n 1, 1) := by decide +kernel
theorem dL_law_1105 : decode cL_law 1105 = .ok (.aload_n 0, 1) := by decide +kernel
theorem dL_law_1106 : decode cL_law 1106 = .ok (.iload_n 3, 1) := by decide +kernel
theorem dL_law_1107 : decode cL_law 1107 = .ok (.iconst 1, 1) := by decide +kernel
theorem dL_law_1108 : decode cL_law 1108 = .ok (.iadd, 1) := by decide +kernel
theorem dL_law_1109 : decode cL_law 1109 = .ok (.iaload, 1) := by decide +kernel
theorem dL_law_1110 : decode cL_law 1110 = .ok (.aload_n 0, 1) := by decide +kernel
theorem dL_law_1111 : decode cL_law 1111 = .ok (.iload_n 3, 1) := by decide +kernel
theorem dL_law_1112 : decode cL_law 1112 = .ok (.iconst 2, 1) := by decide +kernel
theorem dL_law_1113 : decode cL_law 1113 = .ok (.iadd, 1) := by decide +kernel
theorem dL_law_1114 : decode cL_law 1114 = .ok (.iaload, 1) := by decide +kernel
theorem dL_law_1115 : decode cL_law 1115 = .ok (.invokevirtual 118, 3) := by decide +kernel
theorem dL_law_1118 : decode cL_law 1118 = .ok (.aload_n 2, 1) := by decide +kernel
theorem dL_law_1119 : decode cL_law 1119 = .ok (.aload_n 0, 1) := by decide +kernel
theorem dL_law_1120 : decode cL_law 1120 = .ok (.iload_n 3, 1) := by decide +kernel
theorem dL_law_1121 : decode cL_law 1121 = .ok (.iconst 1, 1) := by decide +kernel
theorem dL_law_1122 : decode cL_law 1122 = .ok (.iadd, 1) := by decide +kernel
theorem dL_law_1123 : decode cL_law 1123 = .ok (.iaload, 1) := by decide +kernel
theorem dL_law_1124 : decode cL_law 1124 = .ok (.aload_n 0, 1) := by decide +kernel
theorem dL_law_1125 : decode cL_law 1125 = .ok (.iload_n 3, 1) := by decide +kernel
theorem dL_law_1126 : decode cL_law 1126 = .ok (.iconst 2, 1) := by decide +kernel
theorem dL_law_1127 : decode cL_law 1127 = .ok (.iadd, 1) := by decide +kernel
theorem dL_law_1128 : decode cL_law 1128 = .ok (.iaload, 1) := by decide +kernel
theorem dL_law_1129 : decode cL_law 1129 = .ok (.invokevirtual 121, 3) := by decide +kernel
theorem dL_law_1132 : decode cL_law 1132 = .ok (.if_icmp .eq 51, 3) := by decide +kernel
theorem dL_law_1135 : decode cL_law 1135 = .ok (.iconst 0, 1) := by decide +kernel
theorem dL_law_1136 : decode cL_law 1136 = .ok (.ireturn, 1) := by decide +kernel
theorem dL_law_1137 : decode cL_law 1137 = .ok (.aload_n 1, 1) := by decide +kernel
theorem dL_law_1138 : decode cL_law 1138 = .ok (.aload_n 0, 1) := by decide +kernel
theorem dL_law_1139 : decode cL_law 1139 = .ok (.iload_n 3, 1) := by decide +kernel
theorem dL_law_1140 : decode cL_law 1140 = .ok (.iconst 1, 1) := by decide +kernel
theorem dL_law_1141 : decode cL_law 1141 = .ok (.iadd, 1) := by decide +kernel
theorem dL_law_1142 : decode cL_law 1142 = .ok (.iaload, 1) := by decide +kernel
theorem dL_law_1143 : decode cL_law 1143 = .ok (.invokevirtual 122, 3) := by decide +kernel
theorem dL_law_1146 : decode cL_law 1146 = .ok (.aload_n 2, 1) := by decide +kernel
theorem dL_law_1147 : decode cL_law 1147 = .ok (.aload_n 0, 1) := by decide +kernel
theorem dL_law_1148 : decode cL_law 1148 = .ok (.iload_n 3, 1) := by decide +kernel
theorem dL_law_1149 : decode cL_law 1149 = .ok (.iconst 1, 1) := by decide +kernel
theorem dL_law_1150 : decode cL_law 1150 = .ok (.iadd, 1) := by decide +kernel
theorem dL_law_1151 : decode cL_law 1151 = .ok (.iaload, 1) := by decide +kernel
theorem dL_law_1152 : decode cL_law 1152 = .ok (.invokevirtual 125, 3) := by decide +kernel
theorem dL_law_1155 : decode cL_law 1155 = .ok (.if_icmp .eq 28, 3) := by decide +kernel
theorem dL_law_1158 : decode cL_law 1158 = .ok (.iconst 0, 1) := by decide +kernel
theorem dL_law_1159 : decode cL_law 1159 = .ok (.ireturn, 1) := by decide +kernel
theorem dL_law_1160 : decode cL_law 1160 = .ok (.aload_n 1, 1) := by decide +kernel
theorem dL_law_1161 : decode cL_law 1161 = .ok (.aload_n 0, 1) := by decide +kernel
theorem dL_law_1162 : decode cL_law 1162 = .ok (.iload_n 3, 1) := by decide +kernel
theorem dL_law_1163 : decode cL_law 1163 = .ok (.iconst 1, 1) := by decide +kernel
theorem dL_law_1164 : decode cL_law 1164 = .ok (.iadd, 1) := by decide +kernel
theorem dL_law_1165 : decode cL_law 1165 = .ok (.iaload, 1) := by decide +kernel
theorem dL_law_1166 : decode cL_law 1166 = .ok (.invokevirtual 126, 3) := by decide +kernel
theorem dL_law_1169 : decode cL_law 1169 = .ok (.aload_n 2, 1) := by decide +kernel
theorem dL_law_1170 : decode cL_law 1170 = .ok (.aload_n 0, 1) := by decide +kernel
theorem dL_law_1171 : decode cL_law 1171 = .ok (.iload_n 3, 1) := by decide +kernel
theorem dL_law_1172 : decode cL_law 1172 = .ok (.iconst 1, 1) := by decide +kernel
theorem dL_law_1173 : decode cL_law 1173 = .ok (.iadd, 1) := by decide +kernel
theorem dL_law_1174 : decode cL_law 1174 = .ok (.iaload, 1) := by decide +kernel
theorem dL_law_1175 : decode cL_law 1175 = .ok (.invokevirtual 129, 3) := by decide +kernel
theorem dL_law_1178 : decode cL_law 1178 = .ok (.if_icmp .eq 5, 3) := by decide +kernel
theorem dL_law_1181 : decode cL_law 1181 = .ok (.iconst 0, 1) := by decide +kernel
theorem dL_law_1182 : decode cL_law 1182 = .ok (.ireturn, 1) := by decide +kernel
theorem dL_law_1183 : decode cL_law 1183 = .ok (.iinc 3 6, 3) := by decide +kernel
theorem dL_law_1186 : decode cL_law 1186 = .ok (.goto (-1168), 3) := by decide +kernel
theorem dL_law_1189 : decode cL_law 1189 = .ok (.iconst 1, 1) := by decide +kernel
theorem dL_law_1190 : decode cL_law 1190 = .ok (.ireturn, 1) := by decide +kernel
