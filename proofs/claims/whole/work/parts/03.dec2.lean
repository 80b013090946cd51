theorem dX7_fault_28 : decode cX7_fault 28 = .ok (.bipush 6, 2) := by decide +kernel
theorem dX7_fault_30 : decode cX7_fault 30 = .ok (.if_icmp .ne 5, 3) := by decide +kernel
theorem dX7_fault_33 : decode cX7_fault 33 = .ok (.iload_n 2, 1) := by decide +kernel
theorem dX7_fault_34 : decode cX7_fault 34 = .ok (.ireturn, 1) := by decide +kernel
theorem dX7_fault_35 : decode cX7_fault 35 = .ok (.iload_n 3, 1) := by decide +kernel
theorem dX7_fault_36 : decode cX7_fault 36 = .ok (.bipush 59, 2) := by decide +kernel
theorem dX7_fault_38 : decode cX7_fault 38 = .ok (.if_icmp .ne 34, 3) := by decide +kernel
theorem dX7_fault_41 : decode cX7_fault 41 = .ok (.iload_n 1, 1) := by decide +kernel
theorem dX7_fault_42 : decode cX7_fault 42 = .ok (.ifCond .ne 5, 3) := by decide +kernel
theorem dX7_fault_45 : decode cX7_fault 45 = .ok (.iload_n 2, 1) := by decide +kernel
theorem dX7_fault_46 : decode cX7_fault 46 = .ok (.ireturn, 1) := by decide +kernel
theorem dX7_fault_47 : decode cX7_fault 47 = .ok (.aload_n 0, 1) := by decide +kernel
theorem dX7_fault_48 : decode cX7_fault 48 = .ok (.getfield 35, 3) := by decide +kernel
theorem dX7_fault_51 : decode cX7_fault 51 = .ok (.aload_n 0, 1) := by decide +kernel
theorem dX7_fault_52 : decode cX7_fault 52 = .ok (.getfield 64, 3) := by decide +kernel
theorem dX7_fault_55 : decode cX7_fault 55 = .ok (.iload_n 1, 1) := by decide +kernel
theorem dX7_fault_56 : decode cX7_fault 56 = .ok (.iastore, 1) := by decide +kernel
theorem dX7_fault_57 : decode cX7_fault 57 = .ok (.aload_n 0, 1) := by decide +kernel
theorem dX7_fault_58 : decode cX7_fault 58 = .ok (.dup, 1) := by decide +kernel
theorem dX7_fault_59 : decode cX7_fault 59 = .ok (.getfield 64, 3) := by decide +kernel
theorem dX7_fault_62 : decode cX7_fault 62 = .ok (.iconst 1, 1) := by decide +kernel
theorem dX7_fault_63 : decode cX7_fault 63 = .ok (.iadd, 1) := by decide +kernel
theorem dX7_fault_64 : decode cX7_fault 64 = .ok (.putfield 64, 3) := by decide +kernel
theorem dX7_fault_67 : decode cX7_fault 67 = .ok (.iconst 0, 1) := by decide +kernel
theorem dX7_fault_68 : decode cX7_fault 68 = .ok (.istore_n 1, 1) := by decide +kernel
theorem dX7_fault_69 : decode cX7_fault 69 = .ok (.goto 75, 3) := by decide +kernel
theorem dX7_fault_72 : decode cX7_fault 72 = .ok (.iload_n 3, 1) := by decide +kernel
theorem dX7_fault_73 : decode cX7_fault 73 = .ok (.i2l, 1) := by decide +kernel
theorem dX7_fault_74 : decode cX7_fault 74 = .ok (.ldc2_w 67, 3) := by decide +kernel
theorem dX7_fault_77 : decode cX7_fault 77 = .ok (.ldc2_w 69, 3) := by decide +kernel
theorem dX7_fault_80 : decode cX7_fault 80 = .ok (.invokestatic 46, 3) := by decide +kernel
theorem dX7_fault_83 : decode cX7_fault 83 = .ok (.ifCond .ne 9, 3) := by decide +kernel
theorem dX7_fault_86 : decode cX7_fault 86 = .ok (.iload_n 3, 1) := by decide +kernel
theorem dX7_fault_87 : decode cX7_fault 87 = .ok (.bipush 46, 2) := by decide +kernel
theorem dX7_fault_89 : decode cX7_fault 89 = .ok (.if_icmp .ne 7, 3) := by decide +kernel
theorem dX7_fault_92 : decode cX7_fault 92 = .ok (.iconst 1, 1) := by decide +kernel
theorem dX7_fault_93 : decode cX7_fault 93 = .ok (.goto 4, 3) := by decide +kernel
theorem dX7_fault_96 : decode cX7_fault 96 = .ok (.iconst 0, 1) := by decide +kernel
theorem dX7_fault_97 : decode cX7_fault 97 = .ok (.istore 4, 2) := by decide +kernel
theorem dX7_fault_99 : decode cX7_fault 99 = .ok (.iload 4, 2) := by decide +kernel
theorem dX7_fault_101 : decode cX7_fault 101 = .ok (.ifCond .eq 9, 3) := by decide +kernel
theorem dX7_fault_104 : decode cX7_fault 104 = .ok (.iload_n 1, 1) := by decide +kernel
theorem dX7_fault_105 : decode cX7_fault 105 = .ok (.bipush 12, 2) := by decide +kernel
theorem dX7_fault_107 : decode cX7_fault 107 = .ok (.if_icmp .ne 5, 3) := by decide +kernel
theorem dX7_fault_110 : decode cX7_fault 110 = .ok (.iload_n 2, 1) := by decide +kernel
theorem dX7_fault_111 : decode cX7_fault 111 = .ok (.ireturn, 1) := by decide +kernel
theorem dX7_fault_112 : decode cX7_fault 112 = .ok (.aload_n 0, 1) := by decide +kernel
theorem dX7_fault_113 : decode cX7_fault 113 = .ok (.getfield 32, 3) := by decide +kernel
theorem dX7_fault_116 : decode cX7_fault 116 = .ok (.bipush 12, 2) := by decide +kernel
theorem dX7_fault_118 : decode cX7_fault 118 = .ok (.aload_n 0, 1) := by decide +kernel
theorem dX7_fault_119 : decode cX7_fault 119 = .ok (.getfield 64, 3) := by decide +kernel
theorem dX7_fault_122 : decode cX7_fault 122 = .ok (.imul, 1) := by decide +kernel
theorem dX7_fault_123 : decode cX7_fault 123 = .ok (.iload_n 1, 1) := by decide +kernel
theorem dX7_fault_124 : decode cX7_fault 124 = .ok (.iadd, 1) := by decide +kernel
theorem dX7_fault_125 : decode cX7_fault 125 = .ok (.iload_n 3, 1) := by decide +kernel
theorem dX7_fault_126 : decode cX7_fault 126 = .ok (.bipush 46, 2) := by decide +kernel
theorem dX7_fault_128 : decode cX7_fault 128 = .ok (.if_icmp .ne 8, 3) := by decide +kernel
theorem dX7_fault_131 : decode cX7_fault 131 = .ok (.bipush 15, 2) := by decide +kernel
theorem dX7_fault_133 : decode cX7_fault 133 = .ok (.goto 7, 3) := by decide +kernel
theorem dX7_fault_136 : decode cX7_fault 136 = .ok (.iload_n 3, 1) := by decide +kernel
theorem dX7_fault_137 : decode cX7_fault 137 = .ok (.bipush 97, 2) := by decide +kernel
theorem dX7_fault_139 : decode cX7_fault 139 = .ok (.isub, 1) := by decide +kernel
theorem dX7_fault_140 : decode cX7_fault 140 = .ok (.iastore, 1) := by decide +kernel
theorem dX7_fault_141 : decode cX7_fault 141 = .ok (.iinc 1 1, 3) := by decide +kernel
theorem dX7_fault_144 : decode cX7_fault 144 = .ok (.iinc 2 1, 3) := by decide +kernel
theorem dX7_fault_147 : decode cX7_fault 147 = .ok (.goto (-138), 3) := by decide +kernel
theorem dX7_fault_150 : decode cX7_fault 150 = .ok (.iload_n 1, 1) := by decide +kernel
theorem dX7_fault_151 : decode cX7_fault 151 = .ok (.ifCond .le 10, 3) := by decide +kernel
theorem dX7_fault_154 : decode cX7_fault 154 = .ok (.aload_n 0, 1) := by decide +kernel
theorem dX7_fault_155 : decode cX7_fault 155 = .ok (.getfield 60, 3) := by decide +kernel
theorem dX7_fault_158 : decode cX7_fault 158 = .ok (.goto 5, 3) := by decide +kernel
theorem dX7_fault_161 : decode cX7_fault 161 = .ok (.bipush (-4), 2) := by decide +kernel
theorem dX7_fault_163 : decode cX7_fault 163 = .ok (.ireturn, 1) := by decide +kernel
theorem dX7_lay_0 : decode cX7_lay 0 = .ok (.iload_n 1, 1) := by decide +kernel
theorem dX7_lay_1 : decode cX7_lay 1 = .ok (.i2l, 1) := by decide +kernel
theorem dX7_lay_2 : decode cX7_lay 2 = .ok (.lconst 1, 1) := by decide +kernel
theorem dX7_lay_3 : decode cX7_lay 3 = .ok (.ldc2_w 54, 3) := by decide +kernel
theorem dX7_lay_6 : decode cX7_lay 6 = .ok (.invokestatic 46, 3) := by decide +kernel
theorem dX7_lay_9 : decode cX7_lay 9 = .ok (.ifCond .ne 5, 3) := by decide +kernel
theorem dX7_lay_12 : decode cX7_lay 12 = .ok (.iconst (-1), 1) := by decide +kernel
theorem dX7_lay_13 : decode cX7_lay 13 = .ok (.ireturn, 1) := by decide +kernel
theorem dX7_lay_14 : decode cX7_lay 14 = .ok (.aload_n 0, 1) := by decide +kernel
theorem dX7_lay_15 : decode cX7_lay 15 = .ok (.invokevirtual 71, 3) := by decide +kernel
theorem dX7_lay_18 : decode cX7_lay 18 = .ok (.bipush (-4), 2) := by decide +kernel
theorem dX7_lay_20 : decode cX7_lay 20 = .ok (.if_icmp .eq 6, 3) := by decide +kernel
theorem dX7_lay_23 : decode cX7_lay 23 = .ok (.bipush (-2), 2) := by decide +kernel
theorem dX7_lay_25 : decode cX7_lay 25 = .ok (.ireturn, 1) := by decide +kernel
theorem dX7_lay_26 : decode cX7_lay 26 = .ok (.iconst 0, 1) := by decide +kernel
theorem dX7_lay_27 : decode cX7_lay 27 = .ok (.istore_n 2, 1) := by decide +kernel
theorem dX7_lay_28 : decode cX7_lay 28 = .ok (.iload_n 2, 1) := by decide +kernel
theorem dX7_lay_29 : decode cX7_lay 29 = .ok (.aload_n 0, 1) := by decide +kernel
theorem dX7_lay_30 : decode cX7_lay 30 = .ok (.getfield 64, 3) := by decide +kernel
theorem dX7_lay_33 : decode cX7_lay 33 = .ok (.if_icmp .ge 53, 3) := by decide +kernel
theorem dX7_lay_36 : decode cX7_lay 36 = .ok (.iconst 0, 1) := by decide +kernel
theorem dX7_lay_37 : decode cX7_lay 37 = .ok (.istore_n 3, 1) := by decide +kernel
theorem dX7_lay_38 : decode cX7_lay 38 = .ok (.iload_n 3, 1) := by decide +kernel
theorem dX7_lay_39 : decode cX7_lay 39 = .ok (.aload_n 0, 1) := by decide +kernel
theorem dX7_lay_40 : decode cX7_lay 40 = .ok (.getfield 35, 3) := by decide +kernel
theorem dX7_lay_43 : decode cX7_lay 43 = .ok (.iload_n 2, 1) := by decide +kernel
theorem dX7_lay_44 : decode cX7_lay 44 = .ok (.iaload, 1) := by decide +kernel
theorem dX7_lay_45 : decode cX7_lay 45 = .ok (.if_icmp .ge 35, 3) := by decide +kernel
theorem dX7_lay_48 : decode cX7_lay 48 = .ok (.aload_n 0, 1) := by decide +kernel
theorem dX7_lay_49 : decode cX7_lay 49 = .ok (.getfield 32, 3) := by decide +kernel
theorem dX7_lay_52 : decode cX7_lay 52 = .ok (.bipush 12, 2) := by decide +kernel
theorem dX7_lay_54 : decode cX7_lay 54 = .ok (.iload_n 2, 1) := by decide +kernel
theorem dX7_lay_55 : decode cX7_lay 55 = .ok (.imul, 1) := by decide +kernel
theorem dX7_lay_56 : decode cX7_lay 56 = .ok (.iload_n 3, 1) := by decide +kernel
theorem dX7_lay_57 : decode cX7_lay 57 = .ok (.iadd, 1) := by decide +kernel
theorem dX7_lay_58 : decode cX7_lay 58 = .ok (.iaload, 1) := by decide +kernel
theorem dX7_lay_59 : decode cX7_lay 59 = .ok (.i2l, 1) := by decide +kernel
theorem dX7_lay_60 : decode cX7_lay 60 = .ok (.iload_n 1, 1) := by decide +kernel
theorem dX7_lay_61 : decode cX7_lay 61 = .ok (.i2l, 1) := by decide +kernel
theorem dX7_lay_62 : decode cX7_lay 62 = .ok (.ldc2_w 75, 3) := by decide +kernel
theorem dX7_lay_65 : decode cX7_lay 65 = .ok (.invokestatic 46, 3) := by decide +kernel
theorem dX7_lay_68 : decode cX7_lay 68 = .ok (.ifCond .eq 6, 3) := by decide +kernel
theorem dX7_lay_71 : decode cX7_lay 71 = .ok (.bipush (-2), 2) := by decide +kernel
theorem dX7_lay_73 : decode cX7_lay 73 = .ok (.ireturn, 1) := by decide +kernel
theorem dX7_lay_74 : decode cX7_lay 74 = .ok (.iinc 3 1, 3) := by decide +kernel
theorem dX7_lay_77 : decode cX7_lay 77 = .ok (.goto (-39), 3) := by decide +kernel
theorem dX7_lay_80 : decode cX7_lay 80 = .ok (.iinc 2 1, 3) := by decide +kernel
theorem dX7_lay_83 : decode cX7_lay 83 = .ok (.goto (-55), 3) := by decide +kernel
theorem dX7_lay_86 : decode cX7_lay 86 = .ok (.iconst 0, 1) := by decide +kernel
theorem dX7_lay_87 : decode cX7_lay 87 = .ok (.istore_n 2, 1) := by decide +kernel
theorem dX7_lay_88 : decode cX7_lay 88 = .ok (.iload_n 2, 1) := by decide +kernel
theorem dX7_lay_89 : decode cX7_lay 89 = .ok (.aload_n 0, 1) := by decide +kernel
theorem dX7_lay_90 : decode cX7_lay 90 = .ok (.getfield 64, 3) := by decide +kernel
theorem dX7_lay_93 : decode cX7_lay 93 = .ok (.if_icmp .ge 68, 3) := by decide +kernel
theorem dX7_lay_96 : decode cX7_lay 96 = .ok (.aload_n 0, 1) := by decide +kernel
theorem dX7_lay_97 : decode cX7_lay 97 = .ok (.getfield 7, 3) := by decide +kernel
theorem dX7_lay_100 : decode cX7_lay 100 = .ok (.iload_n 2, 1) := by decide +kernel
theorem dX7_lay_101 : decode cX7_lay 101 = .ok (.aload_n 0, 1) := by decide +kernel
theorem dX7_lay_102 : decode cX7_lay 102 = .ok (.getfield 35, 3) := by decide +kernel
theorem dX7_lay_105 : decode cX7_lay 105 = .ok (.iload_n 2, 1) := by decide +kernel
theorem dX7_lay_106 : decode cX7_lay 106 = .ok (.iaload, 1) := by decide +kernel
theorem dX7_lay_107 : decode cX7_lay 107 = .ok (.iastore, 1) := by decide +kernel
theorem dX7_lay_108 : decode cX7_lay 108 = .ok (.aload_n 0, 1) := by decide +kernel
theorem dX7_lay_109 : decode cX7_lay 109 = .ok (.getfield 13, 3) := by decide +kernel
theorem dX7_lay_112 : decode cX7_lay 112 = .ok (.iload_n 2, 1) := by decide +kernel
theorem dX7_lay_113 : decode cX7_lay 113 = .ok (.iload_n 1, 1) := by decide +kernel
theorem dX7_lay_114 : decode cX7_lay 114 = .ok (.iastore, 1) := by decide +kernel
theorem dX7_lay_115 : decode cX7_lay 115 = .ok (.iconst 0, 1) := by decide +kernel
theorem dX7_lay_116 : decode cX7_lay 116 = .ok (.istore_n 3, 1) := by decide +kernel
theorem dX7_lay_117 : decode cX7_lay 117 = .ok (.iload_n 3, 1) := by decide +kernel
theorem dX7_lay_118 : decode cX7_lay 118 = .ok (.aload_n 0, 1) := by decide +kernel
theorem dX7_lay_119 : decode cX7_lay 119 = .ok (.getfield 35, 3) := by decide +kernel
theorem dX7_lay_122 : decode cX7_lay 122 = .ok (.iload_n 2, 1) := by decide +kernel
theorem dX7_lay_123 : decode cX7_lay 123 = .ok (.iaload, 1) := by decide +kernel
theorem dX7_lay_124 : decode cX7_lay 124 = .ok (.if_icmp .ge 31, 3) := by decide +kernel
theorem dX7_lay_127 : decode cX7_lay 127 = .ok (.aload_n 0, 1) := by decide +kernel
theorem dX7_lay_128 : decode cX7_lay 128 = .ok (.getfield 16, 3) := by decide +kernel
theorem dX7_lay_131 : decode cX7_lay 131 = .ok (.bipush 12, 2) := by decide +kernel
theorem dX7_lay_133 : decode cX7_lay 133 = .ok (.iload_n 2, 1) := by decide +kernel
theorem dX7_lay_134 : decode cX7_lay 134 = .ok (.imul, 1) := by decide +kernel
theorem dX7_lay_135 : decode cX7_lay 135 = .ok (.iload_n 3, 1) := by decide +kernel
theorem dX7_lay_136 : decode cX7_lay 136 = .ok (.iadd, 1) := by decide +kernel
theorem dX7_lay_137 : decode cX7_lay 137 = .ok (.aload_n 0, 1) := by decide +kernel
theorem dX7_lay_138 : decode cX7_lay 138 = .ok (.getfield 32, 3) := by decide +kernel
theorem dX7_lay_141 : decode cX7_lay 141 = .ok (.bipush 12, 2) := by decide +kernel
theorem dX7_lay_143 : decode cX7_lay 143 = .ok (.iload_n 2, 1) := by decide +kernel
theorem dX7_lay_144 : decode cX7_lay 144 = .ok (.imul, 1) := by decide +kernel
theorem dX7_lay_145 : decode cX7_lay 145 = .ok (.iload_n 3, 1) := by decide +kernel
theorem dX7_lay_146 : decode cX7_lay 146 = .ok (.iadd, 1) := by decide +kernel
theorem dX7_lay_147 : decode cX7_lay 147 = .ok (.iaload, 1) := by decide +kernel
theorem dX7_lay_148 : decode cX7_lay 148 = .ok (.iastore, 1) := by decide +kernel
theorem dX7_lay_149 : decode cX7_lay 149 = .ok (.iinc 3 1, 3) := by decide +kernel
theorem dX7_lay_152 : decode cX7_lay 152 = .ok (.goto (-35), 3) := by decide +kernel
theorem dX7_lay_155 : decode cX7_lay 155 = .ok (.iinc 2 1, 3) := by decide +kernel
theorem dX7_lay_158 : decode cX7_lay 158 = .ok (.goto (-70), 3) := by decide +kernel
theorem dX7_lay_161 : decode cX7_lay 161 = .ok (.aload_n 0, 1) := by decide +kernel
theorem dX7_lay_162 : decode cX7_lay 162 = .ok (.getfield 64, 3) := by decide +kernel
theorem dX7_lay_165 : decode cX7_lay 165 = .ok (.ireturn, 1) := by decide +kernel
theorem dX7_at_0 : decode cX7_at 0 = .ok (.iload_n 2, 1) := by decide +kernel
theorem dX7_at_1 : decode cX7_at 1 = .ok (.i2l, 1) := by decide +kernel
theorem dX7_at_2 : decode cX7_at 2 = .ok (.lconst 0, 1) := by decide +kernel
theorem dX7_at_3 : decode cX7_at 3 = .ok (.aload_n 0, 1) := by decide +kernel
theorem dX7_at_4 : decode cX7_at 4 = .ok (.getfield 7, 3) := by decide +kernel
theorem dX7_at_7 : decode cX7_at 7 = .ok (.iload_n 1, 1) := by decide +kernel
theorem dX7_at_8 : decode cX7_at 8 = .ok (.iaload, 1) := by decide +kernel
theorem dX7_at_9 : decode cX7_at 9 = .ok (.iconst 1, 1) := by decide +kernel
theorem dX7_at_10 : decode cX7_at 10 = .ok (.isub, 1) := by decide +kernel
theorem dX7_at_11 : decode cX7_at 11 = .ok (.i2l, 1) := by decide +kernel
theorem dX7_at_12 : decode cX7_at 12 = .ok (.invokestatic 46, 3) := by decide +kernel
theorem dX7_at_15 : decode cX7_at 15 = .ok (.ifCond .eq 17, 3) := by decide +kernel
theorem dX7_at_18 : decode cX7_at 18 = .ok (.aload_n 0, 1) := by decide +kernel
theorem dX7_at_19 : decode cX7_at 19 = .ok (.getfield 16, 3) := by decide +kernel
theorem dX7_at_22 : decode cX7_at 22 = .ok (.bipush 12, 2) := by decide +kernel
theorem dX7_at_24 : decode cX7_at 24 = .ok (.iload_n 1, 1) := by decide +kernel
theorem dX7_at_25 : decode cX7_at 25 = .ok (.imul, 1) := by decide +kernel
theorem dX7_at_26 : decode cX7_at 26 = .ok (.iload_n 2, 1) := by decide +kernel
theorem dX7_at_27 : decode cX7_at 27 = .ok (.iadd, 1) := by decide +kernel
theorem dX7_at_28 : decode cX7_at 28 = .ok (.iaload, 1) := by decide +kernel
theorem dX7_at_29 : decode cX7_at 29 = .ok (.goto 5, 3) := by decide +kernel
theorem dX7_at_32 : decode cX7_at 32 = .ok (.bipush 15, 2) := by decide +kernel
theorem dX7_at_34 : decode cX7_at 34 = .ok (.ireturn, 1) := by decide +kernel
theorem dX7_told_0 : decode cX7_told 0 = .ok (.iload_n 1, 1) := by decide +kernel
theorem dX7_told_1 : decode cX7_told 1 = .ok (.invokestatic 50, 3) := by decide +kernel
theorem dX7_told_4 : decode cX7_told 4 = .ok (.ifCond .eq 15, 3) := by decide +kernel
theorem dX7_told_7 : decode cX7_told 7 = .ok (.iload_n 2, 1) := by decide +kernel
theorem dX7_told_8 : decode cX7_told 8 = .ok (.i2l, 1) := by decide +kernel
theorem dX7_told_9 : decode cX7_told 9 = .ok (.lconst 0, 1) := by decide +kernel
theorem dX7_told_10 : decode cX7_told 10 = .ok (.ldc2_w 77, 3) := by decide +kernel
theorem dX7_told_13 : decode cX7_told 13 = .ok (.invokestatic 46, 3) := by decide +kernel
theorem dX7_told_16 : decode cX7_told 16 = .ok (.ifCond .ne 5, 3) := by decide +kernel
theorem dX7_told_19 : decode cX7_told 19 = .ok (.iconst (-1), 1) := by decide +kernel
theorem dX7_told_20 : decode cX7_told 20 = .ok (.ireturn, 1) := by decide +kernel
theorem dX7_told_21 : decode cX7_told 21 = .ok (.aload_n 0, 1) := by decide +kernel
theorem dX7_told_22 : decode cX7_told 22 = .ok (.iload_n 1, 1) := by decide +kernel
theorem dX7_told_23 : decode cX7_told 23 = .ok (.iload_n 2, 1) := by decide +kernel
theorem dX7_told_24 : decode cX7_told 24 = .ok (.iconst 2, 1) := by decide +kernel
theorem dX7_told_25 : decode cX7_told 25 = .ok (.isub, 1) := by decide +kernel
theorem dX7_told_26 : decode cX7_told 26 = .ok (.invokevirtual 79, 3) := by decide +kernel
theorem dX7_told_29 : decode cX7_told 29 = .ok (.istore_n 3, 1) := by decide +kernel
theorem dX7_told_30 : decode cX7_told 30 = .ok (.iload_n 2, 1) := by decide +kernel
theorem dX7_told_31 : decode cX7_told 31 = .ok (.ifCond .ne 12, 3) := by decide +kernel
theorem dX7_told_34 : decode cX7_told 34 = .ok (.aload_n 0, 1) := by decide +kernel
theorem dX7_told_35 : decode cX7_told 35 = .ok (.getfield 7, 3) := by decide +kernel
theorem dX7_told_38 : decode cX7_told 38 = .ok (.iload_n 1, 1) := by decide +kernel
theorem dX7_told_39 : decode cX7_told 39 = .ok (.iaload, 1) := by decide +kernel
theorem dX7_told_40 : decode cX7_told 40 = .ok (.goto 29, 3) := by decide +kernel
theorem dX7_told_43 : decode cX7_told 43 = .ok (.iload_n 2, 1) := by decide +kernel
theorem dX7_told_44 : decode cX7_told 44 = .ok (.iconst 1, 1) := by decide +kernel
theorem dX7_told_45 : decode cX7_told 45 = .ok (.if_icmp .ne 12, 3) := by decide +kernel
theorem dX7_told_48 : decode cX7_told 48 = .ok (.aload_n 0, 1) := by decide +kernel
theorem dX7_told_49 : decode cX7_told 49 = .ok (.getfield 13, 3) := by decide +kernel
theorem dX7_told_52 : decode cX7_told 52 = .ok (.iload_n 1, 1) := by decide +kernel
theorem dX7_told_53 : decode cX7_told 53 = .ok (.iaload, 1) := by decide +kernel
theorem dX7_told_54 : decode cX7_told 54 = .ok (.goto 15, 3) := by decide +kernel
theorem dX7_told_57 : decode cX7_told 57 = .ok (.iload_n 3, 1) := by decide +kernel
theorem dX7_told_58 : decode cX7_told 58 = .ok (.bipush 15, 2) := by decide +kernel
theorem dX7_told_60 : decode cX7_told 60 = .ok (.if_icmp .ne 8, 3) := by decide +kernel
theorem dX7_told_63 : decode cX7_told 63 = .ok (.bipush (-4), 2) := by decide +kernel
theorem dX7_told_65 : decode cX7_told 65 = .ok (.goto 4, 3) := by decide +kernel
theorem dX7_told_68 : decode cX7_told 68 = .ok (.iload_n 3, 1) := by decide +kernel
theorem dX7_told_69 : decode cX7_told 69 = .ok (.ireturn, 1) := by decide +kernel
theorem dX7_marks_0 : decode cX7_marks 0 = .ok (.iload_n 1, 1) := by decide +kernel
theorem dX7_marks_1 : decode cX7_marks 1 = .ok (.invokestatic 50, 3) := by decide +kernel
theorem dX7_marks_4 : decode cX7_marks 4 = .ok (.ifCond .ne 7, 3) := by decide +kernel
theorem dX7_marks_7 : decode cX7_marks 7 = .ok (.ldc2_w 83, 3) := by decide +kernel
theorem dX7_marks_10 : decode cX7_marks 10 = .ok (.lreturn, 1) := by decide +kernel
theorem dX7_marks_11 : decode cX7_marks 11 = .ok (.lconst 0, 1) := by decide +kernel
theorem dX7_marks_12 : decode cX7_marks 12 = .ok (.lstore_n 2, 1) := by decide +kernel
theorem dX7_marks_13 : decode cX7_marks 13 = .ok (.iconst 0, 1) := by decide +kernel
theorem dX7_marks_14 : decode cX7_marks 14 = .ok (.istore 4, 2) := by decide +kernel
theorem dX7_marks_16 : decode cX7_marks 16 = .ok (.iload 4, 2) := by decide +kernel
theorem dX7_marks_18 : decode cX7_marks 18 = .ok (.aload_n 0, 1) := by decide +kernel
theorem dX7_marks_19 : decode cX7_marks 19 = .ok (.getfield 7, 3) := by decide +kernel
theorem dX7_marks_22 : decode cX7_marks 22 = .ok (.iload_n 1, 1) := by decide +kernel
theorem dX7_marks_23 : decode cX7_marks 23 = .ok (.iaload, 1) := by decide +kernel
theorem dX7_marks_24 : decode cX7_marks 24 = .ok (.if_icmp .ge 29, 3) := by decide +kernel
theorem dX7_marks_27 : decode cX7_marks 27 = .ok (.ldc2_w 85, 3) := by decide +kernel
theorem dX7_marks_30 : decode cX7_marks 30 = .ok (.lload_n 2, 1) := by decide +kernel
theorem dX7_marks_31 : decode cX7_marks 31 = .ok (.lmul, 1) := by decide +kernel
theorem dX7_marks_32 : decode cX7_marks 32 = .ok (.aload_n 0, 1) := by decide +kernel
theorem dX7_marks_33 : decode cX7_marks 33 = .ok (.getfield 16, 3) := by decide +kernel
theorem dX7_marks_36 : decode cX7_marks 36 = .ok (.bipush 12, 2) := by decide +kernel
theorem dX7_marks_38 : decode cX7_marks 38 = .ok (.iload_n 1, 1) := by decide +kernel
theorem dX7_marks_39 : decode cX7_marks 39 = .ok (.imul, 1) := by decide +kernel
theorem dX7_marks_40 : decode cX7_marks 40 = .ok (.iload 4, 2) := by decide +kernel
theorem dX7_marks_42 : decode cX7_marks 42 = .ok (.iadd, 1) := by decide +kernel
theorem dX7_marks_43 : decode cX7_marks 43 = .ok (.iaload, 1) := by decide +kernel
theorem dX7_marks_44 : decode cX7_marks 44 = .ok (.i2l, 1) := by decide +kernel
theorem dX7_marks_45 : decode cX7_marks 45 = .ok (.ladd, 1) := by decide +kernel
theorem dX7_marks_46 : decode cX7_marks 46 = .ok (.lstore_n 2, 1) := by decide +kernel
theorem dX7_marks_47 : decode cX7_marks 47 = .ok (.iinc 4 1, 3) := by decide +kernel
theorem dX7_marks_50 : decode cX7_marks 50 = .ok (.goto (-34), 3) := by decide +kernel
theorem dX7_marks_53 : decode cX7_marks 53 = .ok (.lload_n 2, 1) := by decide +kernel
theorem dX7_marks_54 : decode cX7_marks 54 = .ok (.lreturn, 1) := by decide +kernel
theorem dX7_off_0 : decode cX7_off 0 = .ok (.aload_n 0, 1) := by decide +kernel
theorem dX7_off_1 : decode cX7_off 1 = .ok (.iload_n 1, 1) := by decide +kernel
theorem dX7_off_2 : decode cX7_off 2 = .ok (.iload_n 3, 1) := by decide +kernel
theorem dX7_off_3 : decode cX7_off 3 = .ok (.invokevirtual 79, 3) := by decide +kernel
theorem dX7_off_6 : decode cX7_off 6 = .ok (.aload_n 0, 1) := by decide +kernel
theorem dX7_off_7 : decode cX7_off 7 = .ok (.iload_n 1, 1) := by decide +kernel
theorem dX7_off_8 : decode cX7_off 8 = .ok (.iload_n 2, 1) := by decide +kernel
theorem dX7_off_9 : decode cX7_off 9 = .ok (.invokevirtual 79, 3) := by decide +kernel
theorem dX7_off_12 : decode cX7_off 12 = .ok (.isub, 1) := by decide +kernel
theorem dX7_off_13 : decode cX7_off 13 = .ok (.istore 5, 2) := by decide +kernel
theorem dX7_off_15 : decode cX7_off 15 = .ok (.iload 4, 2) := by decide +kernel
theorem dX7_off_17 : decode cX7_off 17 = .ok (.iconst 1, 1) := by decide +kernel
theorem dX7_off_18 : decode cX7_off 18 = .ok (.if_icmp .ne 22, 3) := by decide +kernel
theorem dX7_off_21 : decode cX7_off 21 = .ok (.iload 5, 2) := by decide +kernel
theorem dX7_off_23 : decode cX7_off 23 = .ok (.aload_n 0, 1) := by decide +kernel
theorem dX7_off_24 : decode cX7_off 24 = .ok (.getfield 13, 3) := by decide +kernel
theorem dX7_off_27 : decode cX7_off 27 = .ok (.iload_n 1, 1) := by decide +kernel
theorem dX7_off_28 : decode cX7_off 28 = .ok (.iaload, 1) := by decide +kernel
theorem dX7_off_29 : decode cX7_off 29 = .ok (.iadd, 1) := by decide +kernel
theorem dX7_off_30 : decode cX7_off 30 = .ok (.aload_n 0, 1) := by decide +kernel
theorem dX7_off_31 : decode cX7_off 31 = .ok (.getfield 13, 3) := by decide +kernel
theorem dX7_off_34 : decode cX7_off 34 = .ok (.iload_n 1, 1) := by decide +kernel
theorem dX7_off_35 : decode cX7_off 35 = .ok (.iaload, 1) := by decide +kernel
theorem dX7_off_36 : decode cX7_off 36 = .ok (.irem, 1) := by decide +kernel
theorem dX7_off_37 : decode cX7_off 37 = .ok (.goto 5, 3) := by decide +kernel
theorem dX7_off_40 : decode cX7_off 40 = .ok (.iload 5, 2) := by decide +kernel
theorem dX7_off_42 : decode cX7_off 42 = .ok (.ireturn, 1) := by decide +kernel
theorem dX7_are_0 : decode cX7_are 0 = .ok (.aload_n 0, 1) := by decide +kernel
theorem dX7_are_1 : decode cX7_are 1 = .ok (.iload_n 1, 1) := by decide +kernel
theorem dX7_are_2 : decode cX7_are 2 = .ok (.iload_n 2, 1) := by decide +kernel
theorem dX7_are_3 : decode cX7_are 3 = .ok (.invokevirtual 79, 3) := by decide +kernel
theorem dX7_are_6 : decode cX7_are 6 = .ok (.bipush 15, 2) := by decide +kernel
theorem dX7_are_8 : decode cX7_are 8 = .ok (.if_icmp .ge 18, 3) := by decide +kernel
theorem dX7_are_11 : decode cX7_are 11 = .ok (.aload_n 0, 1) := by decide +kernel
theorem dX7_are_12 : decode cX7_are 12 = .ok (.iload_n 1, 1) := by decide +kernel
theorem dX7_are_13 : decode cX7_are 13 = .ok (.iload_n 3, 1) := by decide +kernel
theorem dX7_are_14 : decode cX7_are 14 = .ok (.invokevirtual 79, 3) := by decide +kernel
theorem dX7_are_17 : decode cX7_are 17 = .ok (.bipush 15, 2) := by decide +kernel
theorem dX7_are_19 : decode cX7_are 19 = .ok (.if_icmp .ge 7, 3) := by decide +kernel
theorem dX7_are_22 : decode cX7_are 22 = .ok (.iconst 1, 1) := by decide +kernel
theorem dX7_are_23 : decode cX7_are 23 = .ok (.goto 4, 3) := by decide +kernel
theorem dX7_are_26 : decode cX7_are 26 = .ok (.iconst 0, 1) := by decide +kernel
theorem dX7_are_27 : decode cX7_are 27 = .ok (.ireturn, 1) := by decide +kernel
theorem dX7_difference_0 : decode cX7_difference 0 = .ok (.iload_n 1, 1) := by decide +kernel
theorem dX7_difference_1 : decode cX7_difference 1 = .ok (.invokestatic 50, 3) := by decide +kernel
theorem dX7_difference_4 : decode cX7_difference 4 = .ok (.ifCond .eq 38, 3) := by decide +kernel
theorem dX7_difference_7 : decode cX7_difference 7 = .ok (.iload_n 2, 1) := by decide +kernel
theorem dX7_difference_8 : decode cX7_difference 8 = .ok (.i2l, 1) := by decide +kernel
theorem dX7_difference_9 : decode cX7_difference 9 = .ok (.lconst 0, 1) := by decide +kernel
theorem dX7_difference_10 : decode cX7_difference 10 = .ok (.ldc2_w 87, 3) := by decide +kernel
theorem dX7_difference_13 : decode cX7_difference 13 = .ok (.invokestatic 46, 3) := by decide +kernel
theorem dX7_difference_16 : decode cX7_difference 16 = .ok (.ifCond .eq 26, 3) := by decide +kernel
theorem dX7_difference_19 : decode cX7_difference 19 = .ok (.iload_n 3, 1) := by decide +kernel
theorem dX7_difference_20 : decode cX7_difference 20 = .ok (.i2l, 1) := by decide +kernel
theorem dX7_difference_21 : decode cX7_difference 21 = .ok (.lconst 1, 1) := by decide +kernel
theorem dX7_difference_22 : decode cX7_difference 22 = .ok (.ldc2_w 87, 3) := by decide +kernel
theorem dX7_difference_25 : decode cX7_difference 25 = .ok (.invokestatic 46, 3) := by decide +kernel
theorem dX7_difference_28 : decode cX7_difference 28 = .ok (.ifCond .eq 14, 3) := by decide +kernel
theorem dX7_difference_31 : decode cX7_difference 31 = .ok (.iload 4, 2) := by decide +kernel
theorem dX7_difference_33 : decode cX7_difference 33 = .ok (.i2l, 1) := by decide +kernel
theorem dX7_difference_34 : decode cX7_difference 34 = .ok (.lconst 0, 1) := by decide +kernel
theorem dX7_difference_35 : decode cX7_difference 35 = .ok (.lconst 1, 1) := by decide +kernel
theorem dX7_difference_36 : decode cX7_difference 36 = .ok (.invokestatic 46, 3) := by decide +kernel
theorem dX7_difference_39 : decode cX7_difference 39 = .ok (.ifCond .ne 6, 3) := by decide +kernel
theorem dX7_difference_42 : decode cX7_difference 42 = .ok (.bipush (-100), 2) := by decide +kernel
theorem dX7_difference_44 : decode cX7_difference 44 = .ok (.ireturn, 1) := by decide +kernel
theorem dX7_difference_45 : decode cX7_difference 45 = .ok (.aload_n 0, 1) := by decide +kernel
theorem dX7_difference_46 : decode cX7_difference 46 = .ok (.iload_n 1, 1) := by decide +kernel
theorem dX7_difference_47 : decode cX7_difference 47 = .ok (.iload_n 2, 1) := by decide +kernel
theorem dX7_difference_48 : decode cX7_difference 48 = .ok (.iload_n 2, 1) := by decide +kernel
theorem dX7_difference_49 : decode cX7_difference 49 = .ok (.iload_n 3, 1) := by decide +kernel
theorem dX7_difference_50 : decode cX7_difference 50 = .ok (.iadd, 1) := by decide +kernel
theorem dX7_difference_51 : decode cX7_difference 51 = .ok (.invokevirtual 89, 3) := by decide +kernel
theorem dX7_difference_54 : decode cX7_difference 54 = .ok (.ifCond .eq 17, 3) := by decide +kernel
theorem dX7_difference_57 : decode cX7_difference 57 = .ok (.aload_n 0, 1) := by decide +kernel
theorem dX7_difference_58 : decode cX7_difference 58 = .ok (.iload_n 1, 1) := by decide +kernel
theorem dX7_difference_59 : decode cX7_difference 59 = .ok (.iload_n 2, 1) := by decide +kernel
theorem dX7_difference_60 : decode cX7_difference 60 = .ok (.iload_n 2, 1) := by decide +kernel
theorem dX7_difference_61 : decode cX7_difference 61 = .ok (.iload_n 3, 1) := by decide +kernel
theorem dX7_difference_62 : decode cX7_difference 62 = .ok (.iadd, 1) := by decide +kernel
theorem dX7_difference_63 : decode cX7_difference 63 = .ok (.iload 4, 2) := by decide +kernel
theorem dX7_difference_65 : decode cX7_difference 65 = .ok (.invokevirtual 93, 3) := by decide +kernel
theorem dX7_difference_68 : decode cX7_difference 68 = .ok (.goto 5, 3) := by decide +kernel
theorem dX7_difference_71 : decode cX7_difference 71 = .ok (.bipush (-50), 2) := by decide +kernel
theorem dX7_difference_73 : decode cX7_difference 73 = .ok (.ireturn, 1) := by decide +kernel
theorem dX7_quarrels_0 : decode cX7_quarrels 0 = .ok (.iload_n 1, 1) := by decide +kernel
theorem dX7_quarrels_1 : decode cX7_quarrels 1 = .ok (.invokestatic 50, 3) := by decide +kernel
theorem dX7_quarrels_4 : decode cX7_quarrels 4 = .ok (.ifCond .eq 25, 3) := by decide +kernel
theorem dX7_quarrels_7 : decode cX7_quarrels 7 = .ok (.iload_n 2, 1) := by decide +kernel
theorem dX7_quarrels_8 : decode cX7_quarrels 8 = .ok (.i2l, 1) := by decide +kernel
theorem dX7_quarrels_9 : decode cX7_quarrels 9 = .ok (.lconst 0, 1) := by decide +kernel
theorem dX7_quarrels_10 : decode cX7_quarrels 10 = .ok (.lconst 1, 1) := by decide +kernel
theorem dX7_quarrels_11 : decode cX7_quarrels 11 = .ok (.invokestatic 46, 3) := by decide +kernel
theorem dX7_quarrels_14 : decode cX7_quarrels 14 = .ok (.ifCond .eq 15, 3) := by decide +kernel
theorem dX7_quarrels_17 : decode cX7_quarrels 17 = .ok (.iload_n 3, 1) := by decide +kernel
theorem dX7_quarrels_18 : decode cX7_quarrels 18 = .ok (.i2l, 1) := by decide +kernel
theorem dX7_quarrels_19 : decode cX7_quarrels 19 = .ok (.lconst 0, 1) := by decide +kernel
theorem dX7_quarrels_20 : decode cX7_quarrels 20 = .ok (.ldc2_w 97, 3) := by decide +kernel
theorem dX7_quarrels_23 : decode cX7_quarrels 23 = .ok (.invokestatic 46, 3) := by decide +kernel
theorem dX7_quarrels_26 : decode cX7_quarrels 26 = .ok (.ifCond .ne 5, 3) := by decide +kernel
theorem dX7_quarrels_29 : decode cX7_quarrels 29 = .ok (.iconst (-1), 1) := by decide +kernel
theorem dX7_quarrels_30 : decode cX7_quarrels 30 = .ok (.ireturn, 1) := by decide +kernel
theorem dX7_quarrels_31 : decode cX7_quarrels 31 = .ok (.iconst 0, 1) := by decide +kernel
theorem dX7_quarrels_32 : decode cX7_quarrels 32 = .ok (.istore 4, 2) := by decide +kernel
theorem dX7_quarrels_34 : decode cX7_quarrels 34 = .ok (.bipush (-4), 2) := by decide +kernel
theorem dX7_quarrels_36 : decode cX7_quarrels 36 = .ok (.istore 5, 2) := by decide +kernel
theorem dX7_quarrels_38 : decode cX7_quarrels 38 = .ok (.iconst 0, 1) := by decide +kernel
theorem dX7_quarrels_39 : decode cX7_quarrels 39 = .ok (.istore 6, 2) := by decide +kernel
theorem dX7_quarrels_41 : decode cX7_quarrels 41 = .ok (.iload 6, 2) := by decide +kernel
theorem dX7_quarrels_43 : decode cX7_quarrels 43 = .ok (.aload_n 0, 1) := by decide +kernel
theorem dX7_quarrels_44 : decode cX7_quarrels 44 = .ok (.getfield 7, 3) := by decide +kernel
theorem dX7_quarrels_47 : decode cX7_quarrels 47 = .ok (.iload_n 1, 1) := by decide +kernel
theorem dX7_quarrels_48 : decode cX7_quarrels 48 = .ok (.iaload, 1) := by decide +kernel
theorem dX7_quarrels_49 : decode cX7_quarrels 49 = .ok (.if_icmp .ge 155, 3) := by decide +kernel
theorem dX7_quarrels_52 : decode cX7_quarrels 52 = .ok (.iload 6, 2) := by decide +kernel
theorem dX7_quarrels_54 : decode cX7_quarrels 54 = .ok (.iconst 1, 1) := by decide +kernel
theorem dX7_quarrels_55 : decode cX7_quarrels 55 = .ok (.iadd, 1) := by decide +kernel
theorem dX7_quarrels_56 : decode cX7_quarrels 56 = .ok (.istore 7, 2) := by decide +kernel
theorem dX7_quarrels_58 : decode cX7_quarrels 58 = .ok (.iload 7, 2) := by decide +kernel
theorem dX7_quarrels_60 : decode cX7_quarrels 60 = .ok (.aload_n 0, 1) := by decide +kernel
theorem dX7_quarrels_61 : decode cX7_quarrels 61 = .ok (.getfield 7, 3) := by decide +kernel
theorem dX7_quarrels_64 : decode cX7_quarrels 64 = .ok (.iload_n 1, 1) := by decide +kernel
theorem dX7_quarrels_65 : decode cX7_quarrels 65 = .ok (.iaload, 1) := by decide +kernel
theorem dX7_quarrels_66 : decode cX7_quarrels 66 = .ok (.if_icmp .ge 132, 3) := by decide +kernel
theorem dX7_quarrels_69 : decode cX7_quarrels 69 = .ok (.iload 6, 2) := by decide +kernel
theorem dX7_quarrels_71 : decode cX7_quarrels 71 = .ok (.iconst 1, 1) := by decide +kernel
theorem dX7_quarrels_72 : decode cX7_quarrels 72 = .ok (.iadd, 1) := by decide +kernel
theorem dX7_quarrels_73 : decode cX7_quarrels 73 = .ok (.istore 8, 2) := by decide +kernel
theorem dX7_quarrels_75 : decode cX7_quarrels 75 = .ok (.iload 8, 2) := by decide +kernel
theorem dX7_quarrels_77 : decode cX7_quarrels 77 = .ok (.iload 7, 2) := by decide +kernel
theorem dX7_quarrels_79 : decode cX7_quarrels 79 = .ok (.iadd, 1) := by decide +kernel
theorem dX7_quarrels_80 : decode cX7_quarrels 80 = .ok (.iload 6, 2) := by decide +kernel
theorem dX7_quarrels_82 : decode cX7_quarrels 82 = .ok (.isub, 1) := by decide +kernel
theorem dX7_quarrels_83 : decode cX7_quarrels 83 = .ok (.aload_n 0, 1) := by decide +kernel
theorem dX7_quarrels_84 : decode cX7_quarrels 84 = .ok (.getfield 7, 3) := by decide +kernel
theorem dX7_quarrels_87 : decode cX7_quarrels 87 = .ok (.iload_n 1, 1) := by decide +kernel
theorem dX7_quarrels_88 : decode cX7_quarrels 88 = .ok (.iaload, 1) := by decide +kernel
theorem dX7_quarrels_89 : decode cX7_quarrels 89 = .ok (.if_icmp .ge 103, 3) := by decide +kernel
theorem dX7_quarrels_92 : decode cX7_quarrels 92 = .ok (.iload 8, 2) := by decide +kernel
theorem dX7_quarrels_94 : decode cX7_quarrels 94 = .ok (.iload 7, 2) := by decide +kernel
theorem dX7_quarrels_96 : decode cX7_quarrels 96 = .ok (.iadd, 1) := by decide +kernel
theorem dX7_quarrels_97 : decode cX7_quarrels 97 = .ok (.iload 6, 2) := by decide +kernel
theorem dX7_quarrels_99 : decode cX7_quarrels 99 = .ok (.isub, 1) := by decide +kernel
theorem dX7_quarrels_100 : decode cX7_quarrels 100 = .ok (.istore 9, 2) := by decide +kernel
theorem dX7_quarrels_102 : decode cX7_quarrels 102 = .ok (.aload_n 0, 1) := by decide +kernel
theorem dX7_quarrels_103 : decode cX7_quarrels 103 = .ok (.iload_n 1, 1) := by decide +kernel
theorem dX7_quarrels_104 : decode cX7_quarrels 104 = .ok (.iload 6, 2) := by decide +kernel
theorem dX7_quarrels_106 : decode cX7_quarrels 106 = .ok (.iload 7, 2) := by decide +kernel
theorem dX7_quarrels_108 : decode cX7_quarrels 108 = .ok (.invokevirtual 89, 3) := by decide +kernel
theorem dX7_quarrels_111 : decode cX7_quarrels 111 = .ok (.ifCond .eq 75, 3) := by decide +kernel
theorem dX7_quarrels_114 : decode cX7_quarrels 114 = .ok (.aload_n 0, 1) := by decide +kernel
theorem dX7_quarrels_115 : decode cX7_quarrels 115 = .ok (.iload_n 1, 1) := by decide +kernel
theorem dX7_quarrels_116 : decode cX7_quarrels 116 = .ok (.iload 8, 2) := by decide +kernel
theorem dX7_quarrels_118 : decode cX7_quarrels 118 = .ok (.iload 9, 2) := by decide +kernel
theorem dX7_quarrels_120 : decode cX7_quarrels 120 = .ok (.invokevirtual 89, 3) := by decide +kernel
theorem dX7_quarrels_123 : decode cX7_quarrels 123 = .ok (.ifCond .eq 63, 3) := by decide +kernel
theorem dX7_quarrels_126 : decode cX7_quarrels 126 = .ok (.aload_n 0, 1) := by decide +kernel
theorem dX7_quarrels_127 : decode cX7_quarrels 127 = .ok (.iload_n 1, 1) := by decide +kernel
theorem dX7_quarrels_128 : decode cX7_quarrels 128 = .ok (.iload 6, 2) := by decide +kernel
theorem dX7_quarrels_130 : decode cX7_quarrels 130 = .ok (.iload 7, 2) := by decide +kernel
theorem dX7_quarrels_132 : decode cX7_quarrels 132 = .ok (.iload_n 2, 1) := by decide +kernel
theorem dX7_quarrels_133 : decode cX7_quarrels 133 = .ok (.invokevirtual 93, 3) := by decide +kernel
theorem dX7_quarrels_136 : decode cX7_quarrels 136 = .ok (.aload_n 0, 1) := by decide +kernel
theorem dX7_quarrels_137 : decode cX7_quarrels 137 = .ok (.iload_n 1, 1) := by decide +kernel
theorem dX7_quarrels_138 : decode cX7_quarrels 138 = .ok (.iload 8, 2) := by decide +kernel
theorem dX7_quarrels_140 : decode cX7_quarrels 140 = .ok (.iload 9, 2) := by decide +kernel
theorem dX7_quarrels_142 : decode cX7_quarrels 142 = .ok (.iload_n 2, 1) := by decide +kernel
theorem dX7_quarrels_143 : decode cX7_quarrels 143 = .ok (.invokevirtual 93, 3) := by decide +kernel
theorem dX7_quarrels_146 : decode cX7_quarrels 146 = .ok (.if_icmp .ne 40, 3) := by decide +kernel
theorem dX7_quarrels_149 : decode cX7_quarrels 149 = .ok (.iload 4, 2) := by decide +kernel
theorem dX7_quarrels_151 : decode cX7_quarrels 151 = .ok (.ifCond .ne 28, 3) := by decide +kernel
theorem dX7_quarrels_154 : decode cX7_quarrels 154 = .ok (.sipush 4096, 3) := by decide +kernel
theorem dX7_quarrels_157 : decode cX7_quarrels 157 = .ok (.iload 6, 2) := by decide +kernel
theorem dX7_quarrels_159 : decode cX7_quarrels 159 = .ok (.imul, 1) := by decide +kernel
theorem dX7_quarrels_160 : decode cX7_quarrels 160 = .ok (.sipush 256, 3) := by decide +kernel
theorem dX7_quarrels_163 : decode cX7_quarrels 163 = .ok (.iload 7, 2) := by decide +kernel
theorem dX7_quarrels_165 : decode cX7_quarrels 165 = .ok (.imul, 1) := by decide +kernel
theorem dX7_quarrels_166 : decode cX7_quarrels 166 = .ok (.iadd, 1) := by decide +kernel
theorem dX7_quarrels_167 : decode cX7_quarrels 167 = .ok (.bipush 16, 2) := by decide +kernel
theorem dX7_quarrels_169 : decode cX7_quarrels 169 = .ok (.iload 8, 2) := by decide +kernel
theorem dX7_quarrels_171 : decode cX7_quarrels 171 = .ok (.imul, 1) := by decide +kernel
theorem dX7_quarrels_172 : decode cX7_quarrels 172 = .ok (.iadd, 1) := by decide +kernel
theorem dX7_quarrels_173 : decode cX7_quarrels 173 = .ok (.iload 9, 2) := by decide +kernel
theorem dX7_quarrels_175 : decode cX7_quarrels 175 = .ok (.iadd, 1) := by decide +kernel
theorem dX7_quarrels_176 : decode cX7_quarrels 176 = .ok (.goto 5, 3) := by decide +kernel
theorem dX7_quarrels_179 : decode cX7_quarrels 179 = .ok (.iload 5, 2) := by decide +kernel
theorem dX7_quarrels_181 : decode cX7_quarrels 181 = .ok (.istore 5, 2) := by decide +kernel
theorem dX7_quarrels_183 : decode cX7_quarrels 183 = .ok (.iinc 4 1, 3) := by decide +kernel
theorem dX7_quarrels_186 : decode cX7_quarrels 186 = .ok (.iinc 8 1, 3) := by decide +kernel
theorem dX7_quarrels_189 : decode cX7_quarrels 189 = .ok (.goto (-114), 3) := by decide +kernel
theorem dX7_quarrels_192 : decode cX7_quarrels 192 = .ok (.iinc 7 1, 3) := by decide +kernel
theorem dX7_quarrels_195 : decode cX7_quarrels 195 = .ok (.goto (-137), 3) := by decide +kernel
theorem dX7_quarrels_198 : decode cX7_quarrels 198 = .ok (.iinc 6 1, 3) := by decide +kernel
theorem dX7_quarrels_201 : decode cX7_quarrels 201 = .ok (.goto (-160), 3) := by decide +kernel
theorem dX7_quarrels_204 : decode cX7_quarrels 204 = .ok (.iload_n 3, 1) := by decide +kernel
theorem dX7_quarrels_205 : decode cX7_quarrels 205 = .ok (.ifCond .ne 8, 3) := by decide +kernel
theorem dX7_quarrels_208 : decode cX7_quarrels 208 = .ok (.iload 5, 2) := by decide +kernel
theorem dX7_quarrels_210 : decode cX7_quarrels 210 = .ok (.goto 23, 3) := by decide +kernel
theorem dX7_quarrels_213 : decode cX7_quarrels 213 = .ok (.iload_n 3, 1) := by decide +kernel
theorem dX7_quarrels_214 : decode cX7_quarrels 214 = .ok (.iconst 1, 1) := by decide +kernel
theorem dX7_quarrels_215 : decode cX7_quarrels 215 = .ok (.if_icmp .ne 8, 3) := by decide +kernel
theorem dX7_quarrels_218 : decode cX7_quarrels 218 = .ok (.iload 4, 2) := by decide +kernel
theorem dX7_quarrels_220 : decode cX7_quarrels 220 = .ok (.goto 13, 3) := by decide +kernel
theorem dX7_quarrels_223 : decode cX7_quarrels 223 = .ok (.iload 4, 2) := by decide +kernel
theorem dX7_quarrels_225 : decode cX7_quarrels 225 = .ok (.ifCond .ne 7, 3) := by decide +kernel
theorem dX7_quarrels_228 : decode cX7_quarrels 228 = .ok (.iconst 1, 1) := by decide +kernel
theorem dX7_quarrels_229 : decode cX7_quarrels 229 = .ok (.goto 4, 3) := by decide +kernel
theorem dX7_quarrels_232 : decode cX7_quarrels 232 = .ok (.iconst 0, 1) := by decide +kernel
theorem dX7_quarrels_233 : decode cX7_quarrels 233 = .ok (.ireturn, 1) := by decide +kernel
theorem dX7_hitsOf_0 : decode cX7_hitsOf 0 = .ok (.iconst 0, 1) := by decide +kernel
theorem dX7_hitsOf_1 : decode cX7_hitsOf 1 = .ok (.istore 5, 2) := by decide +kernel
theorem dX7_hitsOf_3 : decode cX7_hitsOf 3 = .ok (.iconst 0, 1) := by decide +kernel
theorem dX7_hitsOf_4 : decode cX7_hitsOf 4 = .ok (.istore 6, 2) := by decide +kernel
theorem dX7_hitsOf_6 : decode cX7_hitsOf 6 = .ok (.iload 6, 2) := by decide +kernel
theorem dX7_hitsOf_8 : decode cX7_hitsOf 8 = .ok (.aload_n 0, 1) := by decide +kernel
theorem dX7_hitsOf_9 : decode cX7_hitsOf 9 = .ok (.getfield 7, 3) := by decide +kernel
theorem dX7_hitsOf_12 : decode cX7_hitsOf 12 = .ok (.iload_n 1, 1) := by decide +kernel
theorem dX7_hitsOf_13 : decode cX7_hitsOf 13 = .ok (.iaload, 1) := by decide +kernel
theorem dX7_hitsOf_14 : decode cX7_hitsOf 14 = .ok (.if_icmp .ge 66, 3) := by decide +kernel
theorem dX7_hitsOf_17 : decode cX7_hitsOf 17 = .ok (.aload_n 0, 1) := by decide +kernel
theorem dX7_hitsOf_18 : decode cX7_hitsOf 18 = .ok (.iload_n 1, 1) := by decide +kernel
theorem dX7_hitsOf_19 : decode cX7_hitsOf 19 = .ok (.iload 6, 2) := by decide +kernel
theorem dX7_hitsOf_21 : decode cX7_hitsOf 21 = .ok (.invokevirtual 79, 3) := by decide +kernel
theorem dX7_hitsOf_24 : decode cX7_hitsOf 24 = .ok (.istore 7, 2) := by decide +kernel
theorem dX7_hitsOf_26 : decode cX7_hitsOf 26 = .ok (.iload 5, 2) := by decide +kernel
theorem dX7_hitsOf_28 : decode cX7_hitsOf 28 = .ok (.iload 7, 2) := by decide +kernel
theorem dX7_hitsOf_30 : decode cX7_hitsOf 30 = .ok (.bipush 15, 2) := by decide +kernel
theorem dX7_hitsOf_32 : decode cX7_hitsOf 32 = .ok (.if_icmp .ge 38, 3) := by decide +kernel
theorem dX7_hitsOf_35 : decode cX7_hitsOf 35 = .ok (.aload_n 0, 1) := by decide +kernel
theorem dX7_hitsOf_36 : decode cX7_hitsOf 36 = .ok (.iload_n 2, 1) := by decide +kernel
theorem dX7_hitsOf_37 : decode cX7_hitsOf 37 = .ok (.iload 6, 2) := by decide +kernel
theorem dX7_hitsOf_39 : decode cX7_hitsOf 39 = .ok (.iload_n 3, 1) := by decide +kernel
theorem dX7_hitsOf_40 : decode cX7_hitsOf 40 = .ok (.iadd, 1) := by decide +kernel
theorem dX7_hitsOf_41 : decode cX7_hitsOf 41 = .ok (.invokevirtual 79, 3) := by decide +kernel
theorem dX7_hitsOf_44 : decode cX7_hitsOf 44 = .ok (.bipush 15, 2) := by decide +kernel
theorem dX7_hitsOf_46 : decode cX7_hitsOf 46 = .ok (.if_icmp .ge 24, 3) := by decide +kernel
theorem dX7_hitsOf_49 : decode cX7_hitsOf 49 = .ok (.aload_n 0, 1) := by decide +kernel
theorem dX7_hitsOf_50 : decode cX7_hitsOf 50 = .ok (.iload_n 2, 1) := by decide +kernel
theorem dX7_hitsOf_51 : decode cX7_hitsOf 51 = .ok (.iload 6, 2) := by decide +kernel
theorem dX7_hitsOf_53 : decode cX7_hitsOf 53 = .ok (.iload_n 3, 1) := by decide +kernel
theorem dX7_hitsOf_54 : decode cX7_hitsOf 54 = .ok (.iadd, 1) := by decide +kernel
theorem dX7_hitsOf_55 : decode cX7_hitsOf 55 = .ok (.invokevirtual 79, 3) := by decide +kernel
theorem dX7_hitsOf_58 : decode cX7_hitsOf 58 = .ok (.iload 7, 2) := by decide +kernel
theorem dX7_hitsOf_60 : decode cX7_hitsOf 60 = .ok (.iload 4, 2) := by decide +kernel
theorem dX7_hitsOf_62 : decode cX7_hitsOf 62 = .ok (.iadd, 1) := by decide +kernel
theorem dX7_hitsOf_63 : decode cX7_hitsOf 63 = .ok (.if_icmp .ne 7, 3) := by decide +kernel
theorem dX7_hitsOf_66 : decode cX7_hitsOf 66 = .ok (.iconst 1, 1) := by decide +kernel
theorem dX7_hitsOf_67 : decode cX7_hitsOf 67 = .ok (.goto 4, 3) := by decide +kernel
theorem dX7_hitsOf_70 : decode cX7_hitsOf 70 = .ok (.iconst 0, 1) := by decide +kernel
theorem dX7_hitsOf_71 : decode cX7_hitsOf 71 = .ok (.iadd, 1) := by decide +kernel
theorem dX7_hitsOf_72 : decode cX7_hitsOf 72 = .ok (.istore 5, 2) := by decide +kernel
theorem dX7_hitsOf_74 : decode cX7_hitsOf 74 = .ok (.iinc 6 1, 3) := by decide +kernel
theorem dX7_hitsOf_77 : decode cX7_hitsOf 77 = .ok (.goto (-71), 3) := by decide +kernel
theorem dX7_hitsOf_80 : decode cX7_hitsOf 80 = .ok (.iload 5, 2) := by decide +kernel
theorem dX7_hitsOf_82 : decode cX7_hitsOf 82 = .ok (.ireturn, 1) := by decide +kernel
theorem dX7_roundOf_0 : decode cX7_roundOf 0 = .ok (.iconst 0, 1) := by decide +kernel
theorem dX7_roundOf_1 : decode cX7_roundOf 1 = .ok (.istore 5, 2) := by decide +kernel
theorem dX7_roundOf_3 : decode cX7_roundOf 3 = .ok (.iconst 0, 1) := by decide +kernel
theorem dX7_roundOf_4 : decode cX7_roundOf 4 = .ok (.istore 6, 2) := by decide +kernel
theorem dX7_roundOf_6 : decode cX7_roundOf 6 = .ok (.iload 6, 2) := by decide +kernel
theorem dX7_roundOf_8 : decode cX7_roundOf 8 = .ok (.aload_n 0, 1) := by decide +kernel
theorem dX7_roundOf_9 : decode cX7_roundOf 9 = .ok (.getfield 7, 3) := by decide +kernel
theorem dX7_roundOf_12 : decode cX7_roundOf 12 = .ok (.iload_n 1, 1) := by decide +kernel
theorem dX7_roundOf_13 : decode cX7_roundOf 13 = .ok (.iaload, 1) := by decide +kernel
theorem dX7_roundOf_14 : decode cX7_roundOf 14 = .ok (.if_icmp .ge 105, 3) := by decide +kernel
theorem dX7_roundOf_17 : decode cX7_roundOf 17 = .ok (.iload 6, 2) := by decide +kernel
theorem dX7_roundOf_19 : decode cX7_roundOf 19 = .ok (.aload_n 0, 1) := by decide +kernel
theorem dX7_roundOf_20 : decode cX7_roundOf 20 = .ok (.getfield 7, 3) := by decide +kernel
theorem dX7_roundOf_23 : decode cX7_roundOf 23 = .ok (.iload_n 2, 1) := by decide +kernel
theorem dX7_roundOf_24 : decode cX7_roundOf 24 = .ok (.iaload, 1) := by decide +kernel
theorem dX7_roundOf_25 : decode cX7_roundOf 25 = .ok (.if_icmp .ge 94, 3) := by decide +kernel
theorem dX7_roundOf_28 : decode cX7_roundOf 28 = .ok (.aload_n 0, 1) := by decide +kernel
theorem dX7_roundOf_29 : decode cX7_roundOf 29 = .ok (.iload_n 1, 1) := by decide +kernel
theorem dX7_roundOf_30 : decode cX7_roundOf 30 = .ok (.iload 6, 2) := by decide +kernel
theorem dX7_roundOf_32 : decode cX7_roundOf 32 = .ok (.invokevirtual 79, 3) := by decide +kernel
theorem dX7_roundOf_35 : decode cX7_roundOf 35 = .ok (.istore 7, 2) := by decide +kernel
theorem dX7_roundOf_37 : decode cX7_roundOf 37 = .ok (.iload 6, 2) := by decide +kernel
theorem dX7_roundOf_39 : decode cX7_roundOf 39 = .ok (.iload_n 3, 1) := by decide +kernel
theorem dX7_roundOf_40 : decode cX7_roundOf 40 = .ok (.iadd, 1) := by decide +kernel
theorem dX7_roundOf_41 : decode cX7_roundOf 41 = .ok (.bipush 12, 2) := by decide +kernel
theorem dX7_roundOf_43 : decode cX7_roundOf 43 = .ok (.aload_n 0, 1) := by decide +kernel
theorem dX7_roundOf_44 : decode cX7_roundOf 44 = .ok (.getfield 7, 3) := by decide +kernel
theorem dX7_roundOf_47 : decode cX7_roundOf 47 = .ok (.iload_n 2, 1) := by decide +kernel
theorem dX7_roundOf_48 : decode cX7_roundOf 48 = .ok (.iaload, 1) := by decide +kernel
theorem dX7_roundOf_49 : decode cX7_roundOf 49 = .ok (.imul, 1) := by decide +kernel
theorem dX7_roundOf_50 : decode cX7_roundOf 50 = .ok (.iadd, 1) := by decide +kernel
theorem dX7_roundOf_51 : decode cX7_roundOf 51 = .ok (.aload_n 0, 1) := by decide +kernel
theorem dX7_roundOf_52 : decode cX7_roundOf 52 = .ok (.getfield 7, 3) := by decide +kernel
theorem dX7_roundOf_55 : decode cX7_roundOf 55 = .ok (.iload_n 2, 1) := by decide +kernel
theorem dX7_roundOf_56 : decode cX7_roundOf 56 = .ok (.iaload, 1) := by decide +kernel
theorem dX7_roundOf_57 : decode cX7_roundOf 57 = .ok (.irem, 1) := by decide +kernel
theorem dX7_roundOf_58 : decode cX7_roundOf 58 = .ok (.istore 8, 2) := by decide +kernel
theorem dX7_roundOf_60 : decode cX7_roundOf 60 = .ok (.iload 5, 2) := by decide +kernel
theorem dX7_roundOf_62 : decode cX7_roundOf 62 = .ok (.iload 7, 2) := by decide +kernel
theorem dX7_roundOf_64 : decode cX7_roundOf 64 = .ok (.aload_n 0, 1) := by decide +kernel
theorem dX7_roundOf_65 : decode cX7_roundOf 65 = .ok (.getfield 13, 3) := by decide +kernel
theorem dX7_roundOf_68 : decode cX7_roundOf 68 = .ok (.iload_n 2, 1) := by decide +kernel
theorem dX7_roundOf_69 : decode cX7_roundOf 69 = .ok (.iaload, 1) := by decide +kernel
theorem dX7_roundOf_70 : decode cX7_roundOf 70 = .ok (.if_icmp .ge 39, 3) := by decide +kernel
theorem dX7_roundOf_73 : decode cX7_roundOf 73 = .ok (.aload_n 0, 1) := by decide +kernel
theorem dX7_roundOf_74 : decode cX7_roundOf 74 = .ok (.iload_n 2, 1) := by decide +kernel
theorem dX7_roundOf_75 : decode cX7_roundOf 75 = .ok (.iload 8, 2) := by decide +kernel
theorem dX7_roundOf_77 : decode cX7_roundOf 77 = .ok (.invokevirtual 79, 3) := by decide +kernel
theorem dX7_roundOf_80 : decode cX7_roundOf 80 = .ok (.iload 7, 2) := by decide +kernel
theorem dX7_roundOf_82 : decode cX7_roundOf 82 = .ok (.iload 4, 2) := by decide +kernel
theorem dX7_roundOf_84 : decode cX7_roundOf 84 = .ok (.iadd, 1) := by decide +kernel
theorem dX7_roundOf_85 : decode cX7_roundOf 85 = .ok (.bipush 12, 2) := by decide +kernel
theorem dX7_roundOf_87 : decode cX7_roundOf 87 = .ok (.aload_n 0, 1) := by decide +kernel
theorem dX7_roundOf_88 : decode cX7_roundOf 88 = .ok (.getfield 13, 3) := by decide +kernel
theorem dX7_roundOf_91 : decode cX7_roundOf 91 = .ok (.iload_n 2, 1) := by decide +kernel
theorem dX7_roundOf_92 : decode cX7_roundOf 92 = .ok (.iaload, 1) := by decide +kernel
theorem dX7_roundOf_93 : decode cX7_roundOf 93 = .ok (.imul, 1) := by decide +kernel
theorem dX7_roundOf_94 : decode cX7_roundOf 94 = .ok (.iadd, 1) := by decide +kernel
theorem dX7_roundOf_95 : decode cX7_roundOf 95 = .ok (.aload_n 0, 1) := by decide +kernel
theorem dX7_roundOf_96 : decode cX7_roundOf 96 = .ok (.getfield 13, 3) := by decide +kernel
theorem dX7_roundOf_99 : decode cX7_roundOf 99 = .ok (.iload_n 2, 1) := by decide +kernel
theorem dX7_roundOf_100 : decode cX7_roundOf 100 = .ok (.iaload, 1) := by decide +kernel
theorem dX7_roundOf_101 : decode cX7_roundOf 101 = .ok (.irem, 1) := by decide +kernel
theorem dX7_roundOf_102 : decode cX7_roundOf 102 = .ok (.if_icmp .ne 7, 3) := by decide +kernel
theorem dX7_roundOf_105 : decode cX7_roundOf 105 = .ok (.iconst 1, 1) := by decide +kernel
theorem dX7_roundOf_106 : decode cX7_roundOf 106 = .ok (.goto 4, 3) := by decide +kernel
theorem dX7_roundOf_109 : decode cX7_roundOf 109 = .ok (.iconst 0, 1) := by decide +kernel
theorem dX7_roundOf_110 : decode cX7_roundOf 110 = .ok (.iadd, 1) := by decide +kernel
theorem dX7_roundOf_111 : decode cX7_roundOf 111 = .ok (.istore 5, 2) := by decide +kernel
theorem dX7_roundOf_113 : decode cX7_roundOf 113 = .ok (.iinc 6 1, 3) := by decide +kernel
theorem dX7_roundOf_116 : decode cX7_roundOf 116 = .ok (.goto (-110), 3) := by decide +kernel
theorem dX7_roundOf_119 : decode cX7_roundOf 119 = .ok (.iload 5, 2) := by decide +kernel
theorem dX7_roundOf_121 : decode cX7_roundOf 121 = .ok (.ireturn, 1) := by decide +kernel
theorem dX7_hits_0 : decode cX7_hits 0 = .ok (.iload_n 1, 1) := by decide +kernel
theorem dX7_hits_1 : decode cX7_hits 1 = .ok (.invokestatic 50, 3) := by decide +kernel
theorem dX7_hits_4 : decode cX7_hits 4 = .ok (.ifCond .eq 39, 3) := by decide +kernel
theorem dX7_hits_7 : decode cX7_hits 7 = .ok (.iload_n 2, 1) := by decide +kernel
theorem dX7_hits_8 : decode cX7_hits 8 = .ok (.invokestatic 50, 3) := by decide +kernel
theorem dX7_hits_11 : decode cX7_hits 11 = .ok (.ifCond .eq 32, 3) := by decide +kernel
theorem dX7_hits_14 : decode cX7_hits 14 = .ok (.iload_n 3, 1) := by decide +kernel
theorem dX7_hits_15 : decode cX7_hits 15 = .ok (.i2l, 1) := by decide +kernel
theorem dX7_hits_16 : decode cX7_hits 16 = .ok (.ldc2_w 99, 3) := by decide +kernel
theorem dX7_hits_19 : decode cX7_hits 19 = .ok (.ldc2_w 54, 3) := by decide +kernel
theorem dX7_hits_22 : decode cX7_hits 22 = .ok (.invokestatic 46, 3) := by decide +kernel
theorem dX7_hits_25 : decode cX7_hits 25 = .ok (.ifCond .eq 18, 3) := by decide +kernel
theorem dX7_hits_28 : decode cX7_hits 28 = .ok (.iload 4, 2) := by decide +kernel
theorem dX7_hits_30 : decode cX7_hits 30 = .ok (.i2l, 1) := by decide +kernel
theorem dX7_hits_31 : decode cX7_hits 31 = .ok (.ldc2_w 99, 3) := by decide +kernel
theorem dX7_hits_34 : decode cX7_hits 34 = .ok (.ldc2_w 54, 3) := by decide +kernel
theorem dX7_hits_37 : decode cX7_hits 37 = .ok (.invokestatic 46, 3) := by decide +kernel
theorem dX7_hits_40 : decode cX7_hits 40 = .ok (.ifCond .ne 5, 3) := by decide +kernel
theorem dX7_hits_43 : decode cX7_hits 43 = .ok (.iconst (-1), 1) := by decide +kernel
theorem dX7_hits_44 : decode cX7_hits 44 = .ok (.ireturn, 1) := by decide +kernel
theorem dX7_hits_45 : decode cX7_hits 45 = .ok (.iload 5, 2) := by decide +kernel
theorem dX7_hits_47 : decode cX7_hits 47 = .ok (.ifCond .eq 15, 3) := by decide +kernel
theorem dX7_hits_50 : decode cX7_hits 50 = .ok (.aload_n 0, 1) := by decide +kernel
theorem dX7_hits_51 : decode cX7_hits 51 = .ok (.iload_n 1, 1) := by decide +kernel
theorem dX7_hits_52 : decode cX7_hits 52 = .ok (.iload_n 2, 1) := by decide +kernel
theorem dX7_hits_53 : decode cX7_hits 53 = .ok (.iload_n 3, 1) := by decide +kernel
theorem dX7_hits_54 : decode cX7_hits 54 = .ok (.iload 4, 2) := by decide +kernel
theorem dX7_hits_56 : decode cX7_hits 56 = .ok (.invokevirtual 101, 3) := by decide +kernel
theorem dX7_hits_59 : decode cX7_hits 59 = .ok (.goto 12, 3) := by decide +kernel
theorem dX7_hits_62 : decode cX7_hits 62 = .ok (.aload_n 0, 1) := by decide +kernel
theorem dX7_hits_63 : decode cX7_hits 63 = .ok (.iload_n 1, 1) := by decide +kernel
theorem dX7_hits_64 : decode cX7_hits 64 = .ok (.iload_n 2, 1) := by decide +kernel
theorem dX7_hits_65 : decode cX7_hits 65 = .ok (.iload_n 3, 1) := by decide +kernel
theorem dX7_hits_66 : decode cX7_hits 66 = .ok (.iload 4, 2) := by decide +kernel
theorem dX7_hits_68 : decode cX7_hits 68 = .ok (.invokevirtual 104, 3) := by decide +kernel
theorem dX7_hits_71 : decode cX7_hits 71 = .ok (.ireturn, 1) := by decide +kernel
theorem dX7_most_0 : decode cX7_most 0 = .ok (.iload_n 1, 1) := by decide +kernel
theorem dX7_most_1 : decode cX7_most 1 = .ok (.invokestatic 50, 3) := by decide +kernel
theorem dX7_most_4 : decode cX7_most 4 = .ok (.ifCond .eq 22, 3) := by decide +kernel
theorem dX7_most_7 : decode cX7_most 7 = .ok (.iload_n 2, 1) := by decide +kernel
theorem dX7_most_8 : decode cX7_most 8 = .ok (.invokestatic 50, 3) := by decide +kernel
theorem dX7_most_11 : decode cX7_most 11 = .ok (.ifCond .eq 15, 3) := by decide +kernel
theorem dX7_most_14 : decode cX7_most 14 = .ok (.iload_n 3, 1) := by decide +kernel
theorem dX7_most_15 : decode cX7_most 15 = .ok (.i2l, 1) := by decide +kernel
theorem dX7_most_16 : decode cX7_most 16 = .ok (.lconst 0, 1) := by decide +kernel
theorem dX7_most_17 : decode cX7_most 17 = .ok (.ldc2_w 107, 3) := by decide +kernel
theorem dX7_most_20 : decode cX7_most 20 = .ok (.invokestatic 46, 3) := by decide +kernel
theorem dX7_most_23 : decode cX7_most 23 = .ok (.ifCond .ne 6, 3) := by decide +kernel
theorem dX7_most_26 : decode cX7_most 26 = .ok (.bipush (-100), 2) := by decide +kernel
theorem dX7_most_28 : decode cX7_most 28 = .ok (.ireturn, 1) := by decide +kernel
theorem dX7_most_29 : decode cX7_most 29 = .ok (.iconst (-1), 1) := by decide +kernel
theorem dX7_most_30 : decode cX7_most 30 = .ok (.istore 4, 2) := by decide +kernel
theorem dX7_most_32 : decode cX7_most 32 = .ok (.iconst 0, 1) := by decide +kernel
theorem dX7_most_33 : decode cX7_most 33 = .ok (.istore 5, 2) := by decide +kernel
theorem dX7_most_35 : decode cX7_most 35 = .ok (.iconst 0, 1) := by decide +kernel
theorem dX7_most_36 : decode cX7_most 36 = .ok (.istore 6, 2) := by decide +kernel
theorem dX7_most_38 : decode cX7_most 38 = .ok (.iconst 0, 1) := by decide +kernel
theorem dX7_most_39 : decode cX7_most 39 = .ok (.istore 7, 2) := by decide +kernel
theorem dX7_most_41 : decode cX7_most 41 = .ok (.bipush (-12), 2) := by decide +kernel
theorem dX7_most_43 : decode cX7_most 43 = .ok (.istore 8, 2) := by decide +kernel
theorem dX7_most_45 : decode cX7_most 45 = .ok (.iload 8, 2) := by decide +kernel
theorem dX7_most_47 : decode cX7_most 47 = .ok (.bipush 12, 2) := by decide +kernel
theorem dX7_most_49 : decode cX7_most 49 = .ok (.if_icmp .gt 95, 3) := by decide +kernel
theorem dX7_most_52 : decode cX7_most 52 = .ok (.bipush (-12), 2) := by decide +kernel
theorem dX7_most_54 : decode cX7_most 54 = .ok (.istore 9, 2) := by decide +kernel
theorem dX7_most_56 : decode cX7_most 56 = .ok (.iload 9, 2) := by decide +kernel
theorem dX7_most_58 : decode cX7_most 58 = .ok (.bipush 12, 2) := by decide +kernel
theorem dX7_most_60 : decode cX7_most 60 = .ok (.if_icmp .gt 78, 3) := by decide +kernel
theorem dX7_most_63 : decode cX7_most 63 = .ok (.iload_n 1, 1) := by decide +kernel
theorem dX7_most_64 : decode cX7_most 64 = .ok (.iload_n 2, 1) := by decide +kernel
theorem dX7_most_65 : decode cX7_most 65 = .ok (.if_icmp .ne 17, 3) := by decide +kernel
theorem dX7_most_68 : decode cX7_most 68 = .ok (.iload 8, 2) := by decide +kernel
theorem dX7_most_70 : decode cX7_most 70 = .ok (.ifCond .ne 12, 3) := by decide +kernel
theorem dX7_most_73 : decode cX7_most 73 = .ok (.iload 9, 2) := by decide +kernel
theorem dX7_most_75 : decode cX7_most 75 = .ok (.ifCond .ne 7, 3) := by decide +kernel
theorem dX7_most_78 : decode cX7_most 78 = .ok (.iconst (-1), 1) := by decide +kernel
theorem dX7_most_79 : decode cX7_most 79 = .ok (.goto 13, 3) := by decide +kernel
theorem dX7_most_82 : decode cX7_most 82 = .ok (.aload_n 0, 1) := by decide +kernel
theorem dX7_most_83 : decode cX7_most 83 = .ok (.iload_n 1, 1) := by decide +kernel
theorem dX7_most_84 : decode cX7_most 84 = .ok (.iload_n 2, 1) := by decide +kernel
theorem dX7_most_85 : decode cX7_most 85 = .ok (.iload 8, 2) := by decide +kernel
theorem dX7_most_87 : decode cX7_most 87 = .ok (.iload 9, 2) := by decide +kernel
theorem dX7_most_89 : decode cX7_most 89 = .ok (.invokevirtual 104, 3) := by decide +kernel
theorem dX7_most_92 : decode cX7_most 92 = .ok (.istore 10, 2) := by decide +kernel
theorem dX7_most_94 : decode cX7_most 94 = .ok (.iload 7, 2) := by decide +kernel
theorem dX7_most_96 : decode cX7_most 96 = .ok (.iload 10, 2) := by decide +kernel
theorem dX7_most_98 : decode cX7_most 98 = .ok (.ifCond .ge 7, 3) := by decide +kernel
theorem dX7_most_101 : decode cX7_most 101 = .ok (.iconst 0, 1) := by decide +kernel
theorem dX7_most_102 : decode cX7_most 102 = .ok (.goto 8, 3) := by decide +kernel
theorem dX7_most_105 : decode cX7_most 105 = .ok (.iload 10, 2) := by decide +kernel
theorem dX7_most_107 : decode cX7_most 107 = .ok (.iload 10, 2) := by decide +kernel
theorem dX7_most_109 : decode cX7_most 109 = .ok (.imul, 1) := by decide +kernel
theorem dX7_most_110 : decode cX7_most 110 = .ok (.iadd, 1) := by decide +kernel
theorem dX7_most_111 : decode cX7_most 111 = .ok (.istore 7, 2) := by decide +kernel
theorem dX7_most_113 : decode cX7_most 113 = .ok (.iload 10, 2) := by decide +kernel
theorem dX7_most_115 : decode cX7_most 115 = .ok (.iload 4, 2) := by decide +kernel
theorem dX7_most_117 : decode cX7_most 117 = .ok (.if_icmp .le 15, 3) := by decide +kernel
theorem dX7_most_120 : decode cX7_most 120 = .ok (.iload 10, 2) := by decide +kernel
theorem dX7_most_122 : decode cX7_most 122 = .ok (.istore 4, 2) := by decide +kernel
theorem dX7_most_124 : decode cX7_most 124 = .ok (.iload 8, 2) := by decide +kernel
theorem dX7_most_126 : decode cX7_most 126 = .ok (.istore 5, 2) := by decide +kernel
theorem dX7_most_128 : decode cX7_most 128 = .ok (.iload 9, 2) := by decide +kernel
theorem dX7_most_130 : decode cX7_most 130 = .ok (.istore 6, 2) := by decide +kernel
theorem dX7_most_132 : decode cX7_most 132 = .ok (.iinc 9 1, 3) := by decide +kernel
theorem dX7_most_135 : decode cX7_most 135 = .ok (.goto (-79), 3) := by decide +kernel
theorem dX7_most_138 : decode cX7_most 138 = .ok (.iinc 8 1, 3) := by decide +kernel
theorem dX7_most_141 : decode cX7_most 141 = .ok (.goto (-96), 3) := by decide +kernel
theorem dX7_most_144 : decode cX7_most 144 = .ok (.iload_n 3, 1) := by decide +kernel
theorem dX7_most_145 : decode cX7_most 145 = .ok (.ifCond .ne 8, 3) := by decide +kernel
theorem dX7_most_148 : decode cX7_most 148 = .ok (.iload 4, 2) := by decide +kernel
theorem dX7_most_150 : decode cX7_most 150 = .ok (.goto 25, 3) := by decide +kernel
theorem dX7_most_153 : decode cX7_most 153 = .ok (.iload_n 3, 1) := by decide +kernel
theorem dX7_most_154 : decode cX7_most 154 = .ok (.iconst 1, 1) := by decide +kernel
theorem dX7_most_155 : decode cX7_most 155 = .ok (.if_icmp .ne 8, 3) := by decide +kernel
theorem dX7_most_158 : decode cX7_most 158 = .ok (.iload 5, 2) := by decide +kernel
theorem dX7_most_160 : decode cX7_most 160 = .ok (.goto 15, 3) := by decide +kernel
theorem dX7_most_163 : decode cX7_most 163 = .ok (.iload_n 3, 1) := by decide +kernel
theorem dX7_most_164 : decode cX7_most 164 = .ok (.iconst 2, 1) := by decide +kernel
theorem dX7_most_165 : decode cX7_most 165 = .ok (.if_icmp .ne 8, 3) := by decide +kernel
theorem dX7_most_168 : decode cX7_most 168 = .ok (.iload 6, 2) := by decide +kernel
theorem dX7_most_170 : decode cX7_most 170 = .ok (.goto 5, 3) := by decide +kernel
theorem dX7_most_173 : decode cX7_most 173 = .ok (.iload 7, 2) := by decide +kernel
theorem dX7_most_175 : decode cX7_most 175 = .ok (.ireturn, 1) := by decide +kernel
theorem dX7_isLean_0 : decode cX7_isLean 0 = .ok (.iconst 1, 1) := by decide +kernel
theorem dX7_isLean_1 : decode cX7_isLean 1 = .ok (.istore 4, 2) := by decide +kernel
theorem dX7_isLean_3 : decode cX7_isLean 3 = .ok (.iload 4, 2) := by decide +kernel
theorem dX7_isLean_5 : decode cX7_isLean 5 = .ok (.iload_n 1, 1) := by decide +kernel
theorem dX7_isLean_6 : decode cX7_isLean 6 = .ok (.if_icmp .ge 89, 3) := by decide +kernel
theorem dX7_isLean_9 : decode cX7_isLean 9 = .ok (.aload_n 0, 1) := by decide +kernel
theorem dX7_isLean_10 : decode cX7_isLean 10 = .ok (.getfield 29, 3) := by decide +kernel
theorem dX7_isLean_13 : decode cX7_isLean 13 = .ok (.iload_n 1, 1) := by decide +kernel
theorem dX7_isLean_14 : decode cX7_isLean 14 = .ok (.iaload, 1) := by decide +kernel
theorem dX7_isLean_15 : decode cX7_isLean 15 = .ok (.aload_n 0, 1) := by decide +kernel
theorem dX7_isLean_16 : decode cX7_isLean 16 = .ok (.getfield 29, 3) := by decide +kernel
theorem dX7_isLean_19 : decode cX7_isLean 19 = .ok (.iload_n 1, 1) := by decide +kernel
theorem dX7_isLean_20 : decode cX7_isLean 20 = .ok (.iload 4, 2) := by decide +kernel
theorem dX7_isLean_22 : decode cX7_isLean 22 = .ok (.isub, 1) := by decide +kernel
theorem dX7_isLean_23 : decode cX7_isLean 23 = .ok (.iaload, 1) := by decide +kernel
theorem dX7_isLean_24 : decode cX7_isLean 24 = .ok (.isub, 1) := by decide +kernel
theorem dX7_isLean_25 : decode cX7_isLean 25 = .ok (.istore 5, 2) := by decide +kernel
theorem dX7_isLean_27 : decode cX7_isLean 27 = .ok (.iload 4, 2) := by decide +kernel
theorem dX7_isLean_29 : decode cX7_isLean 29 = .ok (.istore 6, 2) := by decide +kernel
theorem dX7_isLean_31 : decode cX7_isLean 31 = .ok (.iload 6, 2) := by decide +kernel
theorem dX7_isLean_33 : decode cX7_isLean 33 = .ok (.iload_n 1, 1) := by decide +kernel
theorem dX7_isLean_34 : decode cX7_isLean 34 = .ok (.if_icmp .ge 55, 3) := by decide +kernel
theorem dX7_isLean_37 : decode cX7_isLean 37 = .ok (.aload_n 0, 1) := by decide +kernel
theorem dX7_isLean_38 : decode cX7_isLean 38 = .ok (.getfield 29, 3) := by decide +kernel
theorem dX7_isLean_41 : decode cX7_isLean 41 = .ok (.iload 6, 2) := by decide +kernel
theorem dX7_isLean_43 : decode cX7_isLean 43 = .ok (.iaload, 1) := by decide +kernel
theorem dX7_isLean_44 : decode cX7_isLean 44 = .ok (.aload_n 0, 1) := by decide +kernel
theorem dX7_isLean_45 : decode cX7_isLean 45 = .ok (.getfield 29, 3) := by decide +kernel
theorem dX7_isLean_48 : decode cX7_isLean 48 = .ok (.iload 6, 2) := by decide +kernel
theorem dX7_isLean_50 : decode cX7_isLean 50 = .ok (.iload 4, 2) := by decide +kernel
theorem dX7_isLean_52 : decode cX7_isLean 52 = .ok (.isub, 1) := by decide +kernel
theorem dX7_isLean_53 : decode cX7_isLean 53 = .ok (.iaload, 1) := by decide +kernel
theorem dX7_isLean_54 : decode cX7_isLean 54 = .ok (.isub, 1) := by decide +kernel
theorem dX7_isLean_55 : decode cX7_isLean 55 = .ok (.istore 7, 2) := by decide +kernel
theorem dX7_isLean_57 : decode cX7_isLean 57 = .ok (.iload_n 3, 1) := by decide +kernel
theorem dX7_isLean_58 : decode cX7_isLean 58 = .ok (.ifCond .ne 13, 3) := by decide +kernel
theorem dX7_isLean_61 : decode cX7_isLean 61 = .ok (.iload 5, 2) := by decide +kernel
theorem dX7_isLean_63 : decode cX7_isLean 63 = .ok (.iload 7, 2) := by decide +kernel
theorem dX7_isLean_65 : decode cX7_isLean 65 = .ok (.if_icmp .ne 18, 3) := by decide +kernel
theorem dX7_isLean_68 : decode cX7_isLean 68 = .ok (.goto 13, 3) := by decide +kernel
theorem dX7_isLean_71 : decode cX7_isLean 71 = .ok (.iload 5, 2) := by decide +kernel
theorem dX7_isLean_73 : decode cX7_isLean 73 = .ok (.iload 7, 2) := by decide +kernel
theorem dX7_isLean_75 : decode cX7_isLean 75 = .ok (.isub, 1) := by decide +kernel
theorem dX7_isLean_76 : decode cX7_isLean 76 = .ok (.iload_n 2, 1) := by decide +kernel
theorem dX7_isLean_77 : decode cX7_isLean 77 = .ok (.irem, 1) := by decide +kernel
theorem dX7_isLean_78 : decode cX7_isLean 78 = .ok (.ifCond .ne 5, 3) := by decide +kernel
theorem dX7_isLean_81 : decode cX7_isLean 81 = .ok (.iconst 0, 1) := by decide +kernel
theorem dX7_isLean_82 : decode cX7_isLean 82 = .ok (.ireturn, 1) := by decide +kernel
theorem dX7_isLean_83 : decode cX7_isLean 83 = .ok (.iinc 6 1, 3) := by decide +kernel
theorem dX7_isLean_86 : decode cX7_isLean 86 = .ok (.goto (-55), 3) := by decide +kernel
theorem dX7_isLean_89 : decode cX7_isLean 89 = .ok (.iinc 4 1, 3) := by decide +kernel
theorem dX7_isLean_92 : decode cX7_isLean 92 = .ok (.goto (-89), 3) := by decide +kernel
theorem dX7_isLean_95 : decode cX7_isLean 95 = .ok (.iconst 1, 1) := by decide +kernel
theorem dX7_isLean_96 : decode cX7_isLean 96 = .ok (.ireturn, 1) := by decide +kernel
theorem dX7_isUnlike_0 : decode cX7_isUnlike 0 = .ok (.iconst 1, 1) := by decide +kernel
theorem dX7_isUnlike_1 : decode cX7_isUnlike 1 = .ok (.istore_n 2, 1) := by decide +kernel
theorem dX7_isUnlike_2 : decode cX7_isUnlike 2 = .ok (.iconst 0, 1) := by decide +kernel
theorem dX7_isUnlike_3 : decode cX7_isUnlike 3 = .ok (.istore_n 3, 1) := by decide +kernel
theorem dX7_isUnlike_4 : decode cX7_isUnlike 4 = .ok (.iload_n 3, 1) := by decide +kernel
theorem dX7_isUnlike_5 : decode cX7_isUnlike 5 = .ok (.iload_n 1, 1) := by decide +kernel
theorem dX7_isUnlike_6 : decode cX7_isUnlike 6 = .ok (.if_icmp .ge 34, 3) := by decide +kernel
theorem dX7_isUnlike_9 : decode cX7_isUnlike 9 = .ok (.iload_n 2, 1) := by decide +kernel
theorem dX7_isUnlike_10 : decode cX7_isUnlike 10 = .ok (.ifCond .eq 22, 3) := by decide +kernel
theorem dX7_isUnlike_13 : decode cX7_isUnlike 13 = .ok (.aload_n 0, 1) := by decide +kernel
theorem dX7_isUnlike_14 : decode cX7_isUnlike 14 = .ok (.getfield 29, 3) := by decide +kernel
theorem dX7_isUnlike_17 : decode cX7_isUnlike 17 = .ok (.iload_n 3, 1) := by decide +kernel
theorem dX7_isUnlike_18 : decode cX7_isUnlike 18 = .ok (.iaload, 1) := by decide +kernel
theorem dX7_isUnlike_19 : decode cX7_isUnlike 19 = .ok (.aload_n 0, 1) := by decide +kernel
theorem dX7_isUnlike_20 : decode cX7_isUnlike 20 = .ok (.getfield 29, 3) := by decide +kernel
theorem dX7_isUnlike_23 : decode cX7_isUnlike 23 = .ok (.iload_n 1, 1) := by decide +kernel
theorem dX7_isUnlike_24 : decode cX7_isUnlike 24 = .ok (.iaload, 1) := by decide +kernel
theorem dX7_isUnlike_25 : decode cX7_isUnlike 25 = .ok (.if_icmp .eq 7, 3) := by decide +kernel
theorem dX7_isUnlike_28 : decode cX7_isUnlike 28 = .ok (.iconst 1, 1) := by decide +kernel
theorem dX7_isUnlike_29 : decode cX7_isUnlike 29 = .ok (.goto 4, 3) := by decide +kernel
theorem dX7_isUnlike_32 : decode cX7_isUnlike 32 = .ok (.iconst 0, 1) := by decide +kernel
theorem dX7_isUnlike_33 : decode cX7_isUnlike 33 = .ok (.istore_n 2, 1) := by decide +kernel
theorem dX7_isUnlike_34 : decode cX7_isUnlike 34 = .ok (.iinc 3 1, 3) := by decide +kernel
theorem dX7_isUnlike_37 : decode cX7_isUnlike 37 = .ok (.goto (-33), 3) := by decide +kernel
theorem dX7_isUnlike_40 : decode cX7_isUnlike 40 = .ok (.iload_n 2, 1) := by decide +kernel
theorem dX7_isUnlike_41 : decode cX7_isUnlike 41 = .ok (.ireturn, 1) := by decide +kernel
theorem dX7_may_0 : decode cX7_may 0 = .ok (.iload 5, 2) := by decide +kernel
theorem dX7_may_2 : decode cX7_may 2 = .ok (.ifCond .lt 31, 3) := by decide +kernel
theorem dX7_may_5 : decode cX7_may 5 = .ok (.aload_n 0, 1) := by decide +kernel
theorem dX7_may_6 : decode cX7_may 6 = .ok (.iload 5, 2) := by decide +kernel
theorem dX7_may_8 : decode cX7_may 8 = .ok (.iload_n 1, 1) := by decide +kernel
theorem dX7_may_9 : decode cX7_may 9 = .ok (.invokevirtual 79, 3) := by decide +kernel
theorem dX7_may_12 : decode cX7_may 12 = .ok (.bipush 15, 2) := by decide +kernel
theorem dX7_may_14 : decode cX7_may 14 = .ok (.if_icmp .eq 19, 3) := by decide +kernel
theorem dX7_may_17 : decode cX7_may 17 = .ok (.aload_n 0, 1) := by decide +kernel
theorem dX7_may_18 : decode cX7_may 18 = .ok (.iload 5, 2) := by decide +kernel
theorem dX7_may_20 : decode cX7_may 20 = .ok (.iload_n 1, 1) := by decide +kernel
theorem dX7_may_21 : decode cX7_may 21 = .ok (.invokevirtual 79, 3) := by decide +kernel
theorem dX7_may_24 : decode cX7_may 24 = .ok (.aload_n 0, 1) := by decide +kernel
theorem dX7_may_25 : decode cX7_may 25 = .ok (.getfield 29, 3) := by decide +kernel
theorem dX7_may_28 : decode cX7_may 28 = .ok (.iload_n 1, 1) := by decide +kernel
theorem dX7_may_29 : decode cX7_may 29 = .ok (.iaload, 1) := by decide +kernel
theorem dX7_may_30 : decode cX7_may 30 = .ok (.if_icmp .ne 7, 3) := by decide +kernel
theorem dX7_may_33 : decode cX7_may 33 = .ok (.iconst 1, 1) := by decide +kernel
theorem dX7_may_34 : decode cX7_may 34 = .ok (.goto 4, 3) := by decide +kernel
theorem dX7_may_37 : decode cX7_may 37 = .ok (.iconst 0, 1) := by decide +kernel
theorem dX7_may_38 : decode cX7_may 38 = .ok (.istore 6, 2) := by decide +kernel
theorem dX7_may_40 : decode cX7_may 40 = .ok (.iload 6, 2) := by decide +kernel
theorem dX7_may_42 : decode cX7_may 42 = .ok (.ifCond .eq 30, 3) := by decide +kernel
theorem dX7_may_45 : decode cX7_may 45 = .ok (.iload 4, 2) := by decide +kernel
theorem dX7_may_47 : decode cX7_may 47 = .ok (.ifCond .eq 11, 3) := by decide +kernel
theorem dX7_may_50 : decode cX7_may 50 = .ok (.aload_n 0, 1) := by decide +kernel
theorem dX7_may_51 : decode cX7_may 51 = .ok (.iload_n 1, 1) := by decide +kernel
theorem dX7_may_52 : decode cX7_may 52 = .ok (.invokevirtual 109, 3) := by decide +kernel
theorem dX7_may_55 : decode cX7_may 55 = .ok (.ifCond .eq 17, 3) := by decide +kernel
theorem dX7_may_58 : decode cX7_may 58 = .ok (.aload_n 0, 1) := by decide +kernel
theorem dX7_may_59 : decode cX7_may 59 = .ok (.iload_n 1, 1) := by decide +kernel
theorem dX7_may_60 : decode cX7_may 60 = .ok (.iload_n 2, 1) := by decide +kernel
theorem dX7_may_61 : decode cX7_may 61 = .ok (.iload_n 3, 1) := by decide +kernel
theorem dX7_may_62 : decode cX7_may 62 = .ok (.invokevirtual 112, 3) := by decide +kernel
theorem dX7_may_65 : decode cX7_may 65 = .ok (.ifCond .eq 7, 3) := by decide +kernel
theorem dX7_may_68 : decode cX7_may 68 = .ok (.iconst 1, 1) := by decide +kernel
theorem dX7_may_69 : decode cX7_may 69 = .ok (.goto 4, 3) := by decide +kernel
theorem dX7_may_72 : decode cX7_may 72 = .ok (.iconst 0, 1) := by decide +kernel
theorem dX7_may_73 : decode cX7_may 73 = .ok (.ireturn, 1) := by decide +kernel
theorem dX7_lays_0 : decode cX7_lays 0 = .ok (.iconst 0, 1) := by decide +kernel
theorem dX7_lays_1 : decode cX7_lays 1 = .ok (.istore 7, 2) := by decide +kernel
theorem dX7_lays_3 : decode cX7_lays 3 = .ok (.iconst 0, 1) := by decide +kernel
theorem dX7_lays_4 : decode cX7_lays 4 = .ok (.istore 8, 2) := by decide +kernel
theorem dX7_lays_6 : decode cX7_lays 6 = .ok (.aload_n 0, 1) := by decide +kernel
theorem dX7_lays_7 : decode cX7_lays 7 = .ok (.iconst 0, 1) := by decide +kernel
theorem dX7_lays_8 : decode cX7_lays 8 = .ok (.putfield 115, 3) := by decide +kernel
theorem dX7_lays_11 : decode cX7_lays 11 = .ok (.aload_n 0, 1) := by decide +kernel
theorem dX7_lays_12 : decode cX7_lays 12 = .ok (.getfield 29, 3) := by decide +kernel
theorem dX7_lays_15 : decode cX7_lays 15 = .ok (.iconst 0, 1) := by decide +kernel
theorem dX7_lays_16 : decode cX7_lays 16 = .ok (.iconst (-1), 1) := by decide +kernel
theorem dX7_lays_17 : decode cX7_lays 17 = .ok (.iastore, 1) := by decide +kernel
theorem dX7_lays_18 : decode cX7_lays 18 = .ok (.iload 8, 2) := by decide +kernel
theorem dX7_lays_20 : decode cX7_lays 20 = .ok (.ifCond .lt 89, 3) := by decide +kernel
theorem dX7_lays_23 : decode cX7_lays 23 = .ok (.aload_n 0, 1) := by decide +kernel
theorem dX7_lays_24 : decode cX7_lays 24 = .ok (.getfield 29, 3) := by decide +kernel
theorem dX7_lays_27 : decode cX7_lays 27 = .ok (.iload 8, 2) := by decide +kernel
theorem dX7_lays_29 : decode cX7_lays 29 = .ok (.dup2, 1) := by decide +kernel
theorem dX7_lays_30 : decode cX7_lays 30 = .ok (.iaload, 1) := by decide +kernel
theorem dX7_lays_31 : decode cX7_lays 31 = .ok (.iconst 1, 1) := by decide +kernel
theorem dX7_lays_32 : decode cX7_lays 32 = .ok (.iadd, 1) := by decide +kernel
theorem dX7_lays_33 : decode cX7_lays 33 = .ok (.iastore, 1) := by decide +kernel
theorem dX7_lays_34 : decode cX7_lays 34 = .ok (.aload_n 0, 1) := by decide +kernel
theorem dX7_lays_35 : decode cX7_lays 35 = .ok (.getfield 29, 3) := by decide +kernel
theorem dX7_lays_38 : decode cX7_lays 38 = .ok (.iload 8, 2) := by decide +kernel
theorem dX7_lays_40 : decode cX7_lays 40 = .ok (.iaload, 1) := by decide +kernel
theorem dX7_lays_41 : decode cX7_lays 41 = .ok (.iload_n 2, 1) := by decide +kernel
theorem dX7_lays_42 : decode cX7_lays 42 = .ok (.if_icmp .ne 9, 3) := by decide +kernel
theorem dX7_lays_45 : decode cX7_lays 45 = .ok (.iinc 8 (-1), 3) := by decide +kernel
theorem dX7_lays_48 : decode cX7_lays 48 = .ok (.goto (-30), 3) := by decide +kernel
theorem dX7_lays_51 : decode cX7_lays 51 = .ok (.aload_n 0, 1) := by decide +kernel
theorem dX7_lays_52 : decode cX7_lays 52 = .ok (.iload 8, 2) := by decide +kernel
theorem dX7_lays_54 : decode cX7_lays 54 = .ok (.iload_n 2, 1) := by decide +kernel
theorem dX7_lays_55 : decode cX7_lays 55 = .ok (.iload_n 3, 1) := by decide +kernel
theorem dX7_lays_56 : decode cX7_lays 56 = .ok (.iload 4, 2) := by decide +kernel
theorem dX7_lays_58 : decode cX7_lays 58 = .ok (.iload 5, 2) := by decide +kernel
theorem dX7_lays_60 : decode cX7_lays 60 = .ok (.invokevirtual 118, 3) := by decide +kernel
theorem dX7_lays_63 : decode cX7_lays 63 = .ok (.ifCond .eq (-45), 3) := by decide +kernel
theorem dX7_lays_66 : decode cX7_lays 66 = .ok (.iload 8, 2) := by decide +kernel
theorem dX7_lays_68 : decode cX7_lays 68 = .ok (.iload_n 1, 1) := by decide +kernel
theorem dX7_lays_69 : decode cX7_lays 69 = .ok (.iconst 1, 1) := by decide +kernel
theorem dX7_lays_70 : decode cX7_lays 70 = .ok (.isub, 1) := by decide +kernel
theorem dX7_lays_71 : decode cX7_lays 71 = .ok (.if_icmp .ge 17, 3) := by decide +kernel
theorem dX7_lays_74 : decode cX7_lays 74 = .ok (.iinc 8 1, 3) := by decide +kernel
theorem dX7_lays_77 : decode cX7_lays 77 = .ok (.aload_n 0, 1) := by decide +kernel
theorem dX7_lays_78 : decode cX7_lays 78 = .ok (.getfield 29, 3) := by decide +kernel
theorem dX7_lays_81 : decode cX7_lays 81 = .ok (.iload 8, 2) := by decide +kernel
theorem dX7_lays_83 : decode cX7_lays 83 = .ok (.iconst (-1), 1) := by decide +kernel
theorem dX7_lays_84 : decode cX7_lays 84 = .ok (.iastore, 1) := by decide +kernel
theorem dX7_lays_85 : decode cX7_lays 85 = .ok (.goto (-67), 3) := by decide +kernel
theorem dX7_lays_88 : decode cX7_lays 88 = .ok (.iload 7, 2) := by decide +kernel
theorem dX7_lays_90 : decode cX7_lays 90 = .ok (.iload 6, 2) := by decide +kernel
theorem dX7_lays_92 : decode cX7_lays 92 = .ok (.if_icmp .ne 11, 3) := by decide +kernel
theorem dX7_lays_95 : decode cX7_lays 95 = .ok (.aload_n 0, 1) := by decide +kernel
theorem dX7_lays_96 : decode cX7_lays 96 = .ok (.iconst 1, 1) := by decide +kernel
theorem dX7_lays_97 : decode cX7_lays 97 = .ok (.putfield 115, 3) := by decide +kernel
theorem dX7_lays_100 : decode cX7_lays 100 = .ok (.iload 7, 2) := by decide +kernel
theorem dX7_lays_102 : decode cX7_lays 102 = .ok (.ireturn, 1) := by decide +kernel
theorem dX7_lays_103 : decode cX7_lays 103 = .ok (.iinc 7 1, 3) := by decide +kernel
theorem dX7_lays_106 : decode cX7_lays 106 = .ok (.goto (-88), 3) := by decide +kernel
theorem dX7_lays_109 : decode cX7_lays 109 = .ok (.iload 7, 2) := by decide +kernel
theorem dX7_lays_111 : decode cX7_lays 111 = .ok (.ireturn, 1) := by decide +kernel
theorem dX7_becomes_0 : decode cX7_becomes 0 = .ok (.iload 5, 2) := by decide +kernel
theorem dX7_becomes_2 : decode cX7_becomes 2 = .ok (.ifCond .ge 6, 3) := by decide +kernel
theorem dX7_becomes_5 : decode cX7_becomes 5 = .ok (.iload 4, 2) := by decide +kernel
theorem dX7_becomes_7 : decode cX7_becomes 7 = .ok (.ireturn, 1) := by decide +kernel
theorem dX7_becomes_8 : decode cX7_becomes 8 = .ok (.aload_n 0, 1) := by decide +kernel
theorem dX7_becomes_9 : decode cX7_becomes 9 = .ok (.getfield 115, 3) := by decide +kernel
theorem dX7_becomes_12 : decode cX7_becomes 12 = .ok (.ifCond .ne 6, 3) := by decide +kernel
theorem dX7_becomes_15 : decode cX7_becomes 15 = .ok (.bipush (-4), 2) := by decide +kernel
theorem dX7_becomes_17 : decode cX7_becomes 17 = .ok (.ireturn, 1) := by decide +kernel
theorem dX7_becomes_18 : decode cX7_becomes 18 = .ok (.aload_n 0, 1) := by decide +kernel
theorem dX7_becomes_19 : decode cX7_becomes 19 = .ok (.getfield 7, 3) := by decide +kernel
theorem dX7_becomes_22 : decode cX7_becomes 22 = .ok (.iload_n 1, 1) := by decide +kernel
theorem dX7_becomes_23 : decode cX7_becomes 23 = .ok (.iload_n 2, 1) := by decide +kernel
theorem dX7_becomes_24 : decode cX7_becomes 24 = .ok (.iastore, 1) := by decide +kernel
theorem dX7_becomes_25 : decode cX7_becomes 25 = .ok (.aload_n 0, 1) := by decide +kernel
theorem dX7_becomes_26 : decode cX7_becomes 26 = .ok (.getfield 13, 3) := by decide +kernel
theorem dX7_becomes_29 : decode cX7_becomes 29 = .ok (.iload_n 1, 1) := by decide +kernel
theorem dX7_becomes_30 : decode cX7_becomes 30 = .ok (.iload_n 3, 1) := by decide +kernel
theorem dX7_becomes_31 : decode cX7_becomes 31 = .ok (.iastore, 1) := by decide +kernel
theorem dX7_becomes_32 : decode cX7_becomes 32 = .ok (.iconst 0, 1) := by decide +kernel
theorem dX7_becomes_33 : decode cX7_becomes 33 = .ok (.istore 6, 2) := by decide +kernel
theorem dX7_becomes_35 : decode cX7_becomes 35 = .ok (.iload 6, 2) := by decide +kernel
theorem dX7_becomes_37 : decode cX7_becomes 37 = .ok (.iload_n 2, 1) := by decide +kernel
theorem dX7_becomes_38 : decode cX7_becomes 38 = .ok (.if_icmp .ge 28, 3) := by decide +kernel
theorem dX7_becomes_41 : decode cX7_becomes 41 = .ok (.aload_n 0, 1) := by decide +kernel
theorem dX7_becomes_42 : decode cX7_becomes 42 = .ok (.getfield 16, 3) := by decide +kernel
theorem dX7_becomes_45 : decode cX7_becomes 45 = .ok (.bipush 12, 2) := by decide +kernel
theorem dX7_becomes_47 : decode cX7_becomes 47 = .ok (.iload_n 1, 1) := by decide +kernel
theorem dX7_becomes_48 : decode cX7_becomes 48 = .ok (.imul, 1) := by decide +kernel
theorem dX7_becomes_49 : decode cX7_becomes 49 = .ok (.iload 6, 2) := by decide +kernel
theorem dX7_becomes_51 : decode cX7_becomes 51 = .ok (.iadd, 1) := by decide +kernel
theorem dX7_becomes_52 : decode cX7_becomes 52 = .ok (.aload_n 0, 1) := by decide +kernel
theorem dX7_becomes_53 : decode cX7_becomes 53 = .ok (.getfield 29, 3) := by decide +kernel
theorem dX7_becomes_56 : decode cX7_becomes 56 = .ok (.iload 6, 2) := by decide +kernel
theorem dX7_becomes_58 : decode cX7_becomes 58 = .ok (.iaload, 1) := by decide +kernel
theorem dX7_becomes_59 : decode cX7_becomes 59 = .ok (.iastore, 1) := by decide +kernel
theorem dX7_becomes_60 : decode cX7_becomes 60 = .ok (.iinc 6 1, 3) := by decide +kernel
theorem dX7_becomes_63 : decode cX7_becomes 63 = .ok (.goto (-28), 3) := by decide +kernel
theorem dX7_becomes_66 : decode cX7_becomes 66 = .ok (.iload_n 1, 1) := by decide +kernel
theorem dX7_becomes_67 : decode cX7_becomes 67 = .ok (.ireturn, 1) := by decide +kernel
theorem dX7_squares_0 : decode cX7_squares 0 = .ok (.iload_n 1, 1) := by decide +kernel
theorem dX7_squares_1 : decode cX7_squares 1 = .ok (.i2l, 1) := by decide +kernel
theorem dX7_squares_2 : decode cX7_squares 2 = .ok (.lconst 1, 1) := by decide +kernel
theorem dX7_squares_3 : decode cX7_squares 3 = .ok (.ldc2_w 58, 3) := by decide +kernel
theorem dX7_squares_6 : decode cX7_squares 6 = .ok (.invokestatic 46, 3) := by decide +kernel
theorem dX7_squares_9 : decode cX7_squares 9 = .ok (.ifCond .eq 15, 3) := by decide +kernel
theorem dX7_squares_12 : decode cX7_squares 12 = .ok (.iload_n 2, 1) := by decide +kernel
theorem dX7_squares_13 : decode cX7_squares 13 = .ok (.iconst (-1), 1) := by decide +kernel
theorem dX7_squares_14 : decode cX7_squares 14 = .ok (.if_icmp .lt 10, 3) := by decide +kernel
theorem dX7_squares_17 : decode cX7_squares 17 = .ok (.iload_n 3, 1) := by decide +kernel
theorem dX7_squares_18 : decode cX7_squares 18 = .ok (.invokestatic 50, 3) := by decide +kernel
theorem dX7_squares_21 : decode cX7_squares 21 = .ok (.ifCond .ne 5, 3) := by decide +kernel
theorem dX7_squares_24 : decode cX7_squares 24 = .ok (.iconst (-1), 1) := by decide +kernel
theorem dX7_squares_25 : decode cX7_squares 25 = .ok (.ireturn, 1) := by decide +kernel
theorem dX7_squares_26 : decode cX7_squares 26 = .ok (.aload_n 0, 1) := by decide +kernel
theorem dX7_squares_27 : decode cX7_squares 27 = .ok (.iload_n 3, 1) := by decide +kernel
theorem dX7_squares_28 : decode cX7_squares 28 = .ok (.iload_n 1, 1) := by decide +kernel
theorem dX7_squares_29 : decode cX7_squares 29 = .ok (.iload_n 1, 1) := by decide +kernel
theorem dX7_squares_30 : decode cX7_squares 30 = .ok (.aload_n 0, 1) := by decide +kernel
theorem dX7_squares_31 : decode cX7_squares 31 = .ok (.iload_n 1, 1) := by decide +kernel
theorem dX7_squares_32 : decode cX7_squares 32 = .ok (.iload_n 1, 1) := by decide +kernel
theorem dX7_squares_33 : decode cX7_squares 33 = .ok (.iconst 0, 1) := by decide +kernel
theorem dX7_squares_34 : decode cX7_squares 34 = .ok (.iconst 1, 1) := by decide +kernel
theorem dX7_squares_35 : decode cX7_squares 35 = .ok (.iconst (-1), 1) := by decide +kernel
theorem dX7_squares_36 : decode cX7_squares 36 = .ok (.iload_n 2, 1) := by decide +kernel
theorem dX7_squares_37 : decode cX7_squares 37 = .ok (.invokevirtual 122, 3) := by decide +kernel
theorem dX7_squares_40 : decode cX7_squares 40 = .ok (.iload_n 2, 1) := by decide +kernel
theorem dX7_squares_41 : decode cX7_squares 41 = .ok (.invokevirtual 126, 3) := by decide +kernel
theorem dX7_squares_44 : decode cX7_squares 44 = .ok (.ireturn, 1) := by decide +kernel
theorem dX7_holding_0 : decode cX7_holding 0 = .ok (.iload_n 1, 1) := by decide +kernel
theorem dX7_holding_1 : decode cX7_holding 1 = .ok (.invokestatic 50, 3) := by decide +kernel
theorem dX7_holding_4 : decode cX7_holding 4 = .ok (.ifCond .eq 15, 3) := by decide +kernel
theorem dX7_holding_7 : decode cX7_holding 7 = .ok (.iload_n 2, 1) := by decide +kernel
theorem dX7_holding_8 : decode cX7_holding 8 = .ok (.iconst (-1), 1) := by decide +kernel
theorem dX7_holding_9 : decode cX7_holding 9 = .ok (.if_icmp .lt 10, 3) := by decide +kernel
theorem dX7_holding_12 : decode cX7_holding 12 = .ok (.iload_n 3, 1) := by decide +kernel
theorem dX7_holding_13 : decode cX7_holding 13 = .ok (.invokestatic 50, 3) := by decide +kernel
theorem dX7_holding_16 : decode cX7_holding 16 = .ok (.ifCond .ne 5, 3) := by decide +kernel
theorem dX7_holding_19 : decode cX7_holding 19 = .ok (.iconst (-1), 1) := by decide +kernel
theorem dX7_holding_20 : decode cX7_holding 20 = .ok (.ireturn, 1) := by decide +kernel
theorem dX7_holding_21 : decode cX7_holding 21 = .ok (.aload_n 0, 1) := by decide +kernel
theorem dX7_holding_22 : decode cX7_holding 22 = .ok (.getfield 7, 3) := by decide +kernel
theorem dX7_holding_25 : decode cX7_holding 25 = .ok (.iload_n 1, 1) := by decide +kernel
theorem dX7_holding_26 : decode cX7_holding 26 = .ok (.iaload, 1) := by decide +kernel
theorem dX7_holding_27 : decode cX7_holding 27 = .ok (.istore 4, 2) := by decide +kernel
theorem dX7_holding_29 : decode cX7_holding 29 = .ok (.iload 4, 2) := by decide +kernel
theorem dX7_holding_31 : decode cX7_holding 31 = .ok (.bipush 8, 2) := by decide +kernel
theorem dX7_holding_33 : decode cX7_holding 33 = .ok (.if_icmp .gt 14, 3) := by decide +kernel
theorem dX7_holding_36 : decode cX7_holding 36 = .ok (.aload_n 0, 1) := by decide +kernel
theorem dX7_holding_37 : decode cX7_holding 37 = .ok (.getfield 13, 3) := by decide +kernel
theorem dX7_holding_40 : decode cX7_holding 40 = .ok (.iload_n 1, 1) := by decide +kernel
theorem dX7_holding_41 : decode cX7_holding 41 = .ok (.iaload, 1) := by decide +kernel
theorem dX7_holding_42 : decode cX7_holding 42 = .ok (.iload 4, 2) := by decide +kernel
theorem dX7_holding_44 : decode cX7_holding 44 = .ok (.if_icmp .eq 6, 3) := by decide +kernel
theorem dX7_holding_47 : decode cX7_holding 47 = .ok (.bipush (-2), 2) := by decide +kernel
theorem dX7_holding_49 : decode cX7_holding 49 = .ok (.ireturn, 1) := by decide +kernel
theorem dX7_holding_50 : decode cX7_holding 50 = .ok (.aload_n 0, 1) := by decide +kernel
theorem dX7_holding_51 : decode cX7_holding 51 = .ok (.iload_n 3, 1) := by decide +kernel
theorem dX7_holding_52 : decode cX7_holding 52 = .ok (.iload 4, 2) := by decide +kernel
theorem dX7_holding_54 : decode cX7_holding 54 = .ok (.iload 4, 2) := by decide +kernel
theorem dX7_holding_56 : decode cX7_holding 56 = .ok (.aload_n 0, 1) := by decide +kernel
theorem dX7_holding_57 : decode cX7_holding 57 = .ok (.iload 4, 2) := by decide +kernel
theorem dX7_holding_59 : decode cX7_holding 59 = .ok (.iload 4, 2) := by decide +kernel
theorem dX7_holding_61 : decode cX7_holding 61 = .ok (.iconst 0, 1) := by decide +kernel
theorem dX7_holding_62 : decode cX7_holding 62 = .ok (.iconst 1, 1) := by decide +kernel
theorem dX7_holding_63 : decode cX7_holding 63 = .ok (.iload_n 1, 1) := by decide +kernel
theorem dX7_holding_64 : decode cX7_holding 64 = .ok (.iload_n 2, 1) := by decide +kernel
theorem dX7_holding_65 : decode cX7_holding 65 = .ok (.invokevirtual 122, 3) := by decide +kernel
theorem dX7_holding_68 : decode cX7_holding 68 = .ok (.iload_n 2, 1) := by decide +kernel
theorem dX7_holding_69 : decode cX7_holding 69 = .ok (.invokevirtual 126, 3) := by decide +kernel
theorem dX7_holding_72 : decode cX7_holding 72 = .ok (.ireturn, 1) := by decide +kernel
theorem dX7_quarrelsLaid_0 : decode cX7_quarrelsLaid 0 = .ok (.iconst 0, 1) := by decide +kernel
theorem dX7_quarrelsLaid_1 : decode cX7_quarrelsLaid 1 = .ok (.istore_n 2, 1) := by decide +kernel
theorem dX7_quarrelsLaid_2 : decode cX7_quarrelsLaid 2 = .ok (.iconst 1, 1) := by decide +kernel
theorem dX7_quarrelsLaid_3 : decode cX7_quarrelsLaid 3 = .ok (.istore_n 3, 1) := by decide +kernel
theorem dX7_quarrelsLaid_4 : decode cX7_quarrelsLaid 4 = .ok (.iload_n 3, 1) := by decide +kernel
theorem dX7_quarrelsLaid_5 : decode cX7_quarrelsLaid 5 = .ok (.iload_n 1, 1) := by decide +kernel
theorem dX7_quarrelsLaid_6 : decode cX7_quarrelsLaid 6 = .ok (.if_icmp .ge 91, 3) := by decide +kernel
theorem dX7_quarrelsLaid_9 : decode cX7_quarrelsLaid 9 = .ok (.iconst 0, 1) := by decide +kernel
theorem dX7_quarrelsLaid_10 : decode cX7_quarrelsLaid 10 = .ok (.istore 4, 2) := by decide +kernel
theorem dX7_quarrelsLaid_12 : decode cX7_quarrelsLaid 12 = .ok (.iload 4, 2) := by decide +kernel
theorem dX7_quarrelsLaid_14 : decode cX7_quarrelsLaid 14 = .ok (.iload_n 3, 1) := by decide +kernel
theorem dX7_quarrelsLaid_15 : decode cX7_quarrelsLaid 15 = .ok (.iadd, 1) := by decide +kernel
theorem dX7_quarrelsLaid_16 : decode cX7_quarrelsLaid 16 = .ok (.iload_n 1, 1) := by decide +kernel
theorem dX7_quarrelsLaid_17 : decode cX7_quarrelsLaid 17 = .ok (.if_icmp .ge 74, 3) := by decide +kernel
theorem dX7_quarrelsLaid_20 : decode cX7_quarrelsLaid 20 = .ok (.iload 4, 2) := by decide +kernel
theorem dX7_quarrelsLaid_22 : decode cX7_quarrelsLaid 22 = .ok (.iconst 1, 1) := by decide +kernel
theorem dX7_quarrelsLaid_23 : decode cX7_quarrelsLaid 23 = .ok (.iadd, 1) := by decide +kernel
theorem dX7_quarrelsLaid_24 : decode cX7_quarrelsLaid 24 = .ok (.istore 5, 2) := by decide +kernel
theorem dX7_quarrelsLaid_26 : decode cX7_quarrelsLaid 26 = .ok (.iload 5, 2) := by decide +kernel
theorem dX7_quarrelsLaid_28 : decode cX7_quarrelsLaid 28 = .ok (.iload_n 3, 1) := by decide +kernel
theorem dX7_quarrelsLaid_29 : decode cX7_quarrelsLaid 29 = .ok (.iadd, 1) := by decide +kernel
theorem dX7_quarrelsLaid_30 : decode cX7_quarrelsLaid 30 = .ok (.iload_n 1, 1) := by decide +kernel
theorem dX7_quarrelsLaid_31 : decode cX7_quarrelsLaid 31 = .ok (.if_icmp .ge 54, 3) := by decide +kernel
theorem dX7_quarrelsLaid_34 : decode cX7_quarrelsLaid 34 = .ok (.iload_n 2, 1) := by decide +kernel
theorem dX7_quarrelsLaid_35 : decode cX7_quarrelsLaid 35 = .ok (.aload_n 0, 1) := by decide +kernel
theorem dX7_quarrelsLaid_36 : decode cX7_quarrelsLaid 36 = .ok (.getfield 29, 3) := by decide +kernel
theorem dX7_quarrelsLaid_39 : decode cX7_quarrelsLaid 39 = .ok (.iload 4, 2) := by decide +kernel
theorem dX7_quarrelsLaid_41 : decode cX7_quarrelsLaid 41 = .ok (.iload_n 3, 1) := by decide +kernel
theorem dX7_quarrelsLaid_42 : decode cX7_quarrelsLaid 42 = .ok (.iadd, 1) := by decide +kernel
theorem dX7_quarrelsLaid_43 : decode cX7_quarrelsLaid 43 = .ok (.iaload, 1) := by decide +kernel
theorem dX7_quarrelsLaid_44 : decode cX7_quarrelsLaid 44 = .ok (.aload_n 0, 1) := by decide +kernel
theorem dX7_quarrelsLaid_45 : decode cX7_quarrelsLaid 45 = .ok (.getfield 29, 3) := by decide +kernel
theorem dX7_quarrelsLaid_48 : decode cX7_quarrelsLaid 48 = .ok (.iload 4, 2) := by decide +kernel
theorem dX7_quarrelsLaid_50 : decode cX7_quarrelsLaid 50 = .ok (.iaload, 1) := by decide +kernel
theorem dX7_quarrelsLaid_51 : decode cX7_quarrelsLaid 51 = .ok (.isub, 1) := by decide +kernel
theorem dX7_quarrelsLaid_52 : decode cX7_quarrelsLaid 52 = .ok (.aload_n 0, 1) := by decide +kernel
theorem dX7_quarrelsLaid_53 : decode cX7_quarrelsLaid 53 = .ok (.getfield 29, 3) := by decide +kernel
theorem dX7_quarrelsLaid_56 : decode cX7_quarrelsLaid 56 = .ok (.iload 5, 2) := by decide +kernel
theorem dX7_quarrelsLaid_58 : decode cX7_quarrelsLaid 58 = .ok (.iload_n 3, 1) := by decide +kernel
theorem dX7_quarrelsLaid_59 : decode cX7_quarrelsLaid 59 = .ok (.iadd, 1) := by decide +kernel
theorem dX7_quarrelsLaid_60 : decode cX7_quarrelsLaid 60 = .ok (.iaload, 1) := by decide +kernel
theorem dX7_quarrelsLaid_61 : decode cX7_quarrelsLaid 61 = .ok (.aload_n 0, 1) := by decide +kernel
theorem dX7_quarrelsLaid_62 : decode cX7_quarrelsLaid 62 = .ok (.getfield 29, 3) := by decide +kernel
theorem dX7_quarrelsLaid_65 : decode cX7_quarrelsLaid 65 = .ok (.iload 5, 2) := by decide +kernel
theorem dX7_quarrelsLaid_67 : decode cX7_quarrelsLaid 67 = .ok (.iaload, 1) := by decide +kernel
theorem dX7_quarrelsLaid_68 : decode cX7_quarrelsLaid 68 = .ok (.isub, 1) := by decide +kernel
theorem dX7_quarrelsLaid_69 : decode cX7_quarrelsLaid 69 = .ok (.if_icmp .ne 7, 3) := by decide +kernel
theorem dX7_quarrelsLaid_72 : decode cX7_quarrelsLaid 72 = .ok (.iconst 1, 1) := by decide +kernel
theorem dX7_quarrelsLaid_73 : decode cX7_quarrelsLaid 73 = .ok (.goto 4, 3) := by decide +kernel
theorem dX7_quarrelsLaid_76 : decode cX7_quarrelsLaid 76 = .ok (.iconst 0, 1) := by decide +kernel
theorem dX7_quarrelsLaid_77 : decode cX7_quarrelsLaid 77 = .ok (.iadd, 1) := by decide +kernel
theorem dX7_quarrelsLaid_78 : decode cX7_quarrelsLaid 78 = .ok (.istore_n 2, 1) := by decide +kernel
theorem dX7_quarrelsLaid_79 : decode cX7_quarrelsLaid 79 = .ok (.iinc 5 1, 3) := by decide +kernel
theorem dX7_quarrelsLaid_82 : decode cX7_quarrelsLaid 82 = .ok (.goto (-56), 3) := by decide +kernel
theorem dX7_quarrelsLaid_85 : decode cX7_quarrelsLaid 85 = .ok (.iinc 4 1, 3) := by decide +kernel
theorem dX7_quarrelsLaid_88 : decode cX7_quarrelsLaid 88 = .ok (.goto (-76), 3) := by decide +kernel
theorem dX7_quarrelsLaid_91 : decode cX7_quarrelsLaid 91 = .ok (.iinc 3 1, 3) := by decide +kernel
theorem dX7_quarrelsLaid_94 : decode cX7_quarrelsLaid 94 = .ok (.goto (-90), 3) := by decide +kernel
theorem dX7_quarrelsLaid_97 : decode cX7_quarrelsLaid 97 = .ok (.iload_n 2, 1) := by decide +kernel
theorem dX7_quarrelsLaid_98 : decode cX7_quarrelsLaid 98 = .ok (.ireturn, 1) := by decide +kernel
theorem dX7_nearly_0 : decode cX7_nearly 0 = .ok (.iload_n 1, 1) := by decide +kernel
theorem dX7_nearly_1 : decode cX7_nearly 1 = .ok (.i2l, 1) := by decide +kernel
theorem dX7_nearly_2 : decode cX7_nearly 2 = .ok (.lconst 1, 1) := by decide +kernel
theorem dX7_nearly_3 : decode cX7_nearly 3 = .ok (.ldc2_w 130, 3) := by decide +kernel
theorem dX7_nearly_6 : decode cX7_nearly 6 = .ok (.invokestatic 46, 3) := by decide +kernel
theorem dX7_nearly_9 : decode cX7_nearly 9 = .ok (.ifCond .eq 7, 3) := by decide +kernel
theorem dX7_nearly_12 : decode cX7_nearly 12 = .ok (.iload_n 2, 1) := by decide +kernel
theorem dX7_nearly_13 : decode cX7_nearly 13 = .ok (.ifCond .ge 5, 3) := by decide +kernel
theorem dX7_nearly_16 : decode cX7_nearly 16 = .ok (.iconst (-1), 1) := by decide +kernel
theorem dX7_nearly_17 : decode cX7_nearly 17 = .ok (.ireturn, 1) := by decide +kernel
theorem dX7_nearly_18 : decode cX7_nearly 18 = .ok (.iconst 0, 1) := by decide +kernel
theorem dX7_nearly_19 : decode cX7_nearly 19 = .ok (.istore_n 3, 1) := by decide +kernel
theorem dX7_nearly_20 : decode cX7_nearly 20 = .ok (.iconst 1, 1) := by decide +kernel
theorem dX7_nearly_21 : decode cX7_nearly 21 = .ok (.istore 4, 2) := by decide +kernel
theorem dX7_nearly_23 : decode cX7_nearly 23 = .ok (.iconst 0, 1) := by decide +kernel
theorem dX7_nearly_24 : decode cX7_nearly 24 = .ok (.istore 5, 2) := by decide +kernel
theorem dX7_nearly_26 : decode cX7_nearly 26 = .ok (.iload 5, 2) := by decide +kernel
theorem dX7_nearly_28 : decode cX7_nearly 28 = .ok (.iload_n 1, 1) := by decide +kernel
theorem dX7_nearly_29 : decode cX7_nearly 29 = .ok (.if_icmp .ge 15, 3) := by decide +kernel
theorem dX7_nearly_32 : decode cX7_nearly 32 = .ok (.iload 4, 2) := by decide +kernel
theorem dX7_nearly_34 : decode cX7_nearly 34 = .ok (.iload_n 1, 1) := by decide +kernel
theorem dX7_nearly_35 : decode cX7_nearly 35 = .ok (.imul, 1) := by decide +kernel
theorem dX7_nearly_36 : decode cX7_nearly 36 = .ok (.istore 4, 2) := by decide +kernel
theorem dX7_nearly_38 : decode cX7_nearly 38 = .ok (.iinc 5 1, 3) := by decide +kernel
theorem dX7_nearly_41 : decode cX7_nearly 41 = .ok (.goto (-15), 3) := by decide +kernel
theorem dX7_nearly_44 : decode cX7_nearly 44 = .ok (.iconst 0, 1) := by decide +kernel
theorem dX7_nearly_45 : decode cX7_nearly 45 = .ok (.istore 5, 2) := by decide +kernel
theorem dX7_nearly_47 : decode cX7_nearly 47 = .ok (.iload 5, 2) := by decide +kernel
theorem dX7_nearly_49 : decode cX7_nearly 49 = .ok (.iload 4, 2) := by decide +kernel
theorem dX7_nearly_51 : decode cX7_nearly 51 = .ok (.if_icmp .ge 91, 3) := by decide +kernel
theorem dX7_nearly_54 : decode cX7_nearly 54 = .ok (.iload 5, 2) := by decide +kernel
theorem dX7_nearly_56 : decode cX7_nearly 56 = .ok (.istore 6, 2) := by decide +kernel
theorem dX7_nearly_58 : decode cX7_nearly 58 = .ok (.iconst 1, 1) := by decide +kernel
theorem dX7_nearly_59 : decode cX7_nearly 59 = .ok (.istore 7, 2) := by decide +kernel
theorem dX7_nearly_61 : decode cX7_nearly 61 = .ok (.iconst 0, 1) := by decide +kernel
theorem dX7_nearly_62 : decode cX7_nearly 62 = .ok (.istore 8, 2) := by decide +kernel
theorem dX7_nearly_64 : decode cX7_nearly 64 = .ok (.iload 8, 2) := by decide +kernel
theorem dX7_nearly_66 : decode cX7_nearly 66 = .ok (.iload_n 1, 1) := by decide +kernel
theorem dX7_nearly_67 : decode cX7_nearly 67 = .ok (.if_icmp .ge 47, 3) := by decide +kernel
theorem dX7_nearly_70 : decode cX7_nearly 70 = .ok (.aload_n 0, 1) := by decide +kernel
theorem dX7_nearly_71 : decode cX7_nearly 71 = .ok (.getfield 29, 3) := by decide +kernel
theorem dX7_nearly_74 : decode cX7_nearly 74 = .ok (.iload 8, 2) := by decide +kernel
theorem dX7_nearly_76 : decode cX7_nearly 76 = .ok (.iload 6, 2) := by decide +kernel
theorem dX7_nearly_78 : decode cX7_nearly 78 = .ok (.iload_n 1, 1) := by decide +kernel
theorem dX7_nearly_79 : decode cX7_nearly 79 = .ok (.irem, 1) := by decide +kernel
theorem dX7_nearly_80 : decode cX7_nearly 80 = .ok (.iastore, 1) := by decide +kernel
theorem dX7_nearly_81 : decode cX7_nearly 81 = .ok (.iload 6, 2) := by decide +kernel
theorem dX7_nearly_83 : decode cX7_nearly 83 = .ok (.iload_n 1, 1) := by decide +kernel
theorem dX7_nearly_84 : decode cX7_nearly 84 = .ok (.idiv, 1) := by decide +kernel
theorem dX7_nearly_85 : decode cX7_nearly 85 = .ok (.istore 6, 2) := by decide +kernel
theorem dX7_nearly_87 : decode cX7_nearly 87 = .ok (.iload 7, 2) := by decide +kernel
theorem dX7_nearly_89 : decode cX7_nearly 89 = .ok (.ifCond .eq 16, 3) := by decide +kernel
theorem dX7_nearly_92 : decode cX7_nearly 92 = .ok (.aload_n 0, 1) := by decide +kernel
theorem dX7_nearly_93 : decode cX7_nearly 93 = .ok (.iload 8, 2) := by decide +kernel
theorem dX7_nearly_95 : decode cX7_nearly 95 = .ok (.invokevirtual 109, 3) := by decide +kernel
theorem dX7_nearly_98 : decode cX7_nearly 98 = .ok (.ifCond .eq 7, 3) := by decide +kernel
theorem dX7_nearly_101 : decode cX7_nearly 101 = .ok (.iconst 1, 1) := by decide +kernel
theorem dX7_nearly_102 : decode cX7_nearly 102 = .ok (.goto 4, 3) := by decide +kernel
theorem dX7_nearly_105 : decode cX7_nearly 105 = .ok (.iconst 0, 1) := by decide +kernel
theorem dX7_nearly_106 : decode cX7_nearly 106 = .ok (.istore 7, 2) := by decide +kernel
theorem dX7_nearly_108 : decode cX7_nearly 108 = .ok (.iinc 8 1, 3) := by decide +kernel
theorem dX7_nearly_111 : decode cX7_nearly 111 = .ok (.goto (-47), 3) := by decide +kernel
theorem dX7_nearly_114 : decode cX7_nearly 114 = .ok (.iload_n 3, 1) := by decide +kernel
theorem dX7_nearly_115 : decode cX7_nearly 115 = .ok (.iload 7, 2) := by decide +kernel
theorem dX7_nearly_117 : decode cX7_nearly 117 = .ok (.ifCond .eq 16, 3) := by decide +kernel
theorem dX7_nearly_120 : decode cX7_nearly 120 = .ok (.aload_n 0, 1) := by decide +kernel
theorem dX7_nearly_121 : decode cX7_nearly 121 = .ok (.iload_n 1, 1) := by decide +kernel
theorem dX7_nearly_122 : decode cX7_nearly 122 = .ok (.invokevirtual 132, 3) := by decide +kernel
theorem dX7_nearly_125 : decode cX7_nearly 125 = .ok (.iload_n 2, 1) := by decide +kernel
theorem dX7_nearly_126 : decode cX7_nearly 126 = .ok (.if_icmp .ne 7, 3) := by decide +kernel
theorem dX7_nearly_129 : decode cX7_nearly 129 = .ok (.iconst 1, 1) := by decide +kernel
theorem dX7_nearly_130 : decode cX7_nearly 130 = .ok (.goto 4, 3) := by decide +kernel
theorem dX7_nearly_133 : decode cX7_nearly 133 = .ok (.iconst 0, 1) := by decide +kernel
theorem dX7_nearly_134 : decode cX7_nearly 134 = .ok (.iadd, 1) := by decide +kernel
theorem dX7_nearly_135 : decode cX7_nearly 135 = .ok (.istore_n 3, 1) := by decide +kernel
theorem dX7_nearly_136 : decode cX7_nearly 136 = .ok (.iinc 5 1, 3) := by decide +kernel
theorem dX7_nearly_139 : decode cX7_nearly 139 = .ok (.goto (-92), 3) := by decide +kernel
theorem dX7_nearly_142 : decode cX7_nearly 142 = .ok (.iload_n 3, 1) := by decide +kernel
theorem dX7_nearly_143 : decode cX7_nearly 143 = .ok (.ireturn, 1) := by decide +kernel
theorem dX7_rows_0 : decode cX7_rows 0 = .ok (.iload_n 1, 1) := by decide +kernel
theorem dX7_rows_1 : decode cX7_rows 1 = .ok (.i2l, 1) := by decide +kernel
theorem dX7_rows_2 : decode cX7_rows 2 = .ok (.lconst 1, 1) := by decide +kernel
theorem dX7_rows_3 : decode cX7_rows 3 = .ok (.ldc2_w 58, 3) := by decide +kernel
theorem dX7_rows_6 : decode cX7_rows 6 = .ok (.invokestatic 46, 3) := by decide +kernel
theorem dX7_rows_9 : decode cX7_rows 9 = .ok (.ifCond .eq 39, 3) := by decide +kernel
theorem dX7_rows_12 : decode cX7_rows 12 = .ok (.iload_n 2, 1) := by decide +kernel
theorem dX7_rows_13 : decode cX7_rows 13 = .ok (.i2l, 1) := by decide +kernel
theorem dX7_rows_14 : decode cX7_rows 14 = .ok (.lconst 1, 1) := by decide +kernel
theorem dX7_rows_15 : decode cX7_rows 15 = .ok (.ldc2_w 130, 3) := by decide +kernel
theorem dX7_rows_18 : decode cX7_rows 18 = .ok (.invokestatic 46, 3) := by decide +kernel
theorem dX7_rows_21 : decode cX7_rows 21 = .ok (.ifCond .eq 27, 3) := by decide +kernel
theorem dX7_rows_24 : decode cX7_rows 24 = .ok (.iload_n 3, 1) := by decide +kernel
theorem dX7_rows_25 : decode cX7_rows 25 = .ok (.i2l, 1) := by decide +kernel
theorem dX7_rows_26 : decode cX7_rows 26 = .ok (.lconst 0, 1) := by decide +kernel
theorem dX7_rows_27 : decode cX7_rows 27 = .ok (.lconst 1, 1) := by decide +kernel
theorem dX7_rows_28 : decode cX7_rows 28 = .ok (.invokestatic 46, 3) := by decide +kernel
theorem dX7_rows_31 : decode cX7_rows 31 = .ok (.ifCond .eq 17, 3) := by decide +kernel
theorem dX7_rows_34 : decode cX7_rows 34 = .ok (.iload 4, 2) := by decide +kernel
theorem dX7_rows_36 : decode cX7_rows 36 = .ok (.iconst (-1), 1) := by decide +kernel
theorem dX7_rows_37 : decode cX7_rows 37 = .ok (.if_icmp .lt 11, 3) := by decide +kernel
theorem dX7_rows_40 : decode cX7_rows 40 = .ok (.iload 5, 2) := by decide +kernel
theorem dX7_rows_42 : decode cX7_rows 42 = .ok (.invokestatic 50, 3) := by decide +kernel
theorem dX7_rows_45 : decode cX7_rows 45 = .ok (.ifCond .ne 5, 3) := by decide +kernel
theorem dX7_rows_48 : decode cX7_rows 48 = .ok (.iconst (-1), 1) := by decide +kernel
theorem dX7_rows_49 : decode cX7_rows 49 = .ok (.ireturn, 1) := by decide +kernel
theorem dX7_rows_50 : decode cX7_rows 50 = .ok (.aload_n 0, 1) := by decide +kernel
theorem dX7_rows_51 : decode cX7_rows 51 = .ok (.iload 5, 2) := by decide +kernel
theorem dX7_rows_53 : decode cX7_rows 53 = .ok (.iload_n 1, 1) := by decide +kernel
theorem dX7_rows_54 : decode cX7_rows 54 = .ok (.iload_n 2, 1) := by decide +kernel
theorem dX7_rows_55 : decode cX7_rows 55 = .ok (.aload_n 0, 1) := by decide +kernel
theorem dX7_rows_56 : decode cX7_rows 56 = .ok (.iload_n 1, 1) := by decide +kernel
theorem dX7_rows_57 : decode cX7_rows 57 = .ok (.iload_n 2, 1) := by decide +kernel
theorem dX7_rows_58 : decode cX7_rows 58 = .ok (.iload_n 3, 1) := by decide +kernel
theorem dX7_rows_59 : decode cX7_rows 59 = .ok (.iconst 0, 1) := by decide +kernel
theorem dX7_rows_60 : decode cX7_rows 60 = .ok (.iconst (-1), 1) := by decide +kernel
theorem dX7_rows_61 : decode cX7_rows 61 = .ok (.iload 4, 2) := by decide +kernel
theorem dX7_rows_63 : decode cX7_rows 63 = .ok (.invokevirtual 122, 3) := by decide +kernel
theorem dX7_rows_66 : decode cX7_rows 66 = .ok (.iload 4, 2) := by decide +kernel
theorem dX7_rows_68 : decode cX7_rows 68 = .ok (.invokevirtual 126, 3) := by decide +kernel
theorem dX7_rows_71 : decode cX7_rows 71 = .ok (.ireturn, 1) := by decide +kernel
theorem dX7_longest_0 : decode cX7_longest 0 = .ok (.iload_n 1, 1) := by decide +kernel
theorem dX7_longest_1 : decode cX7_longest 1 = .ok (.i2l, 1) := by decide +kernel
theorem dX7_longest_2 : decode cX7_longest 2 = .ok (.lconst 1, 1) := by decide +kernel
theorem dX7_longest_3 : decode cX7_longest 3 = .ok (.ldc2_w 136, 3) := by decide +kernel
theorem dX7_longest_6 : decode cX7_longest 6 = .ok (.invokestatic 46, 3) := by decide +kernel
theorem dX7_longest_9 : decode cX7_longest 9 = .ok (.ifCond .eq 13, 3) := by decide +kernel
theorem dX7_longest_12 : decode cX7_longest 12 = .ok (.iload_n 2, 1) := by decide +kernel
theorem dX7_longest_13 : decode cX7_longest 13 = .ok (.i2l, 1) := by decide +kernel
theorem dX7_longest_14 : decode cX7_longest 14 = .ok (.lconst 0, 1) := by decide +kernel
theorem dX7_longest_15 : decode cX7_longest 15 = .ok (.lconst 1, 1) := by decide +kernel
theorem dX7_longest_16 : decode cX7_longest 16 = .ok (.invokestatic 46, 3) := by decide +kernel
theorem dX7_longest_19 : decode cX7_longest 19 = .ok (.ifCond .ne 5, 3) := by decide +kernel
theorem dX7_longest_22 : decode cX7_longest 22 = .ok (.iconst (-1), 1) := by decide +kernel
theorem dX7_longest_23 : decode cX7_longest 23 = .ok (.ireturn, 1) := by decide +kernel
theorem dX7_longest_24 : decode cX7_longest 24 = .ok (.iconst 1, 1) := by decide +kernel
theorem dX7_longest_25 : decode cX7_longest 25 = .ok (.istore_n 3, 1) := by decide +kernel
theorem dX7_longest_26 : decode cX7_longest 26 = .ok (.iload_n 3, 1) := by decide +kernel
theorem dX7_longest_27 : decode cX7_longest 27 = .ok (.bipush 12, 2) := by decide +kernel
theorem dX7_longest_29 : decode cX7_longest 29 = .ok (.if_icmp .ge 21, 3) := by decide +kernel
theorem dX7_longest_32 : decode cX7_longest 32 = .ok (.aload_n 0, 1) := by decide +kernel
theorem dX7_longest_33 : decode cX7_longest 33 = .ok (.iload_n 3, 1) := by decide +kernel
theorem dX7_longest_34 : decode cX7_longest 34 = .ok (.iconst 1, 1) := by decide +kernel
theorem dX7_longest_35 : decode cX7_longest 35 = .ok (.iadd, 1) := by decide +kernel
theorem dX7_longest_36 : decode cX7_longest 36 = .ok (.iload_n 1, 1) := by decide +kernel
theorem dX7_longest_37 : decode cX7_longest 37 = .ok (.iload_n 2, 1) := by decide +kernel
theorem dX7_longest_38 : decode cX7_longest 38 = .ok (.invokevirtual 138, 3) := by decide +kernel
theorem dX7_longest_41 : decode cX7_longest 41 = .ok (.ifCond .eq 9, 3) := by decide +kernel
theorem dX7_longest_44 : decode cX7_longest 44 = .ok (.iinc 3 1, 3) := by decide +kernel
theorem dX7_longest_47 : decode cX7_longest 47 = .ok (.goto (-21), 3) := by decide +kernel
theorem dX7_longest_50 : decode cX7_longest 50 = .ok (.iload_n 3, 1) := by decide +kernel
theorem dX7_longest_51 : decode cX7_longest 51 = .ok (.ireturn, 1) := by decide +kernel
theorem dX7_there_0 : decode cX7_there 0 = .ok (.aload_n 0, 1) := by decide +kernel
theorem dX7_there_1 : decode cX7_there 1 = .ok (.iload_n 1, 1) := by decide +kernel
theorem dX7_there_2 : decode cX7_there 2 = .ok (.iload_n 2, 1) := by decide +kernel
theorem dX7_there_3 : decode cX7_there 3 = .ok (.iload_n 3, 1) := by decide +kernel
theorem dX7_there_4 : decode cX7_there 4 = .ok (.iconst 0, 1) := by decide +kernel
theorem dX7_there_5 : decode cX7_there 5 = .ok (.iconst (-1), 1) := by decide +kernel
theorem dX7_there_6 : decode cX7_there 6 = .ok (.iconst 0, 1) := by decide +kernel
theorem dX7_there_7 : decode cX7_there 7 = .ok (.invokevirtual 122, 3) := by decide +kernel
theorem dX7_there_10 : decode cX7_there 10 = .ok (.pop, 1) := by decide +kernel
theorem dX7_there_11 : decode cX7_there 11 = .ok (.aload_n 0, 1) := by decide +kernel
theorem dX7_there_12 : decode cX7_there 12 = .ok (.getfield 115, 3) := by decide +kernel
theorem dX7_there_15 : decode cX7_there 15 = .ok (.iconst 1, 1) := by decide +kernel
theorem dX7_there_16 : decode cX7_there 16 = .ok (.if_icmp .ne 7, 3) := by decide +kernel
theorem dX7_there_19 : decode cX7_there 19 = .ok (.iconst 1, 1) := by decide +kernel
theorem dX7_there_20 : decode cX7_there 20 = .ok (.goto 4, 3) := by decide +kernel
theorem dX7_there_23 : decode cX7_there 23 = .ok (.iconst 0, 1) := by decide +kernel
theorem dX7_there_24 : decode cX7_there 24 = .ok (.ireturn, 1) := by decide +kernel
theorem dX7_isPrime_0 : decode cX7_isPrime 0 = .ok (.iload_n 0, 1) := by decide +kernel
theorem dX7_isPrime_1 : decode cX7_isPrime 1 = .ok (.iconst 3, 1) := by decide +kernel
theorem dX7_isPrime_2 : decode cX7_isPrime 2 = .ok (.if_icmp .eq 26, 3) := by decide +kernel
theorem dX7_isPrime_5 : decode cX7_isPrime 5 = .ok (.iload_n 0, 1) := by decide +kernel
theorem dX7_isPrime_6 : decode cX7_isPrime 6 = .ok (.iconst 5, 1) := by decide +kernel
theorem dX7_isPrime_7 : decode cX7_isPrime 7 = .ok (.if_icmp .eq 21, 3) := by decide +kernel
theorem dX7_isPrime_10 : decode cX7_isPrime 10 = .ok (.iload_n 0, 1) := by decide +kernel
theorem dX7_isPrime_11 : decode cX7_isPrime 11 = .ok (.bipush 7, 2) := by decide +kernel
theorem dX7_isPrime_13 : decode cX7_isPrime 13 = .ok (.if_icmp .eq 15, 3) := by decide +kernel
theorem dX7_isPrime_16 : decode cX7_isPrime 16 = .ok (.iload_n 0, 1) := by decide +kernel
theorem dX7_isPrime_17 : decode cX7_isPrime 17 = .ok (.bipush 11, 2) := by decide +kernel
theorem dX7_isPrime_19 : decode cX7_isPrime 19 = .ok (.if_icmp .eq 9, 3) := by decide +kernel
theorem dX7_isPrime_22 : decode cX7_isPrime 22 = .ok (.iload_n 0, 1) := by decide +kernel
theorem dX7_isPrime_23 : decode cX7_isPrime 23 = .ok (.bipush 13, 2) := by decide +kernel
theorem dX7_isPrime_25 : decode cX7_isPrime 25 = .ok (.if_icmp .ne 7, 3) := by decide +kernel
theorem dX7_isPrime_28 : decode cX7_isPrime 28 = .ok (.iconst 1, 1) := by decide +kernel
theorem dX7_isPrime_29 : decode cX7_isPrime 29 = .ok (.goto 4, 3) := by decide +kernel
theorem dX7_isPrime_32 : decode cX7_isPrime 32 = .ok (.iconst 0, 1) := by decide +kernel
theorem dX7_isPrime_33 : decode cX7_isPrime 33 = .ok (.ireturn, 1) := by decide +kernel
theorem dX7_power_0 : decode cX7_power 0 = .ok (.iconst 1, 1) := by decide +kernel
theorem dX7_power_1 : decode cX7_power 1 = .ok (.istore_n 3, 1) := by decide +kernel
theorem dX7_power_2 : decode cX7_power 2 = .ok (.iconst 0, 1) := by decide +kernel
theorem dX7_power_3 : decode cX7_power 3 = .ok (.istore 4, 2) := by decide +kernel
theorem dX7_power_5 : decode cX7_power 5 = .ok (.iload 4, 2) := by decide +kernel
theorem dX7_power_7 : decode cX7_power 7 = .ok (.iload_n 2, 1) := by decide +kernel
theorem dX7_power_8 : decode cX7_power 8 = .ok (.if_icmp .ge 15, 3) := by decide +kernel
theorem dX7_power_11 : decode cX7_power 11 = .ok (.iload_n 3, 1) := by decide +kernel
theorem dX7_power_12 : decode cX7_power 12 = .ok (.iload_n 1, 1) := by decide +kernel
theorem dX7_power_13 : decode cX7_power 13 = .ok (.imul, 1) := by decide +kernel
theorem dX7_power_14 : decode cX7_power 14 = .ok (.iload_n 0, 1) := by decide +kernel
theorem dX7_power_15 : decode cX7_power 15 = .ok (.irem, 1) := by decide +kernel
theorem dX7_power_16 : decode cX7_power 16 = .ok (.istore_n 3, 1) := by decide +kernel
theorem dX7_power_17 : decode cX7_power 17 = .ok (.iinc 4 1, 3) := by decide +kernel
theorem dX7_power_20 : decode cX7_power 20 = .ok (.goto (-15), 3) := by decide +kernel
theorem dX7_power_23 : decode cX7_power 23 = .ok (.iload_n 3, 1) := by decide +kernel
theorem dX7_power_24 : decode cX7_power 24 = .ok (.ireturn, 1) := by decide +kernel
theorem dX7_made_0 : decode cX7_made 0 = .ok (.iconst 0, 1) := by decide +kernel
theorem dX7_made_1 : decode cX7_made 1 = .ok (.istore_n 3, 1) := by decide +kernel
theorem dX7_made_2 : decode cX7_made 2 = .ok (.iload_n 3, 1) := by decide +kernel
theorem dX7_made_3 : decode cX7_made 3 = .ok (.iload_n 2, 1) := by decide +kernel
theorem dX7_made_4 : decode cX7_made 4 = .ok (.if_icmp .ge 38, 3) := by decide +kernel
theorem dX7_made_7 : decode cX7_made 7 = .ok (.aload_n 0, 1) := by decide +kernel
theorem dX7_made_8 : decode cX7_made 8 = .ok (.getfield 29, 3) := by decide +kernel
theorem dX7_made_11 : decode cX7_made 11 = .ok (.iload_n 3, 1) := by decide +kernel
theorem dX7_made_12 : decode cX7_made 12 = .ok (.iaload, 1) := by decide +kernel
theorem dX7_made_13 : decode cX7_made 13 = .ok (.i2l, 1) := by decide +kernel
theorem dX7_made_14 : decode cX7_made 14 = .ok (.lconst 0, 1) := by decide +kernel
theorem dX7_made_15 : decode cX7_made 15 = .ok (.iload_n 2, 1) := by decide +kernel
theorem dX7_made_16 : decode cX7_made 16 = .ok (.iconst 1, 1) := by decide +kernel
theorem dX7_made_17 : decode cX7_made 17 = .ok (.isub, 1) := by decide +kernel
theorem dX7_made_18 : decode cX7_made 18 = .ok (.i2l, 1) := by decide +kernel
theorem dX7_made_19 : decode cX7_made 19 = .ok (.invokestatic 46, 3) := by decide +kernel
theorem dX7_made_22 : decode cX7_made 22 = .ok (.ifCond .eq 11, 3) := by decide +kernel
theorem dX7_made_25 : decode cX7_made 25 = .ok (.aload_n 0, 1) := by decide +kernel
theorem dX7_made_26 : decode cX7_made 26 = .ok (.iload_n 3, 1) := by decide +kernel
theorem dX7_made_27 : decode cX7_made 27 = .ok (.invokevirtual 109, 3) := by decide +kernel
theorem dX7_made_30 : decode cX7_made 30 = .ok (.ifCond .ne 6, 3) := by decide +kernel
theorem dX7_made_33 : decode cX7_made 33 = .ok (.bipush (-2), 2) := by decide +kernel
theorem dX7_made_35 : decode cX7_made 35 = .ok (.ireturn, 1) := by decide +kernel
theorem dX7_made_36 : decode cX7_made 36 = .ok (.iinc 3 1, 3) := by decide +kernel
theorem dX7_made_39 : decode cX7_made 39 = .ok (.goto (-37), 3) := by decide +kernel
theorem dX7_made_42 : decode cX7_made 42 = .ok (.aload_n 0, 1) := by decide +kernel
theorem dX7_made_43 : decode cX7_made 43 = .ok (.getfield 7, 3) := by decide +kernel
theorem dX7_made_46 : decode cX7_made 46 = .ok (.iload_n 1, 1) := by decide +kernel
theorem dX7_made_47 : decode cX7_made 47 = .ok (.iload_n 2, 1) := by decide +kernel
theorem dX7_made_48 : decode cX7_made 48 = .ok (.iastore, 1) := by decide +kernel
theorem dX7_made_49 : decode cX7_made 49 = .ok (.aload_n 0, 1) := by decide +kernel
theorem dX7_made_50 : decode cX7_made 50 = .ok (.getfield 13, 3) := by decide +kernel
theorem dX7_made_53 : decode cX7_made 53 = .ok (.iload_n 1, 1) := by decide +kernel
theorem dX7_made_54 : decode cX7_made 54 = .ok (.iload_n 2, 1) := by decide +kernel
theorem dX7_made_55 : decode cX7_made 55 = .ok (.iastore, 1) := by decide +kernel
theorem dX7_made_56 : decode cX7_made 56 = .ok (.iconst 0, 1) := by decide +kernel
theorem dX7_made_57 : decode cX7_made 57 = .ok (.istore_n 3, 1) := by decide +kernel
theorem dX7_made_58 : decode cX7_made 58 = .ok (.iload_n 3, 1) := by decide +kernel
theorem dX7_made_59 : decode cX7_made 59 = .ok (.iload_n 2, 1) := by decide +kernel
theorem dX7_made_60 : decode cX7_made 60 = .ok (.if_icmp .ge 26, 3) := by decide +kernel
theorem dX7_made_63 : decode cX7_made 63 = .ok (.aload_n 0, 1) := by decide +kernel
theorem dX7_made_64 : decode cX7_made 64 = .ok (.getfield 16, 3) := by decide +kernel
theorem dX7_made_67 : decode cX7_made 67 = .ok (.bipush 12, 2) := by decide +kernel
theorem dX7_made_69 : decode cX7_made 69 = .ok (.iload_n 1, 1) := by decide +kernel
theorem dX7_made_70 : decode cX7_made 70 = .ok (.imul, 1) := by decide +kernel
theorem dX7_made_71 : decode cX7_made 71 = .ok (.iload_n 3, 1) := by decide +kernel
theorem dX7_made_72 : decode cX7_made 72 = .ok (.iadd, 1) := by decide +kernel
theorem dX7_made_73 : decode cX7_made 73 = .ok (.aload_n 0, 1) := by decide +kernel
theorem dX7_made_74 : decode cX7_made 74 = .ok (.getfield 29, 3) := by decide +kernel
theorem dX7_made_77 : decode cX7_made 77 = .ok (.iload_n 3, 1) := by decide +kernel
theorem dX7_made_78 : decode cX7_made 78 = .ok (.iaload, 1) := by decide +kernel
theorem dX7_made_79 : decode cX7_made 79 = .ok (.iastore, 1) := by decide +kernel
theorem dX7_made_80 : decode cX7_made 80 = .ok (.iinc 3 1, 3) := by decide +kernel
theorem dX7_made_83 : decode cX7_made 83 = .ok (.goto (-25), 3) := by decide +kernel
theorem dX7_made_86 : decode cX7_made 86 = .ok (.iload_n 2, 1) := by decide +kernel
theorem dX7_made_87 : decode cX7_made 87 = .ok (.ireturn, 1) := by decide +kernel
theorem dX7_powers_0 : decode cX7_powers 0 = .ok (.iload_n 1, 1) := by decide +kernel
theorem dX7_powers_1 : decode cX7_powers 1 = .ok (.invokestatic 141, 3) := by decide +kernel
theorem dX7_powers_4 : decode cX7_powers 4 = .ok (.ifCond .eq 39, 3) := by decide +kernel
theorem dX7_powers_7 : decode cX7_powers 7 = .ok (.iload_n 2, 1) := by decide +kernel
theorem dX7_powers_8 : decode cX7_powers 8 = .ok (.i2l, 1) := by decide +kernel
theorem dX7_powers_9 : decode cX7_powers 9 = .ok (.ldc2_w 97, 3) := by decide +kernel
theorem dX7_powers_12 : decode cX7_powers 12 = .ok (.iload_n 1, 1) := by decide +kernel
theorem dX7_powers_13 : decode cX7_powers 13 = .ok (.iconst 1, 1) := by decide +kernel
theorem dX7_powers_14 : decode cX7_powers 14 = .ok (.isub, 1) := by decide +kernel
theorem dX7_powers_15 : decode cX7_powers 15 = .ok (.i2l, 1) := by decide +kernel
theorem dX7_powers_16 : decode cX7_powers 16 = .ok (.invokestatic 46, 3) := by decide +kernel
theorem dX7_powers_19 : decode cX7_powers 19 = .ok (.ifCond .eq 24, 3) := by decide +kernel
theorem dX7_powers_22 : decode cX7_powers 22 = .ok (.iload_n 3, 1) := by decide +kernel
theorem dX7_powers_23 : decode cX7_powers 23 = .ok (.i2l, 1) := by decide +kernel
theorem dX7_powers_24 : decode cX7_powers 24 = .ok (.lconst 0, 1) := by decide +kernel
theorem dX7_powers_25 : decode cX7_powers 25 = .ok (.iload_n 1, 1) := by decide +kernel
theorem dX7_powers_26 : decode cX7_powers 26 = .ok (.iconst 2, 1) := by decide +kernel
theorem dX7_powers_27 : decode cX7_powers 27 = .ok (.isub, 1) := by decide +kernel
theorem dX7_powers_28 : decode cX7_powers 28 = .ok (.i2l, 1) := by decide +kernel
theorem dX7_powers_29 : decode cX7_powers 29 = .ok (.invokestatic 46, 3) := by decide +kernel
theorem dX7_powers_32 : decode cX7_powers 32 = .ok (.ifCond .eq 11, 3) := by decide +kernel
theorem dX7_powers_35 : decode cX7_powers 35 = .ok (.iload 4, 2) := by decide +kernel
theorem dX7_powers_37 : decode cX7_powers 37 = .ok (.invokestatic 50, 3) := by decide +kernel
theorem dX7_powers_40 : decode cX7_powers 40 = .ok (.ifCond .ne 5, 3) := by decide +kernel
theorem dX7_powers_43 : decode cX7_powers 43 = .ok (.iconst (-1), 1) := by decide +kernel
theorem dX7_powers_44 : decode cX7_powers 44 = .ok (.ireturn, 1) := by decide +kernel
theorem dX7_powers_45 : decode cX7_powers 45 = .ok (.iconst 0, 1) := by decide +kernel
theorem dX7_powers_46 : decode cX7_powers 46 = .ok (.istore 5, 2) := by decide +kernel
theorem dX7_powers_48 : decode cX7_powers 48 = .ok (.iload 5, 2) := by decide +kernel
theorem dX7_powers_50 : decode cX7_powers 50 = .ok (.iload_n 1, 1) := by decide +kernel
theorem dX7_powers_51 : decode cX7_powers 51 = .ok (.iconst 1, 1) := by decide +kernel
theorem dX7_powers_52 : decode cX7_powers 52 = .ok (.isub, 1) := by decide +kernel
theorem dX7_powers_53 : decode cX7_powers 53 = .ok (.if_icmp .ge 27, 3) := by decide +kernel
theorem dX7_powers_56 : decode cX7_powers 56 = .ok (.aload_n 0, 1) := by decide +kernel
theorem dX7_powers_57 : decode cX7_powers 57 = .ok (.getfield 29, 3) := by decide +kernel
theorem dX7_powers_60 : decode cX7_powers 60 = .ok (.iload 5, 2) := by decide +kernel
theorem dX7_powers_62 : decode cX7_powers 62 = .ok (.iload_n 1, 1) := by decide +kernel
theorem dX7_powers_63 : decode cX7_powers 63 = .ok (.iload_n 2, 1) := by decide +kernel
theorem dX7_powers_64 : decode cX7_powers 64 = .ok (.iload 5, 2) := by decide +kernel
theorem dX7_powers_66 : decode cX7_powers 66 = .ok (.iload_n 3, 1) := by decide +kernel
theorem dX7_powers_67 : decode cX7_powers 67 = .ok (.iadd, 1) := by decide +kernel
theorem dX7_powers_68 : decode cX7_powers 68 = .ok (.invokestatic 144, 3) := by decide +kernel
theorem dX7_powers_71 : decode cX7_powers 71 = .ok (.iconst 1, 1) := by decide +kernel
theorem dX7_powers_72 : decode cX7_powers 72 = .ok (.isub, 1) := by decide +kernel
theorem dX7_powers_73 : decode cX7_powers 73 = .ok (.iastore, 1) := by decide +kernel
theorem dX7_powers_74 : decode cX7_powers 74 = .ok (.iinc 5 1, 3) := by decide +kernel
theorem dX7_powers_77 : decode cX7_powers 77 = .ok (.goto (-29), 3) := by decide +kernel
theorem dX7_powers_80 : decode cX7_powers 80 = .ok (.aload_n 0, 1) := by decide +kernel
theorem dX7_powers_81 : decode cX7_powers 81 = .ok (.iload 4, 2) := by decide +kernel
theorem dX7_powers_83 : decode cX7_powers 83 = .ok (.iload_n 1, 1) := by decide +kernel
theorem dX7_powers_84 : decode cX7_powers 84 = .ok (.iconst 1, 1) := by decide +kernel
theorem dX7_powers_85 : decode cX7_powers 85 = .ok (.isub, 1) := by decide +kernel
theorem dX7_powers_86 : decode cX7_powers 86 = .ok (.invokevirtual 148, 3) := by decide +kernel
theorem dX7_powers_89 : decode cX7_powers 89 = .ok (.ireturn, 1) := by decide +kernel
theorem dX7_sums_0 : decode cX7_sums 0 = .ok (.iload_n 1, 1) := by decide +kernel
theorem dX7_sums_1 : decode cX7_sums 1 = .ok (.invokestatic 141, 3) := by decide +kernel
theorem dX7_sums_4 : decode cX7_sums 4 = .ok (.ifCond .eq 46, 3) := by decide +kernel
theorem dX7_sums_7 : decode cX7_sums 7 = .ok (.iload_n 1, 1) := by decide +kernel
theorem dX7_sums_8 : decode cX7_sums 8 = .ok (.iconst 3, 1) := by decide +kernel
theorem dX7_sums_9 : decode cX7_sums 9 = .ok (.if_icmp .eq 41, 3) := by decide +kernel
theorem dX7_sums_12 : decode cX7_sums 12 = .ok (.iload_n 2, 1) := by decide +kernel
theorem dX7_sums_13 : decode cX7_sums 13 = .ok (.i2l, 1) := by decide +kernel
theorem dX7_sums_14 : decode cX7_sums 14 = .ok (.ldc2_w 97, 3) := by decide +kernel
theorem dX7_sums_17 : decode cX7_sums 17 = .ok (.iload_n 1, 1) := by decide +kernel
theorem dX7_sums_18 : decode cX7_sums 18 = .ok (.iconst 1, 1) := by decide +kernel
theorem dX7_sums_19 : decode cX7_sums 19 = .ok (.isub, 1) := by decide +kernel
theorem dX7_sums_20 : decode cX7_sums 20 = .ok (.i2l, 1) := by decide +kernel
theorem dX7_sums_21 : decode cX7_sums 21 = .ok (.invokestatic 46, 3) := by decide +kernel
theorem dX7_sums_24 : decode cX7_sums 24 = .ok (.ifCond .eq 26, 3) := by decide +kernel
theorem dX7_sums_27 : decode cX7_sums 27 = .ok (.iload_n 3, 1) := by decide +kernel
theorem dX7_sums_28 : decode cX7_sums 28 = .ok (.i2l, 1) := by decide +kernel
theorem dX7_sums_29 : decode cX7_sums 29 = .ok (.ldc2_w 97, 3) := by decide +kernel
theorem dX7_sums_32 : decode cX7_sums 32 = .ok (.iload_n 1, 1) := by decide +kernel
theorem dX7_sums_33 : decode cX7_sums 33 = .ok (.iconst 1, 1) := by decide +kernel
theorem dX7_sums_34 : decode cX7_sums 34 = .ok (.isub, 1) := by decide +kernel
theorem dX7_sums_35 : decode cX7_sums 35 = .ok (.i2l, 1) := by decide +kernel
theorem dX7_sums_36 : decode cX7_sums 36 = .ok (.invokestatic 46, 3) := by decide +kernel
theorem dX7_sums_39 : decode cX7_sums 39 = .ok (.ifCond .eq 11, 3) := by decide +kernel
theorem dX7_sums_42 : decode cX7_sums 42 = .ok (.iload 4, 2) := by decide +kernel
theorem dX7_sums_44 : decode cX7_sums 44 = .ok (.invokestatic 50, 3) := by decide +kernel
theorem dX7_sums_47 : decode cX7_sums 47 = .ok (.ifCond .ne 5, 3) := by decide +kernel
theorem dX7_sums_50 : decode cX7_sums 50 = .ok (.iconst (-1), 1) := by decide +kernel
theorem dX7_sums_51 : decode cX7_sums 51 = .ok (.ireturn, 1) := by decide +kernel
theorem dX7_sums_52 : decode cX7_sums 52 = .ok (.iconst 0, 1) := by decide +kernel
theorem dX7_sums_53 : decode cX7_sums 53 = .ok (.istore 5, 2) := by decide +kernel
theorem dX7_sums_55 : decode cX7_sums 55 = .ok (.iload 5, 2) := by decide +kernel
theorem dX7_sums_57 : decode cX7_sums 57 = .ok (.iload_n 1, 1) := by decide +kernel
theorem dX7_sums_58 : decode cX7_sums 58 = .ok (.iconst 2, 1) := by decide +kernel
theorem dX7_sums_59 : decode cX7_sums 59 = .ok (.isub, 1) := by decide +kernel
theorem dX7_sums_60 : decode cX7_sums 60 = .ok (.if_icmp .ge 90, 3) := by decide +kernel
theorem dX7_sums_63 : decode cX7_sums 63 = .ok (.iconst 0, 1) := by decide +kernel
theorem dX7_sums_64 : decode cX7_sums 64 = .ok (.istore 6, 2) := by decide +kernel
theorem dX7_sums_66 : decode cX7_sums 66 = .ok (.iconst 0, 1) := by decide +kernel
theorem dX7_sums_67 : decode cX7_sums 67 = .ok (.istore 7, 2) := by decide +kernel
theorem dX7_sums_69 : decode cX7_sums 69 = .ok (.iload 7, 2) := by decide +kernel
theorem dX7_sums_71 : decode cX7_sums 71 = .ok (.iload_n 1, 1) := by decide +kernel
theorem dX7_sums_72 : decode cX7_sums 72 = .ok (.iconst 2, 1) := by decide +kernel
theorem dX7_sums_73 : decode cX7_sums 73 = .ok (.isub, 1) := by decide +kernel
theorem dX7_sums_74 : decode cX7_sums 74 = .ok (.if_icmp .ge 46, 3) := by decide +kernel
theorem dX7_sums_77 : decode cX7_sums 77 = .ok (.iload_n 1, 1) := by decide +kernel
theorem dX7_sums_78 : decode cX7_sums 78 = .ok (.iload_n 2, 1) := by decide +kernel
theorem dX7_sums_79 : decode cX7_sums 79 = .ok (.iload 5, 2) := by decide +kernel
theorem dX7_sums_81 : decode cX7_sums 81 = .ok (.iconst 1, 1) := by decide +kernel
theorem dX7_sums_82 : decode cX7_sums 82 = .ok (.iadd, 1) := by decide +kernel
theorem dX7_sums_83 : decode cX7_sums 83 = .ok (.invokestatic 144, 3) := by decide +kernel
theorem dX7_sums_86 : decode cX7_sums 86 = .ok (.iload_n 1, 1) := by decide +kernel
theorem dX7_sums_87 : decode cX7_sums 87 = .ok (.iload_n 3, 1) := by decide +kernel
theorem dX7_sums_88 : decode cX7_sums 88 = .ok (.iload 7, 2) := by decide +kernel
theorem dX7_sums_90 : decode cX7_sums 90 = .ok (.iconst 1, 1) := by decide +kernel
theorem dX7_sums_91 : decode cX7_sums 91 = .ok (.iadd, 1) := by decide +kernel
theorem dX7_sums_92 : decode cX7_sums 92 = .ok (.invokestatic 144, 3) := by decide +kernel
theorem dX7_sums_95 : decode cX7_sums 95 = .ok (.iadd, 1) := by decide +kernel
theorem dX7_sums_96 : decode cX7_sums 96 = .ok (.iload_n 1, 1) := by decide +kernel
theorem dX7_sums_97 : decode cX7_sums 97 = .ok (.irem, 1) := by decide +kernel
theorem dX7_sums_98 : decode cX7_sums 98 = .ok (.iconst 1, 1) := by decide +kernel
theorem dX7_sums_99 : decode cX7_sums 99 = .ok (.if_icmp .ne 15, 3) := by decide +kernel
theorem dX7_sums_102 : decode cX7_sums 102 = .ok (.aload_n 0, 1) := by decide +kernel
theorem dX7_sums_103 : decode cX7_sums 103 = .ok (.getfield 29, 3) := by decide +kernel
theorem dX7_sums_106 : decode cX7_sums 106 = .ok (.iload 5, 2) := by decide +kernel
theorem dX7_sums_108 : decode cX7_sums 108 = .ok (.iload 7, 2) := by decide +kernel
theorem dX7_sums_110 : decode cX7_sums 110 = .ok (.iastore, 1) := by decide +kernel
theorem dX7_sums_111 : decode cX7_sums 111 = .ok (.iinc 6 1, 3) := by decide +kernel
theorem dX7_sums_114 : decode cX7_sums 114 = .ok (.iinc 7 1, 3) := by decide +kernel
theorem dX7_sums_117 : decode cX7_sums 117 = .ok (.goto (-48), 3) := by decide +kernel
theorem dX7_sums_120 : decode cX7_sums 120 = .ok (.aload_n 0, 1) := by decide +kernel
theorem dX7_sums_121 : decode cX7_sums 121 = .ok (.getfield 29, 3) := by decide +kernel
theorem dX7_sums_124 : decode cX7_sums 124 = .ok (.iload 5, 2) := by decide +kernel
theorem dX7_sums_126 : decode cX7_sums 126 = .ok (.iload 6, 2) := by decide +kernel
theorem dX7_sums_128 : decode cX7_sums 128 = .ok (.iconst 1, 1) := by decide +kernel
theorem dX7_sums_129 : decode cX7_sums 129 = .ok (.if_icmp .ne 13, 3) := by decide +kernel
theorem dX7_sums_132 : decode cX7_sums 132 = .ok (.aload_n 0, 1) := by decide +kernel
theorem dX7_sums_133 : decode cX7_sums 133 = .ok (.getfield 29, 3) := by decide +kernel
theorem dX7_sums_136 : decode cX7_sums 136 = .ok (.iload 5, 2) := by decide +kernel
theorem dX7_sums_138 : decode cX7_sums 138 = .ok (.iaload, 1) := by decide +kernel
theorem dX7_sums_139 : decode cX7_sums 139 = .ok (.goto 4, 3) := by decide +kernel
theorem dX7_sums_142 : decode cX7_sums 142 = .ok (.iconst (-1), 1) := by decide +kernel
theorem dX7_sums_143 : decode cX7_sums 143 = .ok (.iastore, 1) := by decide +kernel
theorem dX7_sums_144 : decode cX7_sums 144 = .ok (.iinc 5 1, 3) := by decide +kernel
theorem dX7_sums_147 : decode cX7_sums 147 = .ok (.goto (-92), 3) := by decide +kernel
theorem dX7_sums_150 : decode cX7_sums 150 = .ok (.aload_n 0, 1) := by decide +kernel
theorem dX7_sums_151 : decode cX7_sums 151 = .ok (.iload 4, 2) := by decide +kernel
theorem dX7_sums_153 : decode cX7_sums 153 = .ok (.iload_n 1, 1) := by decide +kernel
theorem dX7_sums_154 : decode cX7_sums 154 = .ok (.iconst 2, 1) := by decide +kernel
theorem dX7_sums_155 : decode cX7_sums 155 = .ok (.isub, 1) := by decide +kernel
theorem dX7_sums_156 : decode cX7_sums 156 = .ok (.invokevirtual 148, 3) := by decide +kernel
theorem dX7_sums_159 : decode cX7_sums 159 = .ok (.ireturn, 1) := by decide +kernel
theorem dX7_isSquare_0 : decode cX7_isSquare 0 = .ok (.aload_n 0, 1) := by decide +kernel
theorem dX7_isSquare_1 : decode cX7_isSquare 1 = .ok (.getfield 7, 3) := by decide +kernel
theorem dX7_isSquare_4 : decode cX7_isSquare 4 = .ok (.iload_n 1, 1) := by decide +kernel
theorem dX7_isSquare_5 : decode cX7_isSquare 5 = .ok (.iaload, 1) := by decide +kernel
theorem dX7_isSquare_6 : decode cX7_isSquare 6 = .ok (.aload_n 0, 1) := by decide +kernel
theorem dX7_isSquare_7 : decode cX7_isSquare 7 = .ok (.getfield 13, 3) := by decide +kernel
theorem dX7_isSquare_10 : decode cX7_isSquare 10 = .ok (.iload_n 1, 1) := by decide +kernel
theorem dX7_isSquare_11 : decode cX7_isSquare 11 = .ok (.iaload, 1) := by decide +kernel
theorem dX7_isSquare_12 : decode cX7_isSquare 12 = .ok (.if_icmp .ne 7, 3) := by decide +kernel
theorem dX7_isSquare_15 : decode cX7_isSquare 15 = .ok (.iconst 1, 1) := by decide +kernel
theorem dX7_isSquare_16 : decode cX7_isSquare 16 = .ok (.goto 4, 3) := by decide +kernel
theorem dX7_isSquare_19 : decode cX7_isSquare 19 = .ok (.iconst 0, 1) := by decide +kernel
theorem dX7_isSquare_20 : decode cX7_isSquare 20 = .ok (.istore_n 2, 1) := by decide +kernel
theorem dX7_isSquare_21 : decode cX7_isSquare 21 = .ok (.iconst 0, 1) := by decide +kernel
theorem dX7_isSquare_22 : decode cX7_isSquare 22 = .ok (.istore_n 3, 1) := by decide +kernel
theorem dX7_isSquare_23 : decode cX7_isSquare 23 = .ok (.iload_n 3, 1) := by decide +kernel
theorem dX7_isSquare_24 : decode cX7_isSquare 24 = .ok (.aload_n 0, 1) := by decide +kernel
theorem dX7_isSquare_25 : decode cX7_isSquare 25 = .ok (.getfield 7, 3) := by decide +kernel
theorem dX7_isSquare_28 : decode cX7_isSquare 28 = .ok (.iload_n 1, 1) := by decide +kernel
theorem dX7_isSquare_29 : decode cX7_isSquare 29 = .ok (.iaload, 1) := by decide +kernel
theorem dX7_isSquare_30 : decode cX7_isSquare 30 = .ok (.if_icmp .ge 50, 3) := by decide +kernel
theorem dX7_isSquare_33 : decode cX7_isSquare 33 = .ok (.aload_n 0, 1) := by decide +kernel
theorem dX7_isSquare_34 : decode cX7_isSquare 34 = .ok (.getfield 29, 3) := by decide +kernel
theorem dX7_isSquare_37 : decode cX7_isSquare 37 = .ok (.iload_n 3, 1) := by decide +kernel
theorem dX7_isSquare_38 : decode cX7_isSquare 38 = .ok (.aload_n 0, 1) := by decide +kernel
theorem dX7_isSquare_39 : decode cX7_isSquare 39 = .ok (.iload_n 1, 1) := by decide +kernel
theorem dX7_isSquare_40 : decode cX7_isSquare 40 = .ok (.iload_n 3, 1) := by decide +kernel
theorem dX7_isSquare_41 : decode cX7_isSquare 41 = .ok (.invokevirtual 79, 3) := by decide +kernel
theorem dX7_isSquare_44 : decode cX7_isSquare 44 = .ok (.iastore, 1) := by decide +kernel
theorem dX7_isSquare_45 : decode cX7_isSquare 45 = .ok (.iload_n 2, 1) := by decide +kernel
theorem dX7_isSquare_46 : decode cX7_isSquare 46 = .ok (.ifCond .eq 26, 3) := by decide +kernel
theorem dX7_isSquare_49 : decode cX7_isSquare 49 = .ok (.aload_n 0, 1) := by decide +kernel
theorem dX7_isSquare_50 : decode cX7_isSquare 50 = .ok (.getfield 29, 3) := by decide +kernel
theorem dX7_isSquare_53 : decode cX7_isSquare 53 = .ok (.iload_n 3, 1) := by decide +kernel
theorem dX7_isSquare_54 : decode cX7_isSquare 54 = .ok (.iaload, 1) := by decide +kernel
theorem dX7_isSquare_55 : decode cX7_isSquare 55 = .ok (.bipush 15, 2) := by decide +kernel
theorem dX7_isSquare_57 : decode cX7_isSquare 57 = .ok (.if_icmp .ge 15, 3) := by decide +kernel
theorem dX7_isSquare_60 : decode cX7_isSquare 60 = .ok (.aload_n 0, 1) := by decide +kernel
theorem dX7_isSquare_61 : decode cX7_isSquare 61 = .ok (.iload_n 3, 1) := by decide +kernel
theorem dX7_isSquare_62 : decode cX7_isSquare 62 = .ok (.invokevirtual 109, 3) := by decide +kernel
theorem dX7_isSquare_65 : decode cX7_isSquare 65 = .ok (.ifCond .eq 7, 3) := by decide +kernel
theorem dX7_isSquare_68 : decode cX7_isSquare 68 = .ok (.iconst 1, 1) := by decide +kernel
theorem dX7_isSquare_69 : decode cX7_isSquare 69 = .ok (.goto 4, 3) := by decide +kernel
theorem dX7_isSquare_72 : decode cX7_isSquare 72 = .ok (.iconst 0, 1) := by decide +kernel
theorem dX7_isSquare_73 : decode cX7_isSquare 73 = .ok (.istore_n 2, 1) := by decide +kernel
theorem dX7_isSquare_74 : decode cX7_isSquare 74 = .ok (.iinc 3 1, 3) := by decide +kernel
theorem dX7_isSquare_77 : decode cX7_isSquare 77 = .ok (.goto (-54), 3) := by decide +kernel
theorem dX7_isSquare_80 : decode cX7_isSquare 80 = .ok (.iload_n 2, 1) := by decide +kernel
theorem dX7_isSquare_81 : decode cX7_isSquare 81 = .ok (.ireturn, 1) := by decide +kernel
theorem dX7_turns_0 : decode cX7_turns 0 = .ok (.aload_n 0, 1) := by decide +kernel
theorem dX7_turns_1 : decode cX7_turns 1 = .ok (.getfield 7, 3) := by decide +kernel
theorem dX7_turns_4 : decode cX7_turns 4 = .ok (.iload_n 1, 1) := by decide +kernel
theorem dX7_turns_5 : decode cX7_turns 5 = .ok (.iaload, 1) := by decide +kernel
theorem dX7_turns_6 : decode cX7_turns 6 = .ok (.istore_n 3, 1) := by decide +kernel
theorem dX7_turns_7 : decode cX7_turns 7 = .ok (.iconst 0, 1) := by decide +kernel
theorem dX7_turns_8 : decode cX7_turns 8 = .ok (.istore 4, 2) := by decide +kernel
theorem dX7_turns_10 : decode cX7_turns 10 = .ok (.iload 4, 2) := by decide +kernel
theorem dX7_turns_12 : decode cX7_turns 12 = .ok (.iload_n 3, 1) := by decide +kernel
theorem dX7_turns_13 : decode cX7_turns 13 = .ok (.if_icmp .ge 37, 3) := by decide +kernel
theorem dX7_turns_16 : decode cX7_turns 16 = .ok (.aload_n 0, 1) := by decide +kernel
theorem dX7_turns_17 : decode cX7_turns 17 = .ok (.getfield 38, 3) := by decide +kernel
theorem dX7_turns_20 : decode cX7_turns 20 = .ok (.iload 4, 2) := by decide +kernel
theorem dX7_turns_22 : decode cX7_turns 22 = .ok (.aload_n 0, 1) := by decide +kernel
theorem dX7_turns_23 : decode cX7_turns 23 = .ok (.iload_n 1, 1) := by decide +kernel
theorem dX7_turns_24 : decode cX7_turns 24 = .ok (.iload_n 2, 1) := by decide +kernel
theorem dX7_turns_25 : decode cX7_turns 25 = .ok (.iconst 3, 1) := by decide +kernel
theorem dX7_turns_26 : decode cX7_turns 26 = .ok (.if_icmp .le 12, 3) := by decide +kernel
theorem dX7_turns_29 : decode cX7_turns 29 = .ok (.iload_n 3, 1) := by decide +kernel
theorem dX7_turns_30 : decode cX7_turns 30 = .ok (.iconst 1, 1) := by decide +kernel
theorem dX7_turns_31 : decode cX7_turns 31 = .ok (.isub, 1) := by decide +kernel
theorem dX7_turns_32 : decode cX7_turns 32 = .ok (.iload 4, 2) := by decide +kernel
theorem dX7_turns_34 : decode cX7_turns 34 = .ok (.isub, 1) := by decide +kernel
theorem dX7_turns_35 : decode cX7_turns 35 = .ok (.goto 5, 3) := by decide +kernel
theorem dX7_turns_38 : decode cX7_turns 38 = .ok (.iload 4, 2) := by decide +kernel
theorem dX7_turns_40 : decode cX7_turns 40 = .ok (.invokevirtual 79, 3) := by decide +kernel
theorem dX7_turns_43 : decode cX7_turns 43 = .ok (.iastore, 1) := by decide +kernel
theorem dX7_turns_44 : decode cX7_turns 44 = .ok (.iinc 4 1, 3) := by decide +kernel
theorem dX7_turns_47 : decode cX7_turns 47 = .ok (.goto (-37), 3) := by decide +kernel
theorem dX7_turns_50 : decode cX7_turns 50 = .ok (.iconst 0, 1) := by decide +kernel
theorem dX7_turns_51 : decode cX7_turns 51 = .ok (.istore 4, 2) := by decide +kernel
theorem dX7_turns_53 : decode cX7_turns 53 = .ok (.iload 4, 2) := by decide +kernel
theorem dX7_turns_55 : decode cX7_turns 55 = .ok (.iload_n 2, 1) := by decide +kernel
theorem dX7_turns_56 : decode cX7_turns 56 = .ok (.iconst 4, 1) := by decide +kernel
theorem dX7_turns_57 : decode cX7_turns 57 = .ok (.irem, 1) := by decide +kernel
theorem dX7_turns_58 : decode cX7_turns 58 = .ok (.if_icmp .ge 71, 3) := by decide +kernel
theorem dX7_turns_61 : decode cX7_turns 61 = .ok (.iconst 0, 1) := by decide +kernel
theorem dX7_turns_62 : decode cX7_turns 62 = .ok (.istore 5, 2) := by decide +kernel
theorem dX7_turns_64 : decode cX7_turns 64 = .ok (.iload 5, 2) := by decide +kernel
theorem dX7_turns_66 : decode cX7_turns 66 = .ok (.iload_n 3, 1) := by decide +kernel
theorem dX7_turns_67 : decode cX7_turns 67 = .ok (.if_icmp .ge 27, 3) := by decide +kernel
theorem dX7_turns_70 : decode cX7_turns 70 = .ok (.aload_n 0, 1) := by decide +kernel
theorem dX7_turns_71 : decode cX7_turns 71 = .ok (.getfield 41, 3) := by decide +kernel
theorem dX7_turns_74 : decode cX7_turns 74 = .ok (.aload_n 0, 1) := by decide +kernel
theorem dX7_turns_75 : decode cX7_turns 75 = .ok (.getfield 38, 3) := by decide +kernel
theorem dX7_turns_78 : decode cX7_turns 78 = .ok (.iload 5, 2) := by decide +kernel
theorem dX7_turns_80 : decode cX7_turns 80 = .ok (.iaload, 1) := by decide +kernel
theorem dX7_turns_81 : decode cX7_turns 81 = .ok (.iload_n 3, 1) := by decide +kernel
theorem dX7_turns_82 : decode cX7_turns 82 = .ok (.iconst 1, 1) := by decide +kernel
theorem dX7_turns_83 : decode cX7_turns 83 = .ok (.isub, 1) := by decide +kernel
theorem dX7_turns_84 : decode cX7_turns 84 = .ok (.iload 5, 2) := by decide +kernel
theorem dX7_turns_86 : decode cX7_turns 86 = .ok (.isub, 1) := by decide +kernel
theorem dX7_turns_87 : decode cX7_turns 87 = .ok (.iastore, 1) := by decide +kernel
theorem dX7_turns_88 : decode cX7_turns 88 = .ok (.iinc 5 1, 3) := by decide +kernel
theorem dX7_turns_91 : decode cX7_turns 91 = .ok (.goto (-27), 3) := by decide +kernel
theorem dX7_turns_94 : decode cX7_turns 94 = .ok (.iconst 0, 1) := by decide +kernel
theorem dX7_turns_95 : decode cX7_turns 95 = .ok (.istore 5, 2) := by decide +kernel
theorem dX7_turns_97 : decode cX7_turns 97 = .ok (.iload 5, 2) := by decide +kernel
theorem dX7_turns_99 : decode cX7_turns 99 = .ok (.iload_n 3, 1) := by decide +kernel
theorem dX7_turns_100 : decode cX7_turns 100 = .ok (.if_icmp .ge 23, 3) := by decide +kernel
theorem dX7_turns_103 : decode cX7_turns 103 = .ok (.aload_n 0, 1) := by decide +kernel
theorem dX7_turns_104 : decode cX7_turns 104 = .ok (.getfield 38, 3) := by decide +kernel
theorem dX7_turns_107 : decode cX7_turns 107 = .ok (.iload 5, 2) := by decide +kernel
theorem dX7_turns_109 : decode cX7_turns 109 = .ok (.aload_n 0, 1) := by decide +kernel
theorem dX7_turns_110 : decode cX7_turns 110 = .ok (.getfield 41, 3) := by decide +kernel
theorem dX7_turns_113 : decode cX7_turns 113 = .ok (.iload 5, 2) := by decide +kernel
theorem dX7_turns_115 : decode cX7_turns 115 = .ok (.iaload, 1) := by decide +kernel
theorem dX7_turns_116 : decode cX7_turns 116 = .ok (.iastore, 1) := by decide +kernel
theorem dX7_turns_117 : decode cX7_turns 117 = .ok (.iinc 5 1, 3) := by decide +kernel
theorem dX7_turns_120 : decode cX7_turns 120 = .ok (.goto (-23), 3) := by decide +kernel
theorem dX7_turns_123 : decode cX7_turns 123 = .ok (.iinc 4 1, 3) := by decide +kernel
theorem dX7_turns_126 : decode cX7_turns 126 = .ok (.goto (-73), 3) := by decide +kernel
theorem dX7_turns_129 : decode cX7_turns 129 = .ok (.return_, 1) := by decide +kernel
theorem dX7_turn_0 : decode cX7_turn 0 = .ok (.iload_n 1, 1) := by decide +kernel
theorem dX7_turn_1 : decode cX7_turn 1 = .ok (.invokestatic 50, 3) := by decide +kernel
