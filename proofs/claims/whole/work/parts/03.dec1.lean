theorem dX6_hits_40 : decode cX6_hits 40 = .ok (.ireturn, 1) := by decide +kernel
theorem dX6_hits_41 : decode cX6_hits 41 = .ok (.iload 5, 2) := by decide +kernel
theorem dX6_hits_43 : decode cX6_hits 43 = .ok (.ifCond .eq 16, 3) := by decide +kernel
theorem dX6_hits_46 : decode cX6_hits 46 = .ok (.aload 6, 2) := by decide +kernel
theorem dX6_hits_48 : decode cX6_hits 48 = .ok (.aload 7, 2) := by decide +kernel
theorem dX6_hits_50 : decode cX6_hits 50 = .ok (.iload_n 3, 1) := by decide +kernel
theorem dX6_hits_51 : decode cX6_hits 51 = .ok (.iload 4, 2) := by decide +kernel
theorem dX6_hits_53 : decode cX6_hits 53 = .ok (.invokestatic 146, 3) := by decide +kernel
theorem dX6_hits_56 : decode cX6_hits 56 = .ok (.goto 13, 3) := by decide +kernel
theorem dX6_hits_59 : decode cX6_hits 59 = .ok (.aload 6, 2) := by decide +kernel
theorem dX6_hits_61 : decode cX6_hits 61 = .ok (.aload 7, 2) := by decide +kernel
theorem dX6_hits_63 : decode cX6_hits 63 = .ok (.iload_n 3, 1) := by decide +kernel
theorem dX6_hits_64 : decode cX6_hits 64 = .ok (.iload 4, 2) := by decide +kernel
theorem dX6_hits_66 : decode cX6_hits 66 = .ok (.invokestatic 150, 3) := by decide +kernel
theorem dX6_hits_69 : decode cX6_hits 69 = .ok (.ireturn, 1) := by decide +kernel
theorem dX6_most_0 : decode cX6_most 0 = .ok (.aload_n 0, 1) := by decide +kernel
theorem dX6_most_1 : decode cX6_most 1 = .ok (.iload_n 1, 1) := by decide +kernel
theorem dX6_most_2 : decode cX6_most 2 = .ok (.invokevirtual 59, 3) := by decide +kernel
theorem dX6_most_5 : decode cX6_most 5 = .ok (.astore 4, 2) := by decide +kernel
theorem dX6_most_7 : decode cX6_most 7 = .ok (.aload_n 0, 1) := by decide +kernel
theorem dX6_most_8 : decode cX6_most 8 = .ok (.iload_n 2, 1) := by decide +kernel
theorem dX6_most_9 : decode cX6_most 9 = .ok (.invokevirtual 59, 3) := by decide +kernel
theorem dX6_most_12 : decode cX6_most 12 = .ok (.astore 5, 2) := by decide +kernel
theorem dX6_most_14 : decode cX6_most 14 = .ok (.aload 4, 2) := by decide +kernel
theorem dX6_most_16 : decode cX6_most 16 = .ok (.ifnull 17, 3) := by decide +kernel
theorem dX6_most_19 : decode cX6_most 19 = .ok (.aload 5, 2) := by decide +kernel
theorem dX6_most_21 : decode cX6_most 21 = .ok (.ifnull 12, 3) := by decide +kernel
theorem dX6_most_24 : decode cX6_most 24 = .ok (.iload_n 3, 1) := by decide +kernel
theorem dX6_most_25 : decode cX6_most 25 = .ok (.iconst 0, 1) := by decide +kernel
theorem dX6_most_26 : decode cX6_most 26 = .ok (.iconst 3, 1) := by decide +kernel
theorem dX6_most_27 : decode cX6_most 27 = .ok (.invokestatic 63, 3) := by decide +kernel
theorem dX6_most_30 : decode cX6_most 30 = .ok (.ifCond .ne 6, 3) := by decide +kernel
theorem dX6_most_33 : decode cX6_most 33 = .ok (.bipush (-100), 2) := by decide +kernel
theorem dX6_most_35 : decode cX6_most 35 = .ok (.ireturn, 1) := by decide +kernel
theorem dX6_most_36 : decode cX6_most 36 = .ok (.aload_n 0, 1) := by decide +kernel
theorem dX6_most_37 : decode cX6_most 37 = .ok (.getfield 30, 3) := by decide +kernel
theorem dX6_most_40 : decode cX6_most 40 = .ok (.aload 4, 2) := by decide +kernel
theorem dX6_most_42 : decode cX6_most 42 = .ok (.aload 5, 2) := by decide +kernel
theorem dX6_most_44 : decode cX6_most 44 = .ok (.iload_n 1, 1) := by decide +kernel
theorem dX6_most_45 : decode cX6_most 45 = .ok (.iload_n 2, 1) := by decide +kernel
theorem dX6_most_46 : decode cX6_most 46 = .ok (.if_icmp .ne 7, 3) := by decide +kernel
theorem dX6_most_49 : decode cX6_most 49 = .ok (.iconst 1, 1) := by decide +kernel
theorem dX6_most_50 : decode cX6_most 50 = .ok (.goto 4, 3) := by decide +kernel
theorem dX6_most_53 : decode cX6_most 53 = .ok (.iconst 0, 1) := by decide +kernel
theorem dX6_most_54 : decode cX6_most 54 = .ok (.invokevirtual 153, 3) := by decide +kernel
theorem dX6_most_57 : decode cX6_most 57 = .ok (.iload_n 3, 1) := by decide +kernel
theorem dX6_most_58 : decode cX6_most 58 = .ok (.tableswitch 50 0 2 #[26, 34, 42], 26) := by decide +kernel
theorem dX6_most_84 : decode cX6_most 84 = .ok (.aload_n 0, 1) := by decide +kernel
theorem dX6_most_85 : decode cX6_most 85 = .ok (.getfield 30, 3) := by decide +kernel
theorem dX6_most_88 : decode cX6_most 88 = .ok (.invokevirtual 157, 3) := by decide +kernel
theorem dX6_most_91 : decode cX6_most 91 = .ok (.ireturn, 1) := by decide +kernel
theorem dX6_most_92 : decode cX6_most 92 = .ok (.aload_n 0, 1) := by decide +kernel
theorem dX6_most_93 : decode cX6_most 93 = .ok (.getfield 30, 3) := by decide +kernel
theorem dX6_most_96 : decode cX6_most 96 = .ok (.invokevirtual 160, 3) := by decide +kernel
theorem dX6_most_99 : decode cX6_most 99 = .ok (.ireturn, 1) := by decide +kernel
theorem dX6_most_100 : decode cX6_most 100 = .ok (.aload_n 0, 1) := by decide +kernel
theorem dX6_most_101 : decode cX6_most 101 = .ok (.getfield 30, 3) := by decide +kernel
theorem dX6_most_104 : decode cX6_most 104 = .ok (.invokevirtual 163, 3) := by decide +kernel
theorem dX6_most_107 : decode cX6_most 107 = .ok (.ireturn, 1) := by decide +kernel
theorem dX6_most_108 : decode cX6_most 108 = .ok (.aload_n 0, 1) := by decide +kernel
theorem dX6_most_109 : decode cX6_most 109 = .ok (.getfield 30, 3) := by decide +kernel
theorem dX6_most_112 : decode cX6_most 112 = .ok (.invokevirtual 166, 3) := by decide +kernel
theorem dX6_most_115 : decode cX6_most 115 = .ok (.ireturn, 1) := by decide +kernel
theorem dX6_squares_0 : decode cX6_squares 0 = .ok (.iload_n 1, 1) := by decide +kernel
theorem dX6_squares_1 : decode cX6_squares 1 = .ok (.iconst 1, 1) := by decide +kernel
theorem dX6_squares_2 : decode cX6_squares 2 = .ok (.bipush 8, 2) := by decide +kernel
theorem dX6_squares_4 : decode cX6_squares 4 = .ok (.invokestatic 63, 3) := by decide +kernel
theorem dX6_squares_7 : decode cX6_squares 7 = .ok (.ifCond .eq 16, 3) := by decide +kernel
theorem dX6_squares_10 : decode cX6_squares 10 = .ok (.iload_n 2, 1) := by decide +kernel
theorem dX6_squares_11 : decode cX6_squares 11 = .ok (.iconst (-1), 1) := by decide +kernel
theorem dX6_squares_12 : decode cX6_squares 12 = .ok (.if_icmp .lt 11, 3) := by decide +kernel
theorem dX6_squares_15 : decode cX6_squares 15 = .ok (.aload_n 0, 1) := by decide +kernel
theorem dX6_squares_16 : decode cX6_squares 16 = .ok (.iload_n 3, 1) := by decide +kernel
theorem dX6_squares_17 : decode cX6_squares 17 = .ok (.invokevirtual 59, 3) := by decide +kernel
theorem dX6_squares_20 : decode cX6_squares 20 = .ok (.ifnonnull 5, 3) := by decide +kernel
theorem dX6_squares_23 : decode cX6_squares 23 = .ok (.iconst (-1), 1) := by decide +kernel
theorem dX6_squares_24 : decode cX6_squares 24 = .ok (.ireturn, 1) := by decide +kernel
theorem dX6_squares_25 : decode cX6_squares 25 = .ok (.aload_n 0, 1) := by decide +kernel
theorem dX6_squares_26 : decode cX6_squares 26 = .ok (.getfield 37, 3) := by decide +kernel
theorem dX6_squares_29 : decode cX6_squares 29 = .ok (.iload_n 1, 1) := by decide +kernel
theorem dX6_squares_30 : decode cX6_squares 30 = .ok (.invokevirtual 169, 3) := by decide +kernel
theorem dX6_squares_33 : decode cX6_squares 33 = .ok (.aload_n 0, 1) := by decide +kernel
theorem dX6_squares_34 : decode cX6_squares 34 = .ok (.iload_n 2, 1) := by decide +kernel
theorem dX6_squares_35 : decode cX6_squares 35 = .ok (.iload_n 3, 1) := by decide +kernel
theorem dX6_squares_36 : decode cX6_squares 36 = .ok (.invokevirtual 172, 3) := by decide +kernel
theorem dX6_squares_39 : decode cX6_squares 39 = .ok (.ireturn, 1) := by decide +kernel
theorem dX6_holding_0 : decode cX6_holding 0 = .ok (.aload_n 0, 1) := by decide +kernel
theorem dX6_holding_1 : decode cX6_holding 1 = .ok (.iload_n 1, 1) := by decide +kernel
theorem dX6_holding_2 : decode cX6_holding 2 = .ok (.invokevirtual 59, 3) := by decide +kernel
theorem dX6_holding_5 : decode cX6_holding 5 = .ok (.astore 4, 2) := by decide +kernel
theorem dX6_holding_7 : decode cX6_holding 7 = .ok (.aload 4, 2) := by decide +kernel
theorem dX6_holding_9 : decode cX6_holding 9 = .ok (.ifnull 16, 3) := by decide +kernel
theorem dX6_holding_12 : decode cX6_holding 12 = .ok (.iload_n 2, 1) := by decide +kernel
theorem dX6_holding_13 : decode cX6_holding 13 = .ok (.iconst (-1), 1) := by decide +kernel
theorem dX6_holding_14 : decode cX6_holding 14 = .ok (.if_icmp .lt 11, 3) := by decide +kernel
theorem dX6_holding_17 : decode cX6_holding 17 = .ok (.aload_n 0, 1) := by decide +kernel
theorem dX6_holding_18 : decode cX6_holding 18 = .ok (.iload_n 3, 1) := by decide +kernel
theorem dX6_holding_19 : decode cX6_holding 19 = .ok (.invokevirtual 59, 3) := by decide +kernel
theorem dX6_holding_22 : decode cX6_holding 22 = .ok (.ifnonnull 5, 3) := by decide +kernel
theorem dX6_holding_25 : decode cX6_holding 25 = .ok (.iconst (-1), 1) := by decide +kernel
theorem dX6_holding_26 : decode cX6_holding 26 = .ok (.ireturn, 1) := by decide +kernel
theorem dX6_holding_27 : decode cX6_holding 27 = .ok (.aload 4, 2) := by decide +kernel
theorem dX6_holding_29 : decode cX6_holding 29 = .ok (.invokevirtual 71, 3) := by decide +kernel
theorem dX6_holding_32 : decode cX6_holding 32 = .ok (.bipush 8, 2) := by decide +kernel
theorem dX6_holding_34 : decode cX6_holding 34 = .ok (.if_icmp .gt 16, 3) := by decide +kernel
theorem dX6_holding_37 : decode cX6_holding 37 = .ok (.aload 4, 2) := by decide +kernel
theorem dX6_holding_39 : decode cX6_holding 39 = .ok (.invokevirtual 71, 3) := by decide +kernel
theorem dX6_holding_42 : decode cX6_holding 42 = .ok (.aload 4, 2) := by decide +kernel
theorem dX6_holding_44 : decode cX6_holding 44 = .ok (.invokevirtual 113, 3) := by decide +kernel
theorem dX6_holding_47 : decode cX6_holding 47 = .ok (.if_icmp .eq 6, 3) := by decide +kernel
theorem dX6_holding_50 : decode cX6_holding 50 = .ok (.bipush (-2), 2) := by decide +kernel
theorem dX6_holding_52 : decode cX6_holding 52 = .ok (.ireturn, 1) := by decide +kernel
theorem dX6_holding_53 : decode cX6_holding 53 = .ok (.aload_n 0, 1) := by decide +kernel
theorem dX6_holding_54 : decode cX6_holding 54 = .ok (.getfield 37, 3) := by decide +kernel
theorem dX6_holding_57 : decode cX6_holding 57 = .ok (.aload 4, 2) := by decide +kernel
theorem dX6_holding_59 : decode cX6_holding 59 = .ok (.invokevirtual 71, 3) := by decide +kernel
theorem dX6_holding_62 : decode cX6_holding 62 = .ok (.invokevirtual 169, 3) := by decide +kernel
theorem dX6_holding_65 : decode cX6_holding 65 = .ok (.aload_n 0, 1) := by decide +kernel
theorem dX6_holding_66 : decode cX6_holding 66 = .ok (.getfield 37, 3) := by decide +kernel
theorem dX6_holding_69 : decode cX6_holding 69 = .ok (.aload 4, 2) := by decide +kernel
theorem dX6_holding_71 : decode cX6_holding 71 = .ok (.invokevirtual 176, 3) := by decide +kernel
theorem dX6_holding_74 : decode cX6_holding 74 = .ok (.aload_n 0, 1) := by decide +kernel
theorem dX6_holding_75 : decode cX6_holding 75 = .ok (.iload_n 2, 1) := by decide +kernel
theorem dX6_holding_76 : decode cX6_holding 76 = .ok (.iload_n 3, 1) := by decide +kernel
theorem dX6_holding_77 : decode cX6_holding 77 = .ok (.invokevirtual 172, 3) := by decide +kernel
theorem dX6_holding_80 : decode cX6_holding 80 = .ok (.ireturn, 1) := by decide +kernel
theorem dX6_nearly_0 : decode cX6_nearly 0 = .ok (.iload_n 1, 1) := by decide +kernel
theorem dX6_nearly_1 : decode cX6_nearly 1 = .ok (.iconst 1, 1) := by decide +kernel
theorem dX6_nearly_2 : decode cX6_nearly 2 = .ok (.bipush 6, 2) := by decide +kernel
theorem dX6_nearly_4 : decode cX6_nearly 4 = .ok (.invokestatic 63, 3) := by decide +kernel
theorem dX6_nearly_7 : decode cX6_nearly 7 = .ok (.ifCond .eq 7, 3) := by decide +kernel
theorem dX6_nearly_10 : decode cX6_nearly 10 = .ok (.iload_n 2, 1) := by decide +kernel
theorem dX6_nearly_11 : decode cX6_nearly 11 = .ok (.ifCond .ge 5, 3) := by decide +kernel
theorem dX6_nearly_14 : decode cX6_nearly 14 = .ok (.iconst (-1), 1) := by decide +kernel
theorem dX6_nearly_15 : decode cX6_nearly 15 = .ok (.ireturn, 1) := by decide +kernel
theorem dX6_nearly_16 : decode cX6_nearly 16 = .ok (.aload_n 0, 1) := by decide +kernel
theorem dX6_nearly_17 : decode cX6_nearly 17 = .ok (.getfield 44, 3) := by decide +kernel
theorem dX6_nearly_20 : decode cX6_nearly 20 = .ok (.iload_n 1, 1) := by decide +kernel
theorem dX6_nearly_21 : decode cX6_nearly 21 = .ok (.iload_n 2, 1) := by decide +kernel
theorem dX6_nearly_22 : decode cX6_nearly 22 = .ok (.invokevirtual 180, 3) := by decide +kernel
theorem dX6_nearly_25 : decode cX6_nearly 25 = .ok (.ireturn, 1) := by decide +kernel
theorem dX6_rows_0 : decode cX6_rows 0 = .ok (.iload_n 1, 1) := by decide +kernel
theorem dX6_rows_1 : decode cX6_rows 1 = .ok (.iconst 1, 1) := by decide +kernel
theorem dX6_rows_2 : decode cX6_rows 2 = .ok (.bipush 8, 2) := by decide +kernel
theorem dX6_rows_4 : decode cX6_rows 4 = .ok (.invokestatic 63, 3) := by decide +kernel
theorem dX6_rows_7 : decode cX6_rows 7 = .ok (.ifCond .eq 20, 3) := by decide +kernel
theorem dX6_rows_10 : decode cX6_rows 10 = .ok (.iload_n 2, 1) := by decide +kernel
theorem dX6_rows_11 : decode cX6_rows 11 = .ok (.iconst 1, 1) := by decide +kernel
theorem dX6_rows_12 : decode cX6_rows 12 = .ok (.bipush 6, 2) := by decide +kernel
theorem dX6_rows_14 : decode cX6_rows 14 = .ok (.invokestatic 63, 3) := by decide +kernel
theorem dX6_rows_17 : decode cX6_rows 17 = .ok (.ifCond .eq 10, 3) := by decide +kernel
theorem dX6_rows_20 : decode cX6_rows 20 = .ok (.iload_n 3, 1) := by decide +kernel
theorem dX6_rows_21 : decode cX6_rows 21 = .ok (.invokestatic 129, 3) := by decide +kernel
theorem dX6_rows_24 : decode cX6_rows 24 = .ok (.ifCond .ne 5, 3) := by decide +kernel
theorem dX6_rows_27 : decode cX6_rows 27 = .ok (.iconst (-1), 1) := by decide +kernel
theorem dX6_rows_28 : decode cX6_rows 28 = .ok (.ireturn, 1) := by decide +kernel
theorem dX6_rows_29 : decode cX6_rows 29 = .ok (.iload 4, 2) := by decide +kernel
theorem dX6_rows_31 : decode cX6_rows 31 = .ok (.iconst (-1), 1) := by decide +kernel
theorem dX6_rows_32 : decode cX6_rows 32 = .ok (.if_icmp .lt 12, 3) := by decide +kernel
theorem dX6_rows_35 : decode cX6_rows 35 = .ok (.aload_n 0, 1) := by decide +kernel
theorem dX6_rows_36 : decode cX6_rows 36 = .ok (.iload 5, 2) := by decide +kernel
theorem dX6_rows_38 : decode cX6_rows 38 = .ok (.invokevirtual 59, 3) := by decide +kernel
theorem dX6_rows_41 : decode cX6_rows 41 = .ok (.ifnonnull 5, 3) := by decide +kernel
theorem dX6_rows_44 : decode cX6_rows 44 = .ok (.iconst (-1), 1) := by decide +kernel
theorem dX6_rows_45 : decode cX6_rows 45 = .ok (.ireturn, 1) := by decide +kernel
theorem dX6_rows_46 : decode cX6_rows 46 = .ok (.aload_n 0, 1) := by decide +kernel
theorem dX6_rows_47 : decode cX6_rows 47 = .ok (.getfield 37, 3) := by decide +kernel
theorem dX6_rows_50 : decode cX6_rows 50 = .ok (.iload_n 1, 1) := by decide +kernel
theorem dX6_rows_51 : decode cX6_rows 51 = .ok (.iload_n 2, 1) := by decide +kernel
theorem dX6_rows_52 : decode cX6_rows 52 = .ok (.iload_n 3, 1) := by decide +kernel
theorem dX6_rows_53 : decode cX6_rows 53 = .ok (.invokevirtual 183, 3) := by decide +kernel
theorem dX6_rows_56 : decode cX6_rows 56 = .ok (.aload_n 0, 1) := by decide +kernel
theorem dX6_rows_57 : decode cX6_rows 57 = .ok (.iload 4, 2) := by decide +kernel
theorem dX6_rows_59 : decode cX6_rows 59 = .ok (.iload 5, 2) := by decide +kernel
theorem dX6_rows_61 : decode cX6_rows 61 = .ok (.invokevirtual 172, 3) := by decide +kernel
theorem dX6_rows_64 : decode cX6_rows 64 = .ok (.ireturn, 1) := by decide +kernel
theorem dX6_longest_0 : decode cX6_longest 0 = .ok (.iload_n 1, 1) := by decide +kernel
theorem dX6_longest_1 : decode cX6_longest 1 = .ok (.iconst 1, 1) := by decide +kernel
theorem dX6_longest_2 : decode cX6_longest 2 = .ok (.iconst 4, 1) := by decide +kernel
theorem dX6_longest_3 : decode cX6_longest 3 = .ok (.invokestatic 63, 3) := by decide +kernel
theorem dX6_longest_6 : decode cX6_longest 6 = .ok (.ifCond .eq 10, 3) := by decide +kernel
theorem dX6_longest_9 : decode cX6_longest 9 = .ok (.iload_n 2, 1) := by decide +kernel
theorem dX6_longest_10 : decode cX6_longest 10 = .ok (.invokestatic 129, 3) := by decide +kernel
theorem dX6_longest_13 : decode cX6_longest 13 = .ok (.ifCond .ne 5, 3) := by decide +kernel
theorem dX6_longest_16 : decode cX6_longest 16 = .ok (.iconst (-1), 1) := by decide +kernel
theorem dX6_longest_17 : decode cX6_longest 17 = .ok (.ireturn, 1) := by decide +kernel
theorem dX6_longest_18 : decode cX6_longest 18 = .ok (.iconst 0, 1) := by decide +kernel
theorem dX6_longest_19 : decode cX6_longest 19 = .ok (.istore_n 3, 1) := by decide +kernel
theorem dX6_longest_20 : decode cX6_longest 20 = .ok (.iconst 1, 1) := by decide +kernel
theorem dX6_longest_21 : decode cX6_longest 21 = .ok (.istore 4, 2) := by decide +kernel
theorem dX6_longest_23 : decode cX6_longest 23 = .ok (.iload 4, 2) := by decide +kernel
theorem dX6_longest_25 : decode cX6_longest 25 = .ok (.bipush 12, 2) := by decide +kernel
theorem dX6_longest_27 : decode cX6_longest 27 = .ok (.if_icmp .gt 37, 3) := by decide +kernel
theorem dX6_longest_30 : decode cX6_longest 30 = .ok (.aload_n 0, 1) := by decide +kernel
theorem dX6_longest_31 : decode cX6_longest 31 = .ok (.getfield 37, 3) := by decide +kernel
theorem dX6_longest_34 : decode cX6_longest 34 = .ok (.iload 4, 2) := by decide +kernel
theorem dX6_longest_36 : decode cX6_longest 36 = .ok (.iload_n 1, 1) := by decide +kernel
theorem dX6_longest_37 : decode cX6_longest 37 = .ok (.iload_n 2, 1) := by decide +kernel
theorem dX6_longest_38 : decode cX6_longest 38 = .ok (.invokevirtual 183, 3) := by decide +kernel
theorem dX6_longest_41 : decode cX6_longest 41 = .ok (.aload_n 0, 1) := by decide +kernel
theorem dX6_longest_42 : decode cX6_longest 42 = .ok (.getfield 37, 3) := by decide +kernel
theorem dX6_longest_45 : decode cX6_longest 45 = .ok (.iconst 0, 1) := by decide +kernel
theorem dX6_longest_46 : decode cX6_longest 46 = .ok (.invokevirtual 187, 3) := by decide +kernel
theorem dX6_longest_49 : decode cX6_longest 49 = .ok (.ifCond .ne 6, 3) := by decide +kernel
theorem dX6_longest_52 : decode cX6_longest 52 = .ok (.goto 12, 3) := by decide +kernel
theorem dX6_longest_55 : decode cX6_longest 55 = .ok (.iload 4, 2) := by decide +kernel
theorem dX6_longest_57 : decode cX6_longest 57 = .ok (.istore_n 3, 1) := by decide +kernel
theorem dX6_longest_58 : decode cX6_longest 58 = .ok (.iinc 4 1, 3) := by decide +kernel
theorem dX6_longest_61 : decode cX6_longest 61 = .ok (.goto (-38), 3) := by decide +kernel
theorem dX6_longest_64 : decode cX6_longest 64 = .ok (.iload_n 3, 1) := by decide +kernel
theorem dX6_longest_65 : decode cX6_longest 65 = .ok (.ireturn, 1) := by decide +kernel
theorem dX6_powers_0 : decode cX6_powers 0 = .ok (.aload_n 0, 1) := by decide +kernel
theorem dX6_powers_1 : decode cX6_powers 1 = .ok (.iload 4, 2) := by decide +kernel
theorem dX6_powers_3 : decode cX6_powers 3 = .ok (.invokevirtual 59, 3) := by decide +kernel
theorem dX6_powers_6 : decode cX6_powers 6 = .ok (.astore 5, 2) := by decide +kernel
theorem dX6_powers_8 : decode cX6_powers 8 = .ok (.iload_n 1, 1) := by decide +kernel
theorem dX6_powers_9 : decode cX6_powers 9 = .ok (.invokestatic 190, 3) := by decide +kernel
theorem dX6_powers_12 : decode cX6_powers 12 = .ok (.ifCond .eq 30, 3) := by decide +kernel
theorem dX6_powers_15 : decode cX6_powers 15 = .ok (.iload_n 2, 1) := by decide +kernel
theorem dX6_powers_16 : decode cX6_powers 16 = .ok (.iconst 2, 1) := by decide +kernel
theorem dX6_powers_17 : decode cX6_powers 17 = .ok (.iload_n 1, 1) := by decide +kernel
theorem dX6_powers_18 : decode cX6_powers 18 = .ok (.iconst 1, 1) := by decide +kernel
theorem dX6_powers_19 : decode cX6_powers 19 = .ok (.isub, 1) := by decide +kernel
theorem dX6_powers_20 : decode cX6_powers 20 = .ok (.invokestatic 63, 3) := by decide +kernel
theorem dX6_powers_23 : decode cX6_powers 23 = .ok (.ifCond .eq 19, 3) := by decide +kernel
theorem dX6_powers_26 : decode cX6_powers 26 = .ok (.iload_n 3, 1) := by decide +kernel
theorem dX6_powers_27 : decode cX6_powers 27 = .ok (.iconst 0, 1) := by decide +kernel
theorem dX6_powers_28 : decode cX6_powers 28 = .ok (.iload_n 1, 1) := by decide +kernel
theorem dX6_powers_29 : decode cX6_powers 29 = .ok (.iconst 2, 1) := by decide +kernel
theorem dX6_powers_30 : decode cX6_powers 30 = .ok (.isub, 1) := by decide +kernel
theorem dX6_powers_31 : decode cX6_powers 31 = .ok (.invokestatic 63, 3) := by decide +kernel
theorem dX6_powers_34 : decode cX6_powers 34 = .ok (.ifCond .eq 8, 3) := by decide +kernel
theorem dX6_powers_37 : decode cX6_powers 37 = .ok (.aload 5, 2) := by decide +kernel
theorem dX6_powers_39 : decode cX6_powers 39 = .ok (.ifnonnull 5, 3) := by decide +kernel
theorem dX6_powers_42 : decode cX6_powers 42 = .ok (.iconst (-1), 1) := by decide +kernel
theorem dX6_powers_43 : decode cX6_powers 43 = .ok (.ireturn, 1) := by decide +kernel
theorem dX6_powers_44 : decode cX6_powers 44 = .ok (.iload_n 1, 1) := by decide +kernel
theorem dX6_powers_45 : decode cX6_powers 45 = .ok (.iconst 1, 1) := by decide +kernel
theorem dX6_powers_46 : decode cX6_powers 46 = .ok (.isub, 1) := by decide +kernel
theorem dX6_powers_47 : decode cX6_powers 47 = .ok (.istore 6, 2) := by decide +kernel
theorem dX6_powers_49 : decode cX6_powers 49 = .ok (.aload_n 0, 1) := by decide +kernel
theorem dX6_powers_50 : decode cX6_powers 50 = .ok (.getfield 16, 3) := by decide +kernel
theorem dX6_powers_53 : decode cX6_powers 53 = .ok (.iload 6, 2) := by decide +kernel
theorem dX6_powers_55 : decode cX6_powers 55 = .ok (.iload 6, 2) := by decide +kernel
theorem dX6_powers_57 : decode cX6_powers 57 = .ok (.invokevirtual 75, 3) := by decide +kernel
theorem dX6_powers_60 : decode cX6_powers 60 = .ok (.iload_n 2, 1) := by decide +kernel
theorem dX6_powers_61 : decode cX6_powers 61 = .ok (.iload_n 3, 1) := by decide +kernel
theorem dX6_powers_62 : decode cX6_powers 62 = .ok (.iload_n 1, 1) := by decide +kernel
theorem dX6_powers_63 : decode cX6_powers 63 = .ok (.invokestatic 193, 3) := by decide +kernel
theorem dX6_powers_66 : decode cX6_powers 66 = .ok (.istore 7, 2) := by decide +kernel
theorem dX6_powers_68 : decode cX6_powers 68 = .ok (.iconst 0, 1) := by decide +kernel
theorem dX6_powers_69 : decode cX6_powers 69 = .ok (.istore 8, 2) := by decide +kernel
theorem dX6_powers_71 : decode cX6_powers 71 = .ok (.iload 8, 2) := by decide +kernel
theorem dX6_powers_73 : decode cX6_powers 73 = .ok (.iload 6, 2) := by decide +kernel
theorem dX6_powers_75 : decode cX6_powers 75 = .ok (.if_icmp .ge 32, 3) := by decide +kernel
theorem dX6_powers_78 : decode cX6_powers 78 = .ok (.aload_n 0, 1) := by decide +kernel
theorem dX6_powers_79 : decode cX6_powers 79 = .ok (.getfield 16, 3) := by decide +kernel
theorem dX6_powers_82 : decode cX6_powers 82 = .ok (.iload 8, 2) := by decide +kernel
theorem dX6_powers_84 : decode cX6_powers 84 = .ok (.iload 7, 2) := by decide +kernel
theorem dX6_powers_86 : decode cX6_powers 86 = .ok (.iconst 1, 1) := by decide +kernel
theorem dX6_powers_87 : decode cX6_powers 87 = .ok (.isub, 1) := by decide +kernel
theorem dX6_powers_88 : decode cX6_powers 88 = .ok (.invokevirtual 83, 3) := by decide +kernel
theorem dX6_powers_91 : decode cX6_powers 91 = .ok (.iload 7, 2) := by decide +kernel
theorem dX6_powers_93 : decode cX6_powers 93 = .ok (.iload_n 2, 1) := by decide +kernel
theorem dX6_powers_94 : decode cX6_powers 94 = .ok (.imul, 1) := by decide +kernel
theorem dX6_powers_95 : decode cX6_powers 95 = .ok (.iload_n 1, 1) := by decide +kernel
theorem dX6_powers_96 : decode cX6_powers 96 = .ok (.invokestatic 196, 3) := by decide +kernel
theorem dX6_powers_99 : decode cX6_powers 99 = .ok (.istore 7, 2) := by decide +kernel
theorem dX6_powers_101 : decode cX6_powers 101 = .ok (.iinc 8 1, 3) := by decide +kernel
theorem dX6_powers_104 : decode cX6_powers 104 = .ok (.goto (-33), 3) := by decide +kernel
theorem dX6_powers_107 : decode cX6_powers 107 = .ok (.aload_n 0, 1) := by decide +kernel
theorem dX6_powers_108 : decode cX6_powers 108 = .ok (.aload 5, 2) := by decide +kernel
theorem dX6_powers_110 : decode cX6_powers 110 = .ok (.invokevirtual 199, 3) := by decide +kernel
theorem dX6_powers_113 : decode cX6_powers 113 = .ok (.ireturn, 1) := by decide +kernel
theorem dX6_sums_0 : decode cX6_sums 0 = .ok (.aload_n 0, 1) := by decide +kernel
theorem dX6_sums_1 : decode cX6_sums 1 = .ok (.iload 4, 2) := by decide +kernel
theorem dX6_sums_3 : decode cX6_sums 3 = .ok (.invokevirtual 59, 3) := by decide +kernel
theorem dX6_sums_6 : decode cX6_sums 6 = .ok (.astore 5, 2) := by decide +kernel
theorem dX6_sums_8 : decode cX6_sums 8 = .ok (.iload_n 1, 1) := by decide +kernel
theorem dX6_sums_9 : decode cX6_sums 9 = .ok (.invokestatic 190, 3) := by decide +kernel
theorem dX6_sums_12 : decode cX6_sums 12 = .ok (.ifCond .eq 35, 3) := by decide +kernel
theorem dX6_sums_15 : decode cX6_sums 15 = .ok (.iload_n 1, 1) := by decide +kernel
theorem dX6_sums_16 : decode cX6_sums 16 = .ok (.iconst 5, 1) := by decide +kernel
theorem dX6_sums_17 : decode cX6_sums 17 = .ok (.if_icmp .lt 30, 3) := by decide +kernel
theorem dX6_sums_20 : decode cX6_sums 20 = .ok (.iload_n 2, 1) := by decide +kernel
theorem dX6_sums_21 : decode cX6_sums 21 = .ok (.iconst 2, 1) := by decide +kernel
theorem dX6_sums_22 : decode cX6_sums 22 = .ok (.iload_n 1, 1) := by decide +kernel
theorem dX6_sums_23 : decode cX6_sums 23 = .ok (.iconst 1, 1) := by decide +kernel
theorem dX6_sums_24 : decode cX6_sums 24 = .ok (.isub, 1) := by decide +kernel
theorem dX6_sums_25 : decode cX6_sums 25 = .ok (.invokestatic 63, 3) := by decide +kernel
theorem dX6_sums_28 : decode cX6_sums 28 = .ok (.ifCond .eq 19, 3) := by decide +kernel
theorem dX6_sums_31 : decode cX6_sums 31 = .ok (.iload_n 3, 1) := by decide +kernel
theorem dX6_sums_32 : decode cX6_sums 32 = .ok (.iconst 2, 1) := by decide +kernel
theorem dX6_sums_33 : decode cX6_sums 33 = .ok (.iload_n 1, 1) := by decide +kernel
theorem dX6_sums_34 : decode cX6_sums 34 = .ok (.iconst 1, 1) := by decide +kernel
theorem dX6_sums_35 : decode cX6_sums 35 = .ok (.isub, 1) := by decide +kernel
theorem dX6_sums_36 : decode cX6_sums 36 = .ok (.invokestatic 63, 3) := by decide +kernel
theorem dX6_sums_39 : decode cX6_sums 39 = .ok (.ifCond .eq 8, 3) := by decide +kernel
theorem dX6_sums_42 : decode cX6_sums 42 = .ok (.aload 5, 2) := by decide +kernel
theorem dX6_sums_44 : decode cX6_sums 44 = .ok (.ifnonnull 5, 3) := by decide +kernel
theorem dX6_sums_47 : decode cX6_sums 47 = .ok (.iconst (-1), 1) := by decide +kernel
theorem dX6_sums_48 : decode cX6_sums 48 = .ok (.ireturn, 1) := by decide +kernel
theorem dX6_sums_49 : decode cX6_sums 49 = .ok (.iload_n 1, 1) := by decide +kernel
theorem dX6_sums_50 : decode cX6_sums 50 = .ok (.iconst 2, 1) := by decide +kernel
theorem dX6_sums_51 : decode cX6_sums 51 = .ok (.isub, 1) := by decide +kernel
theorem dX6_sums_52 : decode cX6_sums 52 = .ok (.istore 6, 2) := by decide +kernel
theorem dX6_sums_54 : decode cX6_sums 54 = .ok (.aload_n 0, 1) := by decide +kernel
theorem dX6_sums_55 : decode cX6_sums 55 = .ok (.getfield 16, 3) := by decide +kernel
theorem dX6_sums_58 : decode cX6_sums 58 = .ok (.iload 6, 2) := by decide +kernel
theorem dX6_sums_60 : decode cX6_sums 60 = .ok (.iload 6, 2) := by decide +kernel
theorem dX6_sums_62 : decode cX6_sums 62 = .ok (.invokevirtual 75, 3) := by decide +kernel
theorem dX6_sums_65 : decode cX6_sums 65 = .ok (.iload_n 2, 1) := by decide +kernel
theorem dX6_sums_66 : decode cX6_sums 66 = .ok (.istore 7, 2) := by decide +kernel
theorem dX6_sums_68 : decode cX6_sums 68 = .ok (.iconst 0, 1) := by decide +kernel
theorem dX6_sums_69 : decode cX6_sums 69 = .ok (.istore 8, 2) := by decide +kernel
theorem dX6_sums_71 : decode cX6_sums 71 = .ok (.iload 8, 2) := by decide +kernel
theorem dX6_sums_73 : decode cX6_sums 73 = .ok (.iload 6, 2) := by decide +kernel
theorem dX6_sums_75 : decode cX6_sums 75 = .ok (.if_icmp .ge 35, 3) := by decide +kernel
theorem dX6_sums_78 : decode cX6_sums 78 = .ok (.aload_n 0, 1) := by decide +kernel
theorem dX6_sums_79 : decode cX6_sums 79 = .ok (.getfield 16, 3) := by decide +kernel
theorem dX6_sums_82 : decode cX6_sums 82 = .ok (.iload 8, 2) := by decide +kernel
theorem dX6_sums_84 : decode cX6_sums 84 = .ok (.iload 7, 2) := by decide +kernel
theorem dX6_sums_86 : decode cX6_sums 86 = .ok (.iload_n 3, 1) := by decide +kernel
theorem dX6_sums_87 : decode cX6_sums 87 = .ok (.iload_n 1, 1) := by decide +kernel
theorem dX6_sums_88 : decode cX6_sums 88 = .ok (.invokestatic 203, 3) := by decide +kernel
theorem dX6_sums_91 : decode cX6_sums 91 = .ok (.invokevirtual 83, 3) := by decide +kernel
theorem dX6_sums_94 : decode cX6_sums 94 = .ok (.iload 7, 2) := by decide +kernel
theorem dX6_sums_96 : decode cX6_sums 96 = .ok (.iload_n 2, 1) := by decide +kernel
theorem dX6_sums_97 : decode cX6_sums 97 = .ok (.imul, 1) := by decide +kernel
theorem dX6_sums_98 : decode cX6_sums 98 = .ok (.iload_n 1, 1) := by decide +kernel
theorem dX6_sums_99 : decode cX6_sums 99 = .ok (.invokestatic 196, 3) := by decide +kernel
theorem dX6_sums_102 : decode cX6_sums 102 = .ok (.istore 7, 2) := by decide +kernel
theorem dX6_sums_104 : decode cX6_sums 104 = .ok (.iinc 8 1, 3) := by decide +kernel
theorem dX6_sums_107 : decode cX6_sums 107 = .ok (.goto (-36), 3) := by decide +kernel
theorem dX6_sums_110 : decode cX6_sums 110 = .ok (.aload_n 0, 1) := by decide +kernel
theorem dX6_sums_111 : decode cX6_sums 111 = .ok (.aload 5, 2) := by decide +kernel
theorem dX6_sums_113 : decode cX6_sums 113 = .ok (.invokevirtual 199, 3) := by decide +kernel
theorem dX6_sums_116 : decode cX6_sums 116 = .ok (.ireturn, 1) := by decide +kernel
theorem dX6_turn_0 : decode cX6_turn 0 = .ok (.aload_n 0, 1) := by decide +kernel
theorem dX6_turn_1 : decode cX6_turn 1 = .ok (.iload_n 1, 1) := by decide +kernel
theorem dX6_turn_2 : decode cX6_turn 2 = .ok (.invokevirtual 59, 3) := by decide +kernel
theorem dX6_turn_5 : decode cX6_turn 5 = .ok (.astore_n 3, 1) := by decide +kernel
theorem dX6_turn_6 : decode cX6_turn 6 = .ok (.aload_n 3, 1) := by decide +kernel
theorem dX6_turn_7 : decode cX6_turn 7 = .ok (.ifnull 13, 3) := by decide +kernel
theorem dX6_turn_10 : decode cX6_turn 10 = .ok (.iload_n 2, 1) := by decide +kernel
theorem dX6_turn_11 : decode cX6_turn 11 = .ok (.iconst 0, 1) := by decide +kernel
theorem dX6_turn_12 : decode cX6_turn 12 = .ok (.bipush 7, 2) := by decide +kernel
theorem dX6_turn_14 : decode cX6_turn 14 = .ok (.invokestatic 63, 3) := by decide +kernel
theorem dX6_turn_17 : decode cX6_turn 17 = .ok (.ifCond .ne 5, 3) := by decide +kernel
theorem dX6_turn_20 : decode cX6_turn 20 = .ok (.iconst (-1), 1) := by decide +kernel
theorem dX6_turn_21 : decode cX6_turn 21 = .ok (.ireturn, 1) := by decide +kernel
theorem dX6_turn_22 : decode cX6_turn 22 = .ok (.aload_n 3, 1) := by decide +kernel
theorem dX6_turn_23 : decode cX6_turn 23 = .ok (.invokevirtual 206, 3) := by decide +kernel
theorem dX6_turn_26 : decode cX6_turn 26 = .ok (.ifCond .ne 6, 3) := by decide +kernel
theorem dX6_turn_29 : decode cX6_turn 29 = .ok (.bipush (-2), 2) := by decide +kernel
theorem dX6_turn_31 : decode cX6_turn 31 = .ok (.ireturn, 1) := by decide +kernel
theorem dX6_turn_32 : decode cX6_turn 32 = .ok (.aload_n 0, 1) := by decide +kernel
theorem dX6_turn_33 : decode cX6_turn 33 = .ok (.getfield 16, 3) := by decide +kernel
theorem dX6_turn_36 : decode cX6_turn 36 = .ok (.aload_n 3, 1) := by decide +kernel
theorem dX6_turn_37 : decode cX6_turn 37 = .ok (.iload_n 2, 1) := by decide +kernel
theorem dX6_turn_38 : decode cX6_turn 38 = .ok (.invokestatic 210, 3) := by decide +kernel
theorem dX6_turn_41 : decode cX6_turn 41 = .ok (.aload_n 3, 1) := by decide +kernel
theorem dX6_turn_42 : decode cX6_turn 42 = .ok (.aload_n 0, 1) := by decide +kernel
theorem dX6_turn_43 : decode cX6_turn 43 = .ok (.getfield 16, 3) := by decide +kernel
theorem dX6_turn_46 : decode cX6_turn 46 = .ok (.invokevirtual 214, 3) := by decide +kernel
theorem dX6_turn_49 : decode cX6_turn 49 = .ok (.aload_n 3, 1) := by decide +kernel
theorem dX6_turn_50 : decode cX6_turn 50 = .ok (.invokevirtual 71, 3) := by decide +kernel
theorem dX6_turn_53 : decode cX6_turn 53 = .ok (.ireturn, 1) := by decide +kernel
theorem dX6_like_0 : decode cX6_like 0 = .ok (.aload_n 0, 1) := by decide +kernel
theorem dX6_like_1 : decode cX6_like 1 = .ok (.iload_n 1, 1) := by decide +kernel
theorem dX6_like_2 : decode cX6_like 2 = .ok (.invokevirtual 59, 3) := by decide +kernel
theorem dX6_like_5 : decode cX6_like 5 = .ok (.astore_n 2, 1) := by decide +kernel
theorem dX6_like_6 : decode cX6_like 6 = .ok (.aload_n 2, 1) := by decide +kernel
theorem dX6_like_7 : decode cX6_like 7 = .ok (.ifnonnull 5, 3) := by decide +kernel
theorem dX6_like_10 : decode cX6_like 10 = .ok (.iconst (-1), 1) := by decide +kernel
theorem dX6_like_11 : decode cX6_like 11 = .ok (.ireturn, 1) := by decide +kernel
theorem dX6_like_12 : decode cX6_like 12 = .ok (.aload_n 2, 1) := by decide +kernel
theorem dX6_like_13 : decode cX6_like 13 = .ok (.invokevirtual 206, 3) := by decide +kernel
theorem dX6_like_16 : decode cX6_like 16 = .ok (.ifCond .ne 6, 3) := by decide +kernel
theorem dX6_like_19 : decode cX6_like 19 = .ok (.bipush (-2), 2) := by decide +kernel
theorem dX6_like_21 : decode cX6_like 21 = .ok (.ireturn, 1) := by decide +kernel
theorem dX6_like_22 : decode cX6_like 22 = .ok (.iconst 0, 1) := by decide +kernel
theorem dX6_like_23 : decode cX6_like 23 = .ok (.istore_n 3, 1) := by decide +kernel
theorem dX6_like_24 : decode cX6_like 24 = .ok (.iconst 0, 1) := by decide +kernel
theorem dX6_like_25 : decode cX6_like 25 = .ok (.istore 4, 2) := by decide +kernel
theorem dX6_like_27 : decode cX6_like 27 = .ok (.iload 4, 2) := by decide +kernel
theorem dX6_like_29 : decode cX6_like 29 = .ok (.aload_n 0, 1) := by decide +kernel
theorem dX6_like_30 : decode cX6_like 30 = .ok (.getfield 55, 3) := by decide +kernel
theorem dX6_like_33 : decode cX6_like 33 = .ok (.arraylength, 1) := by decide +kernel
theorem dX6_like_34 : decode cX6_like 34 = .ok (.if_icmp .ge 45, 3) := by decide +kernel
theorem dX6_like_37 : decode cX6_like 37 = .ok (.aload_n 0, 1) := by decide +kernel
theorem dX6_like_38 : decode cX6_like 38 = .ok (.getfield 16, 3) := by decide +kernel
theorem dX6_like_41 : decode cX6_like 41 = .ok (.aload_n 2, 1) := by decide +kernel
theorem dX6_like_42 : decode cX6_like 42 = .ok (.iload 4, 2) := by decide +kernel
theorem dX6_like_44 : decode cX6_like 44 = .ok (.invokestatic 210, 3) := by decide +kernel
theorem dX6_like_47 : decode cX6_like 47 = .ok (.aload_n 0, 1) := by decide +kernel
theorem dX6_like_48 : decode cX6_like 48 = .ok (.getfield 55, 3) := by decide +kernel
theorem dX6_like_51 : decode cX6_like 51 = .ok (.iload 4, 2) := by decide +kernel
theorem dX6_like_53 : decode cX6_like 53 = .ok (.aload_n 0, 1) := by decide +kernel
theorem dX6_like_54 : decode cX6_like 54 = .ok (.getfield 16, 3) := by decide +kernel
theorem dX6_like_57 : decode cX6_like 57 = .ok (.invokevirtual 125, 3) := by decide +kernel
theorem dX6_like_60 : decode cX6_like 60 = .ok (.lastore, 1) := by decide +kernel
theorem dX6_like_61 : decode cX6_like 61 = .ok (.aload_n 0, 1) := by decide +kernel
theorem dX6_like_62 : decode cX6_like 62 = .ok (.iload 4, 2) := by decide +kernel
theorem dX6_like_64 : decode cX6_like 64 = .ok (.invokevirtual 217, 3) := by decide +kernel
theorem dX6_like_67 : decode cX6_like 67 = .ok (.ifCond .eq 6, 3) := by decide +kernel
theorem dX6_like_70 : decode cX6_like 70 = .ok (.iinc 3 1, 3) := by decide +kernel
theorem dX6_like_73 : decode cX6_like 73 = .ok (.iinc 4 1, 3) := by decide +kernel
theorem dX6_like_76 : decode cX6_like 76 = .ok (.goto (-49), 3) := by decide +kernel
theorem dX6_like_79 : decode cX6_like 79 = .ok (.iload_n 3, 1) := by decide +kernel
theorem dX6_like_80 : decode cX6_like 80 = .ok (.ireturn, 1) := by decide +kernel
theorem dX6_corner_0 : decode cX6_corner 0 = .ok (.aload_n 0, 1) := by decide +kernel
theorem dX6_corner_1 : decode cX6_corner 1 = .ok (.iload_n 1, 1) := by decide +kernel
theorem dX6_corner_2 : decode cX6_corner 2 = .ok (.invokevirtual 59, 3) := by decide +kernel
theorem dX6_corner_5 : decode cX6_corner 5 = .ok (.astore 4, 2) := by decide +kernel
theorem dX6_corner_7 : decode cX6_corner 7 = .ok (.aload 4, 2) := by decide +kernel
theorem dX6_corner_9 : decode cX6_corner 9 = .ok (.ifnull 12, 3) := by decide +kernel
theorem dX6_corner_12 : decode cX6_corner 12 = .ok (.iload_n 2, 1) := by decide +kernel
theorem dX6_corner_13 : decode cX6_corner 13 = .ok (.iconst 0, 1) := by decide +kernel
theorem dX6_corner_14 : decode cX6_corner 14 = .ok (.iconst 3, 1) := by decide +kernel
theorem dX6_corner_15 : decode cX6_corner 15 = .ok (.invokestatic 63, 3) := by decide +kernel
theorem dX6_corner_18 : decode cX6_corner 18 = .ok (.ifCond .ne 5, 3) := by decide +kernel
theorem dX6_corner_21 : decode cX6_corner 21 = .ok (.iconst (-1), 1) := by decide +kernel
theorem dX6_corner_22 : decode cX6_corner 22 = .ok (.ireturn, 1) := by decide +kernel
theorem dX6_corner_23 : decode cX6_corner 23 = .ok (.aload 4, 2) := by decide +kernel
theorem dX6_corner_25 : decode cX6_corner 25 = .ok (.invokevirtual 206, 3) := by decide +kernel
theorem dX6_corner_28 : decode cX6_corner 28 = .ok (.ifCond .ne 6, 3) := by decide +kernel
theorem dX6_corner_31 : decode cX6_corner 31 = .ok (.bipush (-2), 2) := by decide +kernel
theorem dX6_corner_33 : decode cX6_corner 33 = .ok (.ireturn, 1) := by decide +kernel
theorem dX6_corner_34 : decode cX6_corner 34 = .ok (.iload_n 2, 1) := by decide +kernel
theorem dX6_corner_35 : decode cX6_corner 35 = .ok (.iconst 1, 1) := by decide +kernel
theorem dX6_corner_36 : decode cX6_corner 36 = .ok (.iand, 1) := by decide +kernel
theorem dX6_corner_37 : decode cX6_corner 37 = .ok (.ifCond .eq 7, 3) := by decide +kernel
theorem dX6_corner_40 : decode cX6_corner 40 = .ok (.iconst 1, 1) := by decide +kernel
theorem dX6_corner_41 : decode cX6_corner 41 = .ok (.goto 4, 3) := by decide +kernel
theorem dX6_corner_44 : decode cX6_corner 44 = .ok (.iconst 0, 1) := by decide +kernel
theorem dX6_corner_45 : decode cX6_corner 45 = .ok (.istore 5, 2) := by decide +kernel
theorem dX6_corner_47 : decode cX6_corner 47 = .ok (.iload_n 2, 1) := by decide +kernel
theorem dX6_corner_48 : decode cX6_corner 48 = .ok (.iconst 2, 1) := by decide +kernel
theorem dX6_corner_49 : decode cX6_corner 49 = .ok (.iand, 1) := by decide +kernel
theorem dX6_corner_50 : decode cX6_corner 50 = .ok (.ifCond .eq 7, 3) := by decide +kernel
theorem dX6_corner_53 : decode cX6_corner 53 = .ok (.iconst 1, 1) := by decide +kernel
theorem dX6_corner_54 : decode cX6_corner 54 = .ok (.goto 4, 3) := by decide +kernel
theorem dX6_corner_57 : decode cX6_corner 57 = .ok (.iconst 0, 1) := by decide +kernel
theorem dX6_corner_58 : decode cX6_corner 58 = .ok (.istore 6, 2) := by decide +kernel
theorem dX6_corner_60 : decode cX6_corner 60 = .ok (.iload_n 3, 1) := by decide +kernel
theorem dX6_corner_61 : decode cX6_corner 61 = .ok (.ifCond .eq 16, 3) := by decide +kernel
theorem dX6_corner_64 : decode cX6_corner 64 = .ok (.aload_n 0, 1) := by decide +kernel
theorem dX6_corner_65 : decode cX6_corner 65 = .ok (.aload 4, 2) := by decide +kernel
theorem dX6_corner_67 : decode cX6_corner 67 = .ok (.iload 5, 2) := by decide +kernel
theorem dX6_corner_69 : decode cX6_corner 69 = .ok (.iload 6, 2) := by decide +kernel
theorem dX6_corner_71 : decode cX6_corner 71 = .ok (.invokevirtual 220, 3) := by decide +kernel
theorem dX6_corner_74 : decode cX6_corner 74 = .ok (.goto 13, 3) := by decide +kernel
theorem dX6_corner_77 : decode cX6_corner 77 = .ok (.aload_n 0, 1) := by decide +kernel
theorem dX6_corner_78 : decode cX6_corner 78 = .ok (.aload 4, 2) := by decide +kernel
theorem dX6_corner_80 : decode cX6_corner 80 = .ok (.iload 5, 2) := by decide +kernel
theorem dX6_corner_82 : decode cX6_corner 82 = .ok (.iload 6, 2) := by decide +kernel
theorem dX6_corner_84 : decode cX6_corner 84 = .ok (.invokevirtual 224, 3) := by decide +kernel
theorem dX6_corner_87 : decode cX6_corner 87 = .ok (.ireturn, 1) := by decide +kernel
theorem dX6_hear_0 : decode cX6_hear 0 = .ok (.iload_n 1, 1) := by decide +kernel
theorem dX6_hear_1 : decode cX6_hear 1 = .ok (.iconst 0, 1) := by decide +kernel
theorem dX6_hear_2 : decode cX6_hear 2 = .ok (.bipush 30, 2) := by decide +kernel
theorem dX6_hear_4 : decode cX6_hear 4 = .ok (.invokestatic 63, 3) := by decide +kernel
theorem dX6_hear_7 : decode cX6_hear 7 = .ok (.ifCond .eq 14, 3) := by decide +kernel
theorem dX6_hear_10 : decode cX6_hear 10 = .ok (.iload_n 2, 1) := by decide +kernel
theorem dX6_hear_11 : decode cX6_hear 11 = .ok (.bipush (-20), 2) := by decide +kernel
theorem dX6_hear_13 : decode cX6_hear 13 = .ok (.bipush 20, 2) := by decide +kernel
theorem dX6_hear_15 : decode cX6_hear 15 = .ok (.invokestatic 63, 3) := by decide +kernel
theorem dX6_hear_18 : decode cX6_hear 18 = .ok (.ifCond .ne 5, 3) := by decide +kernel
theorem dX6_hear_21 : decode cX6_hear 21 = .ok (.iconst (-1), 1) := by decide +kernel
theorem dX6_hear_22 : decode cX6_hear 22 = .ok (.ireturn, 1) := by decide +kernel
theorem dX6_hear_23 : decode cX6_hear 23 = .ok (.aload_n 0, 1) := by decide +kernel
theorem dX6_hear_24 : decode cX6_hear 24 = .ok (.getfield 51, 3) := by decide +kernel
theorem dX6_hear_27 : decode cX6_hear 27 = .ok (.iload_n 1, 1) := by decide +kernel
theorem dX6_hear_28 : decode cX6_hear 28 = .ok (.iload_n 2, 1) := by decide +kernel
theorem dX6_hear_29 : decode cX6_hear 29 = .ok (.invokevirtual 227, 3) := by decide +kernel
theorem dX6_hear_32 : decode cX6_hear 32 = .ok (.ifCond .eq 6, 3) := by decide +kernel
theorem dX6_hear_35 : decode cX6_hear 35 = .ok (.bipush (-2), 2) := by decide +kernel
theorem dX6_hear_37 : decode cX6_hear 37 = .ok (.ireturn, 1) := by decide +kernel
theorem dX6_hear_38 : decode cX6_hear 38 = .ok (.aload_n 0, 1) := by decide +kernel
theorem dX6_hear_39 : decode cX6_hear 39 = .ok (.getfield 51, 3) := by decide +kernel
theorem dX6_hear_42 : decode cX6_hear 42 = .ok (.invokevirtual 231, 3) := by decide +kernel
theorem dX6_hear_45 : decode cX6_hear 45 = .ok (.ifCond .eq 6, 3) := by decide +kernel
theorem dX6_hear_48 : decode cX6_hear 48 = .ok (.bipush (-3), 2) := by decide +kernel
theorem dX6_hear_50 : decode cX6_hear 50 = .ok (.ireturn, 1) := by decide +kernel
theorem dX6_hear_51 : decode cX6_hear 51 = .ok (.aload_n 0, 1) := by decide +kernel
theorem dX6_hear_52 : decode cX6_hear 52 = .ok (.getfield 51, 3) := by decide +kernel
theorem dX6_hear_55 : decode cX6_hear 55 = .ok (.iload_n 1, 1) := by decide +kernel
theorem dX6_hear_56 : decode cX6_hear 56 = .ok (.iload_n 2, 1) := by decide +kernel
theorem dX6_hear_57 : decode cX6_hear 57 = .ok (.invokevirtual 234, 3) := by decide +kernel
theorem dX6_hear_60 : decode cX6_hear 60 = .ok (.aload_n 0, 1) := by decide +kernel
theorem dX6_hear_61 : decode cX6_hear 61 = .ok (.getfield 51, 3) := by decide +kernel
theorem dX6_hear_64 : decode cX6_hear 64 = .ok (.invokevirtual 236, 3) := by decide +kernel
theorem dX6_hear_67 : decode cX6_hear 67 = .ok (.ireturn, 1) := by decide +kernel
theorem dX6_still_0 : decode cX6_still 0 = .ok (.aload_n 0, 1) := by decide +kernel
theorem dX6_still_1 : decode cX6_still 1 = .ok (.getfield 51, 3) := by decide +kernel
theorem dX6_still_4 : decode cX6_still 4 = .ok (.invokevirtual 236, 3) := by decide +kernel
theorem dX6_still_7 : decode cX6_still 7 = .ok (.istore_n 1, 1) := by decide +kernel
theorem dX6_still_8 : decode cX6_still 8 = .ok (.aload_n 0, 1) := by decide +kernel
theorem dX6_still_9 : decode cX6_still 9 = .ok (.getfield 51, 3) := by decide +kernel
theorem dX6_still_12 : decode cX6_still 12 = .ok (.invokevirtual 239, 3) := by decide +kernel
theorem dX6_still_15 : decode cX6_still 15 = .ok (.iload_n 1, 1) := by decide +kernel
theorem dX6_still_16 : decode cX6_still 16 = .ok (.ireturn, 1) := by decide +kernel
theorem dX6_found_0 : decode cX6_found 0 = .ok (.aload_n 0, 1) := by decide +kernel
theorem dX6_found_1 : decode cX6_found 1 = .ok (.iload_n 1, 1) := by decide +kernel
theorem dX6_found_2 : decode cX6_found 2 = .ok (.invokevirtual 59, 3) := by decide +kernel
theorem dX6_found_5 : decode cX6_found 5 = .ok (.astore_n 3, 1) := by decide +kernel
theorem dX6_found_6 : decode cX6_found 6 = .ok (.aload_n 3, 1) := by decide +kernel
theorem dX6_found_7 : decode cX6_found 7 = .ok (.ifnull 12, 3) := by decide +kernel
theorem dX6_found_10 : decode cX6_found 10 = .ok (.iload_n 2, 1) := by decide +kernel
theorem dX6_found_11 : decode cX6_found 11 = .ok (.iconst 0, 1) := by decide +kernel
theorem dX6_found_12 : decode cX6_found 12 = .ok (.iconst 2, 1) := by decide +kernel
theorem dX6_found_13 : decode cX6_found 13 = .ok (.invokestatic 63, 3) := by decide +kernel
theorem dX6_found_16 : decode cX6_found 16 = .ok (.ifCond .ne 6, 3) := by decide +kernel
theorem dX6_found_19 : decode cX6_found 19 = .ok (.bipush (-100), 2) := by decide +kernel
theorem dX6_found_21 : decode cX6_found 21 = .ok (.ireturn, 1) := by decide +kernel
theorem dX6_found_22 : decode cX6_found 22 = .ok (.aload_n 0, 1) := by decide +kernel
theorem dX6_found_23 : decode cX6_found 23 = .ok (.getfield 51, 3) := by decide +kernel
theorem dX6_found_26 : decode cX6_found 26 = .ok (.aload_n 3, 1) := by decide +kernel
theorem dX6_found_27 : decode cX6_found 27 = .ok (.invokevirtual 240, 3) := by decide +kernel
theorem dX6_found_30 : decode cX6_found 30 = .ok (.iload_n 2, 1) := by decide +kernel
theorem dX6_found_31 : decode cX6_found 31 = .ok (.ifCond .ne 11, 3) := by decide +kernel
theorem dX6_found_34 : decode cX6_found 34 = .ok (.aload_n 0, 1) := by decide +kernel
theorem dX6_found_35 : decode cX6_found 35 = .ok (.getfield 51, 3) := by decide +kernel
theorem dX6_found_38 : decode cX6_found 38 = .ok (.invokevirtual 243, 3) := by decide +kernel
theorem dX6_found_41 : decode cX6_found 41 = .ok (.ireturn, 1) := by decide +kernel
theorem dX6_found_42 : decode cX6_found 42 = .ok (.iload_n 2, 1) := by decide +kernel
theorem dX6_found_43 : decode cX6_found 43 = .ok (.iconst 1, 1) := by decide +kernel
theorem dX6_found_44 : decode cX6_found 44 = .ok (.if_icmp .ne 13, 3) := by decide +kernel
theorem dX6_found_47 : decode cX6_found 47 = .ok (.aload_n 0, 1) := by decide +kernel
theorem dX6_found_48 : decode cX6_found 48 = .ok (.getfield 51, 3) := by decide +kernel
theorem dX6_found_51 : decode cX6_found 51 = .ok (.invokevirtual 244, 3) := by decide +kernel
theorem dX6_found_54 : decode cX6_found 54 = .ok (.goto 10, 3) := by decide +kernel
theorem dX6_found_57 : decode cX6_found 57 = .ok (.aload_n 0, 1) := by decide +kernel
theorem dX6_found_58 : decode cX6_found 58 = .ok (.getfield 51, 3) := by decide +kernel
theorem dX6_found_61 : decode cX6_found 61 = .ok (.invokevirtual 247, 3) := by decide +kernel
theorem dX6_found_64 : decode cX6_found 64 = .ok (.ireturn, 1) := by decide +kernel
theorem dX6_among_0 : decode cX6_among 0 = .ok (.iload_n 1, 1) := by decide +kernel
theorem dX6_among_1 : decode cX6_among 1 = .ok (.iconst 0, 1) := by decide +kernel
theorem dX6_among_2 : decode cX6_among 2 = .ok (.iconst 1, 1) := by decide +kernel
theorem dX6_among_3 : decode cX6_among 3 = .ok (.invokestatic 63, 3) := by decide +kernel
theorem dX6_among_6 : decode cX6_among 6 = .ok (.ifCond .ne 5, 3) := by decide +kernel
theorem dX6_among_9 : decode cX6_among 9 = .ok (.iconst (-1), 1) := by decide +kernel
theorem dX6_among_10 : decode cX6_among 10 = .ok (.ireturn, 1) := by decide +kernel
theorem dX6_among_11 : decode cX6_among 11 = .ok (.iconst (-1), 1) := by decide +kernel
theorem dX6_among_12 : decode cX6_among 12 = .ok (.istore_n 2, 1) := by decide +kernel
theorem dX6_among_13 : decode cX6_among 13 = .ok (.iconst (-1), 1) := by decide +kernel
theorem dX6_among_14 : decode cX6_among 14 = .ok (.istore_n 3, 1) := by decide +kernel
theorem dX6_among_15 : decode cX6_among 15 = .ok (.iconst 0, 1) := by decide +kernel
theorem dX6_among_16 : decode cX6_among 16 = .ok (.istore 4, 2) := by decide +kernel
theorem dX6_among_18 : decode cX6_among 18 = .ok (.iconst 0, 1) := by decide +kernel
theorem dX6_among_19 : decode cX6_among 19 = .ok (.istore 5, 2) := by decide +kernel
theorem dX6_among_21 : decode cX6_among 21 = .ok (.iload 5, 2) := by decide +kernel
theorem dX6_among_23 : decode cX6_among 23 = .ok (.bipush 6, 2) := by decide +kernel
theorem dX6_among_25 : decode cX6_among 25 = .ok (.if_icmp .ge 44, 3) := by decide +kernel
theorem dX6_among_28 : decode cX6_among 28 = .ok (.aload_n 0, 1) := by decide +kernel
theorem dX6_among_29 : decode cX6_among 29 = .ok (.iload 5, 2) := by decide +kernel
theorem dX6_among_31 : decode cX6_among 31 = .ok (.invokevirtual 250, 3) := by decide +kernel
theorem dX6_among_34 : decode cX6_among 34 = .ok (.istore 6, 2) := by decide +kernel
theorem dX6_among_36 : decode cX6_among 36 = .ok (.iload 6, 2) := by decide +kernel
theorem dX6_among_38 : decode cX6_among 38 = .ok (.iload_n 2, 1) := by decide +kernel
theorem dX6_among_39 : decode cX6_among 39 = .ok (.if_icmp .le 15, 3) := by decide +kernel
theorem dX6_among_42 : decode cX6_among 42 = .ok (.iload_n 2, 1) := by decide +kernel
theorem dX6_among_43 : decode cX6_among 43 = .ok (.istore_n 3, 1) := by decide +kernel
theorem dX6_among_44 : decode cX6_among 44 = .ok (.iload 6, 2) := by decide +kernel
theorem dX6_among_46 : decode cX6_among 46 = .ok (.istore_n 2, 1) := by decide +kernel
theorem dX6_among_47 : decode cX6_among 47 = .ok (.iload 5, 2) := by decide +kernel
theorem dX6_among_49 : decode cX6_among 49 = .ok (.istore 4, 2) := by decide +kernel
theorem dX6_among_51 : decode cX6_among 51 = .ok (.goto 12, 3) := by decide +kernel
theorem dX6_among_54 : decode cX6_among 54 = .ok (.iload 6, 2) := by decide +kernel
theorem dX6_among_56 : decode cX6_among 56 = .ok (.iload_n 3, 1) := by decide +kernel
theorem dX6_among_57 : decode cX6_among 57 = .ok (.if_icmp .le 6, 3) := by decide +kernel
theorem dX6_among_60 : decode cX6_among 60 = .ok (.iload 6, 2) := by decide +kernel
theorem dX6_among_62 : decode cX6_among 62 = .ok (.istore_n 3, 1) := by decide +kernel
theorem dX6_among_63 : decode cX6_among 63 = .ok (.iinc 5 1, 3) := by decide +kernel
theorem dX6_among_66 : decode cX6_among 66 = .ok (.goto (-45), 3) := by decide +kernel
theorem dX6_among_69 : decode cX6_among 69 = .ok (.iload_n 1, 1) := by decide +kernel
theorem dX6_among_70 : decode cX6_among 70 = .ok (.ifCond .ne 8, 3) := by decide +kernel
theorem dX6_among_73 : decode cX6_among 73 = .ok (.iload 4, 2) := by decide +kernel
theorem dX6_among_75 : decode cX6_among 75 = .ok (.goto 6, 3) := by decide +kernel
theorem dX6_among_78 : decode cX6_among 78 = .ok (.iload_n 2, 1) := by decide +kernel
theorem dX6_among_79 : decode cX6_among 79 = .ok (.iload_n 3, 1) := by decide +kernel
theorem dX6_among_80 : decode cX6_among 80 = .ok (.isub, 1) := by decide +kernel
theorem dX6_among_81 : decode cX6_among 81 = .ok (.ireturn, 1) := by decide +kernel
theorem dX6_count_0 : decode cX6_count 0 = .ok (.iload_n 1, 1) := by decide +kernel
theorem dX6_count_1 : decode cX6_count 1 = .ok (.tableswitch 57 0 3 #[31, 39, 44, 52], 31) := by decide +kernel
theorem dX6_count_32 : decode cX6_count 32 = .ok (.aload_n 0, 1) := by decide +kernel
theorem dX6_count_33 : decode cX6_count 33 = .ok (.getfield 23, 3) := by decide +kernel
theorem dX6_count_36 : decode cX6_count 36 = .ok (.invokevirtual 94, 3) := by decide +kernel
theorem dX6_count_39 : decode cX6_count 39 = .ok (.ireturn, 1) := by decide +kernel
theorem dX6_count_40 : decode cX6_count 40 = .ok (.aload_n 0, 1) := by decide +kernel
theorem dX6_count_41 : decode cX6_count 41 = .ok (.invokevirtual 253, 3) := by decide +kernel
theorem dX6_count_44 : decode cX6_count 44 = .ok (.ireturn, 1) := by decide +kernel
theorem dX6_count_45 : decode cX6_count 45 = .ok (.aload_n 0, 1) := by decide +kernel
theorem dX6_count_46 : decode cX6_count 46 = .ok (.getfield 51, 3) := by decide +kernel
theorem dX6_count_49 : decode cX6_count 49 = .ok (.invokevirtual 236, 3) := by decide +kernel
theorem dX6_count_52 : decode cX6_count 52 = .ok (.ireturn, 1) := by decide +kernel
theorem dX6_count_53 : decode cX6_count 53 = .ok (.aload_n 0, 1) := by decide +kernel
theorem dX6_count_54 : decode cX6_count 54 = .ok (.invokevirtual 256, 3) := by decide +kernel
theorem dX6_count_57 : decode cX6_count 57 = .ok (.ireturn, 1) := by decide +kernel
theorem dX6_count_58 : decode cX6_count 58 = .ok (.iconst (-1), 1) := by decide +kernel
theorem dX6_count_59 : decode cX6_count 59 = .ok (.ireturn, 1) := by decide +kernel
theorem dX6_within_0 : decode cX6_within 0 = .ok (.iload_n 0, 1) := by decide +kernel
theorem dX6_within_1 : decode cX6_within 1 = .ok (.iload_n 1, 1) := by decide +kernel
theorem dX6_within_2 : decode cX6_within 2 = .ok (.if_icmp .lt 12, 3) := by decide +kernel
theorem dX6_within_5 : decode cX6_within 5 = .ok (.iload_n 0, 1) := by decide +kernel
theorem dX6_within_6 : decode cX6_within 6 = .ok (.iload_n 2, 1) := by decide +kernel
theorem dX6_within_7 : decode cX6_within 7 = .ok (.if_icmp .gt 7, 3) := by decide +kernel
theorem dX6_within_10 : decode cX6_within 10 = .ok (.iconst 1, 1) := by decide +kernel
theorem dX6_within_11 : decode cX6_within 11 = .ok (.goto 4, 3) := by decide +kernel
theorem dX6_within_14 : decode cX6_within 14 = .ok (.iconst 0, 1) := by decide +kernel
theorem dX6_within_15 : decode cX6_within 15 = .ok (.ireturn, 1) := by decide +kernel
theorem dX6_isKind_0 : decode cX6_isKind 0 = .ok (.iload_n 0, 1) := by decide +kernel
theorem dX6_isKind_1 : decode cX6_isKind 1 = .ok (.ifCond .eq 8, 3) := by decide +kernel
theorem dX6_isKind_4 : decode cX6_isKind 4 = .ok (.iload_n 0, 1) := by decide +kernel
theorem dX6_isKind_5 : decode cX6_isKind 5 = .ok (.iconst 1, 1) := by decide +kernel
theorem dX6_isKind_6 : decode cX6_isKind 6 = .ok (.if_icmp .ne 7, 3) := by decide +kernel
theorem dX6_isKind_9 : decode cX6_isKind 9 = .ok (.iconst 1, 1) := by decide +kernel
theorem dX6_isKind_10 : decode cX6_isKind 10 = .ok (.goto 4, 3) := by decide +kernel
theorem dX6_isKind_13 : decode cX6_isKind 13 = .ok (.iconst 0, 1) := by decide +kernel
theorem dX6_isKind_14 : decode cX6_isKind 14 = .ok (.ireturn, 1) := by decide +kernel
theorem dX6_isMove_0 : decode cX6_isMove 0 = .ok (.iload_n 0, 1) := by decide +kernel
theorem dX6_isMove_1 : decode cX6_isMove 1 = .ok (.bipush (-12), 2) := by decide +kernel
theorem dX6_isMove_3 : decode cX6_isMove 3 = .ok (.bipush 12, 2) := by decide +kernel
theorem dX6_isMove_5 : decode cX6_isMove 5 = .ok (.invokestatic 63, 3) := by decide +kernel
theorem dX6_isMove_8 : decode cX6_isMove 8 = .ok (.ireturn, 1) := by decide +kernel
theorem dX6_isToldPrime_0 : decode cX6_isToldPrime 0 = .ok (.iload_n 0, 1) := by decide +kernel
theorem dX6_isToldPrime_1 : decode cX6_isToldPrime 1 = .ok (.iconst 3, 1) := by decide +kernel
theorem dX6_isToldPrime_2 : decode cX6_isToldPrime 2 = .ok (.if_icmp .eq 26, 3) := by decide +kernel
theorem dX6_isToldPrime_5 : decode cX6_isToldPrime 5 = .ok (.iload_n 0, 1) := by decide +kernel
theorem dX6_isToldPrime_6 : decode cX6_isToldPrime 6 = .ok (.iconst 5, 1) := by decide +kernel
theorem dX6_isToldPrime_7 : decode cX6_isToldPrime 7 = .ok (.if_icmp .eq 21, 3) := by decide +kernel
theorem dX6_isToldPrime_10 : decode cX6_isToldPrime 10 = .ok (.iload_n 0, 1) := by decide +kernel
theorem dX6_isToldPrime_11 : decode cX6_isToldPrime 11 = .ok (.bipush 7, 2) := by decide +kernel
theorem dX6_isToldPrime_13 : decode cX6_isToldPrime 13 = .ok (.if_icmp .eq 15, 3) := by decide +kernel
theorem dX6_isToldPrime_16 : decode cX6_isToldPrime 16 = .ok (.iload_n 0, 1) := by decide +kernel
theorem dX6_isToldPrime_17 : decode cX6_isToldPrime 17 = .ok (.bipush 11, 2) := by decide +kernel
theorem dX6_isToldPrime_19 : decode cX6_isToldPrime 19 = .ok (.if_icmp .eq 9, 3) := by decide +kernel
theorem dX6_isToldPrime_22 : decode cX6_isToldPrime 22 = .ok (.iload_n 0, 1) := by decide +kernel
theorem dX6_isToldPrime_23 : decode cX6_isToldPrime 23 = .ok (.bipush 13, 2) := by decide +kernel
theorem dX6_isToldPrime_25 : decode cX6_isToldPrime 25 = .ok (.if_icmp .ne 7, 3) := by decide +kernel
theorem dX6_isToldPrime_28 : decode cX6_isToldPrime 28 = .ok (.iconst 1, 1) := by decide +kernel
theorem dX6_isToldPrime_29 : decode cX6_isToldPrime 29 = .ok (.goto 4, 3) := by decide +kernel
theorem dX6_isToldPrime_32 : decode cX6_isToldPrime 32 = .ok (.iconst 0, 1) := by decide +kernel
theorem dX6_isToldPrime_33 : decode cX6_isToldPrime 33 = .ok (.ireturn, 1) := by decide +kernel
theorem dX6_rest_0 : decode cX6_rest 0 = .ok (.iload_n 1, 1) := by decide +kernel
theorem dX6_rest_1 : decode cX6_rest 1 = .ok (.iconst 1, 1) := by decide +kernel
theorem dX6_rest_2 : decode cX6_rest 2 = .ok (.if_icmp .ge 7, 3) := by decide +kernel
theorem dX6_rest_5 : decode cX6_rest 5 = .ok (.iconst 0, 1) := by decide +kernel
theorem dX6_rest_6 : decode cX6_rest 6 = .ok (.goto 8, 3) := by decide +kernel
theorem dX6_rest_9 : decode cX6_rest 9 = .ok (.iload_n 0, 1) := by decide +kernel
theorem dX6_rest_10 : decode cX6_rest 10 = .ok (.iload_n 1, 1) := by decide +kernel
theorem dX6_rest_11 : decode cX6_rest 11 = .ok (.invokestatic 259, 3) := by decide +kernel
theorem dX6_rest_14 : decode cX6_rest 14 = .ok (.ireturn, 1) := by decide +kernel
theorem dX6_nibble_0 : decode cX6_nibble 0 = .ok (.lload_n 0, 1) := by decide +kernel
theorem dX6_nibble_1 : decode cX6_nibble 1 = .ok (.iconst 4, 1) := by decide +kernel
theorem dX6_nibble_2 : decode cX6_nibble 2 = .ok (.iload_n 2, 1) := by decide +kernel
theorem dX6_nibble_3 : decode cX6_nibble 3 = .ok (.imul, 1) := by decide +kernel
theorem dX6_nibble_4 : decode cX6_nibble 4 = .ok (.lushr, 1) := by decide +kernel
theorem dX6_nibble_5 : decode cX6_nibble 5 = .ok (.l2i, 1) := by decide +kernel
theorem dX6_nibble_6 : decode cX6_nibble 6 = .ok (.bipush 15, 2) := by decide +kernel
theorem dX6_nibble_8 : decode cX6_nibble 8 = .ok (.iand, 1) := by decide +kernel
theorem dX6_nibble_9 : decode cX6_nibble 9 = .ok (.ireturn, 1) := by decide +kernel
theorem dX6_fits_0 : decode cX6_fits 0 = .ok (.lload_n 2, 1) := by decide +kernel
theorem dX6_fits_1 : decode cX6_fits 1 = .ok (.iconst 4, 1) := by decide +kernel
theorem dX6_fits_2 : decode cX6_fits 2 = .ok (.iload_n 0, 1) := by decide +kernel
theorem dX6_fits_3 : decode cX6_fits 3 = .ok (.imul, 1) := by decide +kernel
theorem dX6_fits_4 : decode cX6_fits 4 = .ok (.lushr, 1) := by decide +kernel
theorem dX6_fits_5 : decode cX6_fits 5 = .ok (.lconst 0, 1) := by decide +kernel
theorem dX6_fits_6 : decode cX6_fits 6 = .ok (.lcmp, 1) := by decide +kernel
theorem dX6_fits_7 : decode cX6_fits 7 = .ok (.ifCond .eq 5, 3) := by decide +kernel
theorem dX6_fits_10 : decode cX6_fits 10 = .ok (.iconst 0, 1) := by decide +kernel
theorem dX6_fits_11 : decode cX6_fits 11 = .ok (.ireturn, 1) := by decide +kernel
theorem dX6_fits_12 : decode cX6_fits 12 = .ok (.iconst 0, 1) := by decide +kernel
theorem dX6_fits_13 : decode cX6_fits 13 = .ok (.istore 4, 2) := by decide +kernel
theorem dX6_fits_15 : decode cX6_fits 15 = .ok (.iload 4, 2) := by decide +kernel
theorem dX6_fits_17 : decode cX6_fits 17 = .ok (.iload_n 0, 1) := by decide +kernel
theorem dX6_fits_18 : decode cX6_fits 18 = .ok (.if_icmp .ge 32, 3) := by decide +kernel
theorem dX6_fits_21 : decode cX6_fits 21 = .ok (.lload_n 2, 1) := by decide +kernel
theorem dX6_fits_22 : decode cX6_fits 22 = .ok (.iload 4, 2) := by decide +kernel
theorem dX6_fits_24 : decode cX6_fits 24 = .ok (.invokestatic 79, 3) := by decide +kernel
theorem dX6_fits_27 : decode cX6_fits 27 = .ok (.istore 5, 2) := by decide +kernel
theorem dX6_fits_29 : decode cX6_fits 29 = .ok (.iload 5, 2) := by decide +kernel
theorem dX6_fits_31 : decode cX6_fits 31 = .ok (.iload_n 1, 1) := by decide +kernel
theorem dX6_fits_32 : decode cX6_fits 32 = .ok (.if_icmp .lt 12, 3) := by decide +kernel
theorem dX6_fits_35 : decode cX6_fits 35 = .ok (.iload 5, 2) := by decide +kernel
theorem dX6_fits_37 : decode cX6_fits 37 = .ok (.bipush 15, 2) := by decide +kernel
theorem dX6_fits_39 : decode cX6_fits 39 = .ok (.if_icmp .eq 5, 3) := by decide +kernel
theorem dX6_fits_42 : decode cX6_fits 42 = .ok (.iconst 0, 1) := by decide +kernel
theorem dX6_fits_43 : decode cX6_fits 43 = .ok (.ireturn, 1) := by decide +kernel
theorem dX6_fits_44 : decode cX6_fits 44 = .ok (.iinc 4 1, 3) := by decide +kernel
theorem dX6_fits_47 : decode cX6_fits 47 = .ok (.goto (-32), 3) := by decide +kernel
theorem dX6_fits_50 : decode cX6_fits 50 = .ok (.iconst 1, 1) := by decide +kernel
theorem dX6_fits_51 : decode cX6_fits 51 = .ok (.ireturn, 1) := by decide +kernel
theorem dX6_rowAt_0 : decode cX6_rowAt 0 = .ok (.iload_n 1, 1) := by decide +kernel
theorem dX6_rowAt_1 : decode cX6_rowAt 1 = .ok (.iconst 0, 1) := by decide +kernel
theorem dX6_rowAt_2 : decode cX6_rowAt 2 = .ok (.iconst 5, 1) := by decide +kernel
theorem dX6_rowAt_3 : decode cX6_rowAt 3 = .ok (.invokestatic 63, 3) := by decide +kernel
theorem dX6_rowAt_6 : decode cX6_rowAt 6 = .ok (.ifCond .eq 12, 3) := by decide +kernel
theorem dX6_rowAt_9 : decode cX6_rowAt 9 = .ok (.aload_n 0, 1) := by decide +kernel
theorem dX6_rowAt_10 : decode cX6_rowAt 10 = .ok (.getfield 11, 3) := by decide +kernel
theorem dX6_rowAt_13 : decode cX6_rowAt 13 = .ok (.iload_n 1, 1) := by decide +kernel
theorem dX6_rowAt_14 : decode cX6_rowAt 14 = .ok (.aaload, 1) := by decide +kernel
theorem dX6_rowAt_15 : decode cX6_rowAt 15 = .ok (.goto 4, 3) := by decide +kernel
theorem dX6_rowAt_18 : decode cX6_rowAt 18 = .ok (.aconst_null, 1) := by decide +kernel
theorem dX6_rowAt_19 : decode cX6_rowAt 19 = .ok (.areturn, 1) := by decide +kernel
theorem dX6_layOne_0 : decode cX6_layOne 0 = .ok (.aload_n 0, 1) := by decide +kernel
theorem dX6_layOne_1 : decode cX6_layOne 1 = .ok (.iload_n 1, 1) := by decide +kernel
theorem dX6_layOne_2 : decode cX6_layOne 2 = .ok (.invokevirtual 59, 3) := by decide +kernel
theorem dX6_layOne_5 : decode cX6_layOne 5 = .ok (.astore 5, 2) := by decide +kernel
theorem dX6_layOne_7 : decode cX6_layOne 7 = .ok (.aload 5, 2) := by decide +kernel
theorem dX6_layOne_9 : decode cX6_layOne 9 = .ok (.ifnonnull 4, 3) := by decide +kernel
theorem dX6_layOne_12 : decode cX6_layOne 12 = .ok (.return_, 1) := by decide +kernel
theorem dX6_layOne_13 : decode cX6_layOne 13 = .ok (.aload 5, 2) := by decide +kernel
theorem dX6_layOne_15 : decode cX6_layOne 15 = .ok (.iload 4, 2) := by decide +kernel
theorem dX6_layOne_17 : decode cX6_layOne 17 = .ok (.iload_n 3, 1) := by decide +kernel
theorem dX6_layOne_18 : decode cX6_layOne 18 = .ok (.isub, 1) := by decide +kernel
theorem dX6_layOne_19 : decode cX6_layOne 19 = .ok (.iload_n 2, 1) := by decide +kernel
theorem dX6_layOne_20 : decode cX6_layOne 20 = .ok (.invokevirtual 75, 3) := by decide +kernel
theorem dX6_layOne_23 : decode cX6_layOne 23 = .ok (.iconst 0, 1) := by decide +kernel
theorem dX6_layOne_24 : decode cX6_layOne 24 = .ok (.istore 6, 2) := by decide +kernel
theorem dX6_layOne_26 : decode cX6_layOne 26 = .ok (.iload 6, 2) := by decide +kernel
theorem dX6_layOne_28 : decode cX6_layOne 28 = .ok (.iload 4, 2) := by decide +kernel
theorem dX6_layOne_30 : decode cX6_layOne 30 = .ok (.iload_n 3, 1) := by decide +kernel
theorem dX6_layOne_31 : decode cX6_layOne 31 = .ok (.isub, 1) := by decide +kernel
theorem dX6_layOne_32 : decode cX6_layOne 32 = .ok (.if_icmp .ge 27, 3) := by decide +kernel
theorem dX6_layOne_35 : decode cX6_layOne 35 = .ok (.aload 5, 2) := by decide +kernel
theorem dX6_layOne_37 : decode cX6_layOne 37 = .ok (.iload 6, 2) := by decide +kernel
theorem dX6_layOne_39 : decode cX6_layOne 39 = .ok (.aload_n 0, 1) := by decide +kernel
theorem dX6_layOne_40 : decode cX6_layOne 40 = .ok (.getfield 23, 3) := by decide +kernel
theorem dX6_layOne_43 : decode cX6_layOne 43 = .ok (.iload_n 3, 1) := by decide +kernel
theorem dX6_layOne_44 : decode cX6_layOne 44 = .ok (.iload 6, 2) := by decide +kernel
theorem dX6_layOne_46 : decode cX6_layOne 46 = .ok (.iadd, 1) := by decide +kernel
theorem dX6_layOne_47 : decode cX6_layOne 47 = .ok (.invokevirtual 264, 3) := by decide +kernel
theorem dX6_layOne_50 : decode cX6_layOne 50 = .ok (.invokevirtual 83, 3) := by decide +kernel
theorem dX6_layOne_53 : decode cX6_layOne 53 = .ok (.iinc 6 1, 3) := by decide +kernel
theorem dX6_layOne_56 : decode cX6_layOne 56 = .ok (.goto (-30), 3) := by decide +kernel
theorem dX6_layOne_59 : decode cX6_layOne 59 = .ok (.return_, 1) := by decide +kernel
theorem dX6_countOrMake_0 : decode cX6_countOrMake 0 = .ok (.iload_n 1, 1) := by decide +kernel
theorem dX6_countOrMake_1 : decode cX6_countOrMake 1 = .ok (.ifCond .ge 11, 3) := by decide +kernel
theorem dX6_countOrMake_4 : decode cX6_countOrMake 4 = .ok (.aload_n 0, 1) := by decide +kernel
theorem dX6_countOrMake_5 : decode cX6_countOrMake 5 = .ok (.getfield 37, 3) := by decide +kernel
theorem dX6_countOrMake_8 : decode cX6_countOrMake 8 = .ok (.invokevirtual 265, 3) := by decide +kernel
theorem dX6_countOrMake_11 : decode cX6_countOrMake 11 = .ok (.ireturn, 1) := by decide +kernel
theorem dX6_countOrMake_12 : decode cX6_countOrMake 12 = .ok (.aload_n 0, 1) := by decide +kernel
theorem dX6_countOrMake_13 : decode cX6_countOrMake 13 = .ok (.iload_n 2, 1) := by decide +kernel
theorem dX6_countOrMake_14 : decode cX6_countOrMake 14 = .ok (.invokevirtual 59, 3) := by decide +kernel
theorem dX6_countOrMake_17 : decode cX6_countOrMake 17 = .ok (.astore_n 3, 1) := by decide +kernel
theorem dX6_countOrMake_18 : decode cX6_countOrMake 18 = .ok (.aload_n 3, 1) := by decide +kernel
theorem dX6_countOrMake_19 : decode cX6_countOrMake 19 = .ok (.ifnonnull 5, 3) := by decide +kernel
theorem dX6_countOrMake_22 : decode cX6_countOrMake 22 = .ok (.iconst (-1), 1) := by decide +kernel
theorem dX6_countOrMake_23 : decode cX6_countOrMake 23 = .ok (.ireturn, 1) := by decide +kernel
theorem dX6_countOrMake_24 : decode cX6_countOrMake 24 = .ok (.aload_n 0, 1) := by decide +kernel
theorem dX6_countOrMake_25 : decode cX6_countOrMake 25 = .ok (.getfield 37, 3) := by decide +kernel
theorem dX6_countOrMake_28 : decode cX6_countOrMake 28 = .ok (.iload_n 1, 1) := by decide +kernel
theorem dX6_countOrMake_29 : decode cX6_countOrMake 29 = .ok (.invokevirtual 187, 3) := by decide +kernel
theorem dX6_countOrMake_32 : decode cX6_countOrMake 32 = .ok (.ifCond .ne 6, 3) := by decide +kernel
theorem dX6_countOrMake_35 : decode cX6_countOrMake 35 = .ok (.bipush (-4), 2) := by decide +kernel
theorem dX6_countOrMake_37 : decode cX6_countOrMake 37 = .ok (.ireturn, 1) := by decide +kernel
theorem dX6_countOrMake_38 : decode cX6_countOrMake 38 = .ok (.aload_n 0, 1) := by decide +kernel
theorem dX6_countOrMake_39 : decode cX6_countOrMake 39 = .ok (.getfield 37, 3) := by decide +kernel
theorem dX6_countOrMake_42 : decode cX6_countOrMake 42 = .ok (.aload_n 3, 1) := by decide +kernel
theorem dX6_countOrMake_43 : decode cX6_countOrMake 43 = .ok (.invokevirtual 268, 3) := by decide +kernel
theorem dX6_countOrMake_46 : decode cX6_countOrMake 46 = .ok (.iload_n 2, 1) := by decide +kernel
theorem dX6_countOrMake_47 : decode cX6_countOrMake 47 = .ok (.ireturn, 1) := by decide +kernel
theorem dX6_quarrel_0 : decode cX6_quarrel 0 = .ok (.aload_n 0, 1) := by decide +kernel
theorem dX6_quarrel_1 : decode cX6_quarrel 1 = .ok (.iload_n 2, 1) := by decide +kernel
theorem dX6_quarrel_2 : decode cX6_quarrel 2 = .ok (.invokevirtual 116, 3) := by decide +kernel
theorem dX6_quarrel_5 : decode cX6_quarrel 5 = .ok (.ifCond .eq 33, 3) := by decide +kernel
theorem dX6_quarrel_8 : decode cX6_quarrel 8 = .ok (.aload_n 0, 1) := by decide +kernel
theorem dX6_quarrel_9 : decode cX6_quarrel 9 = .ok (.iload_n 2, 1) := by decide +kernel
theorem dX6_quarrel_10 : decode cX6_quarrel 10 = .ok (.iload 4, 2) := by decide +kernel
theorem dX6_quarrel_12 : decode cX6_quarrel 12 = .ok (.iadd, 1) := by decide +kernel
theorem dX6_quarrel_13 : decode cX6_quarrel 13 = .ok (.invokevirtual 116, 3) := by decide +kernel
theorem dX6_quarrel_16 : decode cX6_quarrel 16 = .ok (.ifCond .eq 22, 3) := by decide +kernel
theorem dX6_quarrel_19 : decode cX6_quarrel 19 = .ok (.aload_n 0, 1) := by decide +kernel
theorem dX6_quarrel_20 : decode cX6_quarrel 20 = .ok (.iload_n 3, 1) := by decide +kernel
theorem dX6_quarrel_21 : decode cX6_quarrel 21 = .ok (.invokevirtual 116, 3) := by decide +kernel
theorem dX6_quarrel_24 : decode cX6_quarrel 24 = .ok (.ifCond .eq 14, 3) := by decide +kernel
theorem dX6_quarrel_27 : decode cX6_quarrel 27 = .ok (.aload_n 0, 1) := by decide +kernel
theorem dX6_quarrel_28 : decode cX6_quarrel 28 = .ok (.iload_n 3, 1) := by decide +kernel
theorem dX6_quarrel_29 : decode cX6_quarrel 29 = .ok (.iload 4, 2) := by decide +kernel
theorem dX6_quarrel_31 : decode cX6_quarrel 31 = .ok (.iadd, 1) := by decide +kernel
theorem dX6_quarrel_32 : decode cX6_quarrel 32 = .ok (.invokevirtual 116, 3) := by decide +kernel
theorem dX6_quarrel_35 : decode cX6_quarrel 35 = .ok (.ifCond .ne 5, 3) := by decide +kernel
theorem dX6_quarrel_38 : decode cX6_quarrel 38 = .ok (.iconst 0, 1) := by decide +kernel
theorem dX6_quarrel_39 : decode cX6_quarrel 39 = .ok (.ireturn, 1) := by decide +kernel
theorem dX6_quarrel_40 : decode cX6_quarrel 40 = .ok (.aload_n 0, 1) := by decide +kernel
theorem dX6_quarrel_41 : decode cX6_quarrel 41 = .ok (.iload_n 2, 1) := by decide +kernel
theorem dX6_quarrel_42 : decode cX6_quarrel 42 = .ok (.iload_n 2, 1) := by decide +kernel
theorem dX6_quarrel_43 : decode cX6_quarrel 43 = .ok (.iload 4, 2) := by decide +kernel
theorem dX6_quarrel_45 : decode cX6_quarrel 45 = .ok (.iadd, 1) := by decide +kernel
theorem dX6_quarrel_46 : decode cX6_quarrel 46 = .ok (.iload_n 1, 1) := by decide +kernel
theorem dX6_quarrel_47 : decode cX6_quarrel 47 = .ok (.invokevirtual 132, 3) := by decide +kernel
theorem dX6_quarrel_50 : decode cX6_quarrel 50 = .ok (.aload_n 0, 1) := by decide +kernel
theorem dX6_quarrel_51 : decode cX6_quarrel 51 = .ok (.iload_n 3, 1) := by decide +kernel
theorem dX6_quarrel_52 : decode cX6_quarrel 52 = .ok (.iload_n 3, 1) := by decide +kernel
theorem dX6_quarrel_53 : decode cX6_quarrel 53 = .ok (.iload 4, 2) := by decide +kernel
theorem dX6_quarrel_55 : decode cX6_quarrel 55 = .ok (.iadd, 1) := by decide +kernel
theorem dX6_quarrel_56 : decode cX6_quarrel 56 = .ok (.iload_n 1, 1) := by decide +kernel
theorem dX6_quarrel_57 : decode cX6_quarrel 57 = .ok (.invokevirtual 132, 3) := by decide +kernel
theorem dX6_quarrel_60 : decode cX6_quarrel 60 = .ok (.if_icmp .ne 7, 3) := by decide +kernel
theorem dX6_quarrel_63 : decode cX6_quarrel 63 = .ok (.iconst 1, 1) := by decide +kernel
theorem dX6_quarrel_64 : decode cX6_quarrel 64 = .ok (.goto 4, 3) := by decide +kernel
theorem dX6_quarrel_67 : decode cX6_quarrel 67 = .ok (.iconst 0, 1) := by decide +kernel
theorem dX6_quarrel_68 : decode cX6_quarrel 68 = .ok (.ireturn, 1) := by decide +kernel
theorem dX6_firstQuarrel_0 : decode cX6_firstQuarrel 0 = .ok (.aload_n 0, 1) := by decide +kernel
theorem dX6_firstQuarrel_1 : decode cX6_firstQuarrel 1 = .ok (.invokevirtual 71, 3) := by decide +kernel
theorem dX6_firstQuarrel_4 : decode cX6_firstQuarrel 4 = .ok (.istore_n 2, 1) := by decide +kernel
theorem dX6_firstQuarrel_5 : decode cX6_firstQuarrel 5 = .ok (.iconst 0, 1) := by decide +kernel
theorem dX6_firstQuarrel_6 : decode cX6_firstQuarrel 6 = .ok (.istore_n 3, 1) := by decide +kernel
theorem dX6_firstQuarrel_7 : decode cX6_firstQuarrel 7 = .ok (.iload_n 3, 1) := by decide +kernel
theorem dX6_firstQuarrel_8 : decode cX6_firstQuarrel 8 = .ok (.iload_n 2, 1) := by decide +kernel
theorem dX6_firstQuarrel_9 : decode cX6_firstQuarrel 9 = .ok (.if_icmp .ge 90, 3) := by decide +kernel
theorem dX6_firstQuarrel_12 : decode cX6_firstQuarrel 12 = .ok (.iload_n 3, 1) := by decide +kernel
theorem dX6_firstQuarrel_13 : decode cX6_firstQuarrel 13 = .ok (.iconst 1, 1) := by decide +kernel
theorem dX6_firstQuarrel_14 : decode cX6_firstQuarrel 14 = .ok (.iadd, 1) := by decide +kernel
theorem dX6_firstQuarrel_15 : decode cX6_firstQuarrel 15 = .ok (.istore 4, 2) := by decide +kernel
theorem dX6_firstQuarrel_17 : decode cX6_firstQuarrel 17 = .ok (.iload 4, 2) := by decide +kernel
theorem dX6_firstQuarrel_19 : decode cX6_firstQuarrel 19 = .ok (.iload_n 2, 1) := by decide +kernel
theorem dX6_firstQuarrel_20 : decode cX6_firstQuarrel 20 = .ok (.if_icmp .ge 73, 3) := by decide +kernel
theorem dX6_firstQuarrel_23 : decode cX6_firstQuarrel 23 = .ok (.iload_n 3, 1) := by decide +kernel
theorem dX6_firstQuarrel_24 : decode cX6_firstQuarrel 24 = .ok (.iconst 1, 1) := by decide +kernel
theorem dX6_firstQuarrel_25 : decode cX6_firstQuarrel 25 = .ok (.iadd, 1) := by decide +kernel
theorem dX6_firstQuarrel_26 : decode cX6_firstQuarrel 26 = .ok (.istore 5, 2) := by decide +kernel
theorem dX6_firstQuarrel_28 : decode cX6_firstQuarrel 28 = .ok (.iload 5, 2) := by decide +kernel
theorem dX6_firstQuarrel_30 : decode cX6_firstQuarrel 30 = .ok (.iload 4, 2) := by decide +kernel
theorem dX6_firstQuarrel_32 : decode cX6_firstQuarrel 32 = .ok (.iadd, 1) := by decide +kernel
theorem dX6_firstQuarrel_33 : decode cX6_firstQuarrel 33 = .ok (.iload_n 3, 1) := by decide +kernel
theorem dX6_firstQuarrel_34 : decode cX6_firstQuarrel 34 = .ok (.isub, 1) := by decide +kernel
theorem dX6_firstQuarrel_35 : decode cX6_firstQuarrel 35 = .ok (.iload_n 2, 1) := by decide +kernel
theorem dX6_firstQuarrel_36 : decode cX6_firstQuarrel 36 = .ok (.if_icmp .ge 51, 3) := by decide +kernel
theorem dX6_firstQuarrel_39 : decode cX6_firstQuarrel 39 = .ok (.aload_n 0, 1) := by decide +kernel
theorem dX6_firstQuarrel_40 : decode cX6_firstQuarrel 40 = .ok (.iload_n 1, 1) := by decide +kernel
theorem dX6_firstQuarrel_41 : decode cX6_firstQuarrel 41 = .ok (.iload_n 3, 1) := by decide +kernel
theorem dX6_firstQuarrel_42 : decode cX6_firstQuarrel 42 = .ok (.iload 5, 2) := by decide +kernel
theorem dX6_firstQuarrel_44 : decode cX6_firstQuarrel 44 = .ok (.iload 4, 2) := by decide +kernel
theorem dX6_firstQuarrel_46 : decode cX6_firstQuarrel 46 = .ok (.iload_n 3, 1) := by decide +kernel
theorem dX6_firstQuarrel_47 : decode cX6_firstQuarrel 47 = .ok (.isub, 1) := by decide +kernel
theorem dX6_firstQuarrel_48 : decode cX6_firstQuarrel 48 = .ok (.invokestatic 271, 3) := by decide +kernel
theorem dX6_firstQuarrel_51 : decode cX6_firstQuarrel 51 = .ok (.ifCond .eq 30, 3) := by decide +kernel
theorem dX6_firstQuarrel_54 : decode cX6_firstQuarrel 54 = .ok (.sipush 4096, 3) := by decide +kernel
theorem dX6_firstQuarrel_57 : decode cX6_firstQuarrel 57 = .ok (.iload_n 3, 1) := by decide +kernel
theorem dX6_firstQuarrel_58 : decode cX6_firstQuarrel 58 = .ok (.imul, 1) := by decide +kernel
theorem dX6_firstQuarrel_59 : decode cX6_firstQuarrel 59 = .ok (.sipush 256, 3) := by decide +kernel
theorem dX6_firstQuarrel_62 : decode cX6_firstQuarrel 62 = .ok (.iload 4, 2) := by decide +kernel
theorem dX6_firstQuarrel_64 : decode cX6_firstQuarrel 64 = .ok (.imul, 1) := by decide +kernel
theorem dX6_firstQuarrel_65 : decode cX6_firstQuarrel 65 = .ok (.iadd, 1) := by decide +kernel
theorem dX6_firstQuarrel_66 : decode cX6_firstQuarrel 66 = .ok (.bipush 16, 2) := by decide +kernel
theorem dX6_firstQuarrel_68 : decode cX6_firstQuarrel 68 = .ok (.iload 5, 2) := by decide +kernel
theorem dX6_firstQuarrel_70 : decode cX6_firstQuarrel 70 = .ok (.imul, 1) := by decide +kernel
theorem dX6_firstQuarrel_71 : decode cX6_firstQuarrel 71 = .ok (.iadd, 1) := by decide +kernel
theorem dX6_firstQuarrel_72 : decode cX6_firstQuarrel 72 = .ok (.iload 5, 2) := by decide +kernel
theorem dX6_firstQuarrel_74 : decode cX6_firstQuarrel 74 = .ok (.iadd, 1) := by decide +kernel
theorem dX6_firstQuarrel_75 : decode cX6_firstQuarrel 75 = .ok (.iload 4, 2) := by decide +kernel
theorem dX6_firstQuarrel_77 : decode cX6_firstQuarrel 77 = .ok (.iadd, 1) := by decide +kernel
theorem dX6_firstQuarrel_78 : decode cX6_firstQuarrel 78 = .ok (.iload_n 3, 1) := by decide +kernel
theorem dX6_firstQuarrel_79 : decode cX6_firstQuarrel 79 = .ok (.isub, 1) := by decide +kernel
theorem dX6_firstQuarrel_80 : decode cX6_firstQuarrel 80 = .ok (.ireturn, 1) := by decide +kernel
theorem dX6_firstQuarrel_81 : decode cX6_firstQuarrel 81 = .ok (.iinc 5 1, 3) := by decide +kernel
theorem dX6_firstQuarrel_84 : decode cX6_firstQuarrel 84 = .ok (.goto (-56), 3) := by decide +kernel
theorem dX6_firstQuarrel_87 : decode cX6_firstQuarrel 87 = .ok (.iinc 4 1, 3) := by decide +kernel
theorem dX6_firstQuarrel_90 : decode cX6_firstQuarrel 90 = .ok (.goto (-73), 3) := by decide +kernel
theorem dX6_firstQuarrel_93 : decode cX6_firstQuarrel 93 = .ok (.iinc 3 1, 3) := by decide +kernel
theorem dX6_firstQuarrel_96 : decode cX6_firstQuarrel 96 = .ok (.goto (-89), 3) := by decide +kernel
theorem dX6_firstQuarrel_99 : decode cX6_firstQuarrel 99 = .ok (.bipush (-4), 2) := by decide +kernel
theorem dX6_firstQuarrel_101 : decode cX6_firstQuarrel 101 = .ok (.ireturn, 1) := by decide +kernel
theorem dX6_quarrelCount_0 : decode cX6_quarrelCount 0 = .ok (.aload_n 0, 1) := by decide +kernel
theorem dX6_quarrelCount_1 : decode cX6_quarrelCount 1 = .ok (.invokevirtual 71, 3) := by decide +kernel
theorem dX6_quarrelCount_4 : decode cX6_quarrelCount 4 = .ok (.istore_n 2, 1) := by decide +kernel
theorem dX6_quarrelCount_5 : decode cX6_quarrelCount 5 = .ok (.iconst 0, 1) := by decide +kernel
theorem dX6_quarrelCount_6 : decode cX6_quarrelCount 6 = .ok (.istore_n 3, 1) := by decide +kernel
theorem dX6_quarrelCount_7 : decode cX6_quarrelCount 7 = .ok (.iconst 1, 1) := by decide +kernel
theorem dX6_quarrelCount_8 : decode cX6_quarrelCount 8 = .ok (.istore 4, 2) := by decide +kernel
theorem dX6_quarrelCount_10 : decode cX6_quarrelCount 10 = .ok (.iload 4, 2) := by decide +kernel
theorem dX6_quarrelCount_12 : decode cX6_quarrelCount 12 = .ok (.iload_n 2, 1) := by decide +kernel
theorem dX6_quarrelCount_13 : decode cX6_quarrelCount 13 = .ok (.if_icmp .ge 60, 3) := by decide +kernel
theorem dX6_quarrelCount_16 : decode cX6_quarrelCount 16 = .ok (.iconst 1, 1) := by decide +kernel
theorem dX6_quarrelCount_17 : decode cX6_quarrelCount 17 = .ok (.istore 5, 2) := by decide +kernel
theorem dX6_quarrelCount_19 : decode cX6_quarrelCount 19 = .ok (.iload 5, 2) := by decide +kernel
theorem dX6_quarrelCount_21 : decode cX6_quarrelCount 21 = .ok (.iload 4, 2) := by decide +kernel
theorem dX6_quarrelCount_23 : decode cX6_quarrelCount 23 = .ok (.iadd, 1) := by decide +kernel
theorem dX6_quarrelCount_24 : decode cX6_quarrelCount 24 = .ok (.iload_n 2, 1) := by decide +kernel
theorem dX6_quarrelCount_25 : decode cX6_quarrelCount 25 = .ok (.if_icmp .ge 42, 3) := by decide +kernel
theorem dX6_quarrelCount_28 : decode cX6_quarrelCount 28 = .ok (.iconst 0, 1) := by decide +kernel
theorem dX6_quarrelCount_29 : decode cX6_quarrelCount 29 = .ok (.istore 6, 2) := by decide +kernel
theorem dX6_quarrelCount_31 : decode cX6_quarrelCount 31 = .ok (.iload 6, 2) := by decide +kernel
theorem dX6_quarrelCount_33 : decode cX6_quarrelCount 33 = .ok (.iload 5, 2) := by decide +kernel
theorem dX6_quarrelCount_35 : decode cX6_quarrelCount 35 = .ok (.if_icmp .ge 26, 3) := by decide +kernel
theorem dX6_quarrelCount_38 : decode cX6_quarrelCount 38 = .ok (.aload_n 0, 1) := by decide +kernel
theorem dX6_quarrelCount_39 : decode cX6_quarrelCount 39 = .ok (.iload_n 1, 1) := by decide +kernel
theorem dX6_quarrelCount_40 : decode cX6_quarrelCount 40 = .ok (.iload 6, 2) := by decide +kernel
theorem dX6_quarrelCount_42 : decode cX6_quarrelCount 42 = .ok (.iload 5, 2) := by decide +kernel
theorem dX6_quarrelCount_44 : decode cX6_quarrelCount 44 = .ok (.iload 4, 2) := by decide +kernel
theorem dX6_quarrelCount_46 : decode cX6_quarrelCount 46 = .ok (.invokestatic 271, 3) := by decide +kernel
theorem dX6_quarrelCount_49 : decode cX6_quarrelCount 49 = .ok (.ifCond .eq 6, 3) := by decide +kernel
theorem dX6_quarrelCount_52 : decode cX6_quarrelCount 52 = .ok (.iinc 3 1, 3) := by decide +kernel
theorem dX6_quarrelCount_55 : decode cX6_quarrelCount 55 = .ok (.iinc 6 1, 3) := by decide +kernel
theorem dX6_quarrelCount_58 : decode cX6_quarrelCount 58 = .ok (.goto (-27), 3) := by decide +kernel
theorem dX6_quarrelCount_61 : decode cX6_quarrelCount 61 = .ok (.iinc 5 1, 3) := by decide +kernel
theorem dX6_quarrelCount_64 : decode cX6_quarrelCount 64 = .ok (.goto (-45), 3) := by decide +kernel
theorem dX6_quarrelCount_67 : decode cX6_quarrelCount 67 = .ok (.iinc 4 1, 3) := by decide +kernel
theorem dX6_quarrelCount_70 : decode cX6_quarrelCount 70 = .ok (.goto (-60), 3) := by decide +kernel
theorem dX6_quarrelCount_73 : decode cX6_quarrelCount 73 = .ok (.iload_n 3, 1) := by decide +kernel
theorem dX6_quarrelCount_74 : decode cX6_quarrelCount 74 = .ok (.ireturn, 1) := by decide +kernel
theorem dX6_meeting_0 : decode cX6_meeting 0 = .ok (.iconst 0, 1) := by decide +kernel
theorem dX6_meeting_1 : decode cX6_meeting 1 = .ok (.istore 4, 2) := by decide +kernel
theorem dX6_meeting_3 : decode cX6_meeting 3 = .ok (.iconst 0, 1) := by decide +kernel
theorem dX6_meeting_4 : decode cX6_meeting 4 = .ok (.istore 5, 2) := by decide +kernel
theorem dX6_meeting_6 : decode cX6_meeting 6 = .ok (.iload 5, 2) := by decide +kernel
theorem dX6_meeting_8 : decode cX6_meeting 8 = .ok (.aload_n 0, 1) := by decide +kernel
theorem dX6_meeting_9 : decode cX6_meeting 9 = .ok (.invokevirtual 71, 3) := by decide +kernel
theorem dX6_meeting_12 : decode cX6_meeting 12 = .ok (.if_icmp .ge 40, 3) := by decide +kernel
theorem dX6_meeting_15 : decode cX6_meeting 15 = .ok (.aload_n 0, 1) := by decide +kernel
theorem dX6_meeting_16 : decode cX6_meeting 16 = .ok (.iload 5, 2) := by decide +kernel
theorem dX6_meeting_18 : decode cX6_meeting 18 = .ok (.invokevirtual 116, 3) := by decide +kernel
theorem dX6_meeting_21 : decode cX6_meeting 21 = .ok (.ifCond .eq 25, 3) := by decide +kernel
theorem dX6_meeting_24 : decode cX6_meeting 24 = .ok (.aload_n 1, 1) := by decide +kernel
theorem dX6_meeting_25 : decode cX6_meeting 25 = .ok (.iload 5, 2) := by decide +kernel
theorem dX6_meeting_27 : decode cX6_meeting 27 = .ok (.iload_n 2, 1) := by decide +kernel
theorem dX6_meeting_28 : decode cX6_meeting 28 = .ok (.iadd, 1) := by decide +kernel
theorem dX6_meeting_29 : decode cX6_meeting 29 = .ok (.aload_n 0, 1) := by decide +kernel
theorem dX6_meeting_30 : decode cX6_meeting 30 = .ok (.iload 5, 2) := by decide +kernel
theorem dX6_meeting_32 : decode cX6_meeting 32 = .ok (.invokevirtual 119, 3) := by decide +kernel
theorem dX6_meeting_35 : decode cX6_meeting 35 = .ok (.iload_n 3, 1) := by decide +kernel
theorem dX6_meeting_36 : decode cX6_meeting 36 = .ok (.iadd, 1) := by decide +kernel
theorem dX6_meeting_37 : decode cX6_meeting 37 = .ok (.invokevirtual 275, 3) := by decide +kernel
theorem dX6_meeting_40 : decode cX6_meeting 40 = .ok (.ifCond .eq 6, 3) := by decide +kernel
theorem dX6_meeting_43 : decode cX6_meeting 43 = .ok (.iinc 4 1, 3) := by decide +kernel
theorem dX6_meeting_46 : decode cX6_meeting 46 = .ok (.iinc 5 1, 3) := by decide +kernel
theorem dX6_meeting_49 : decode cX6_meeting 49 = .ok (.goto (-43), 3) := by decide +kernel
theorem dX6_meeting_52 : decode cX6_meeting 52 = .ok (.iload 4, 2) := by decide +kernel
theorem dX6_meeting_54 : decode cX6_meeting 54 = .ok (.ireturn, 1) := by decide +kernel
theorem dX6_meetingRound_0 : decode cX6_meetingRound 0 = .ok (.iconst 0, 1) := by decide +kernel
theorem dX6_meetingRound_1 : decode cX6_meetingRound 1 = .ok (.istore 4, 2) := by decide +kernel
theorem dX6_meetingRound_3 : decode cX6_meetingRound 3 = .ok (.iconst 0, 1) := by decide +kernel
theorem dX6_meetingRound_4 : decode cX6_meetingRound 4 = .ok (.istore 5, 2) := by decide +kernel
theorem dX6_meetingRound_6 : decode cX6_meetingRound 6 = .ok (.iload 5, 2) := by decide +kernel
theorem dX6_meetingRound_8 : decode cX6_meetingRound 8 = .ok (.aload_n 0, 1) := by decide +kernel
theorem dX6_meetingRound_9 : decode cX6_meetingRound 9 = .ok (.invokevirtual 71, 3) := by decide +kernel
theorem dX6_meetingRound_12 : decode cX6_meetingRound 12 = .ok (.if_icmp .ge 74, 3) := by decide +kernel
theorem dX6_meetingRound_15 : decode cX6_meetingRound 15 = .ok (.iload 5, 2) := by decide +kernel
theorem dX6_meetingRound_17 : decode cX6_meetingRound 17 = .ok (.aload_n 1, 1) := by decide +kernel
theorem dX6_meetingRound_18 : decode cX6_meetingRound 18 = .ok (.invokevirtual 71, 3) := by decide +kernel
theorem dX6_meetingRound_21 : decode cX6_meetingRound 21 = .ok (.if_icmp .ge 65, 3) := by decide +kernel
theorem dX6_meetingRound_24 : decode cX6_meetingRound 24 = .ok (.aload_n 0, 1) := by decide +kernel
theorem dX6_meetingRound_25 : decode cX6_meetingRound 25 = .ok (.iload 5, 2) := by decide +kernel
theorem dX6_meetingRound_27 : decode cX6_meetingRound 27 = .ok (.invokevirtual 119, 3) := by decide +kernel
theorem dX6_meetingRound_30 : decode cX6_meetingRound 30 = .ok (.istore 6, 2) := by decide +kernel
theorem dX6_meetingRound_32 : decode cX6_meetingRound 32 = .ok (.iload 6, 2) := by decide +kernel
theorem dX6_meetingRound_34 : decode cX6_meetingRound 34 = .ok (.bipush 15, 2) := by decide +kernel
theorem dX6_meetingRound_36 : decode cX6_meetingRound 36 = .ok (.if_icmp .eq 44, 3) := by decide +kernel
theorem dX6_meetingRound_39 : decode cX6_meetingRound 39 = .ok (.iload 6, 2) := by decide +kernel
theorem dX6_meetingRound_41 : decode cX6_meetingRound 41 = .ok (.aload_n 1, 1) := by decide +kernel
theorem dX6_meetingRound_42 : decode cX6_meetingRound 42 = .ok (.invokevirtual 113, 3) := by decide +kernel
theorem dX6_meetingRound_45 : decode cX6_meetingRound 45 = .ok (.if_icmp .ge 35, 3) := by decide +kernel
theorem dX6_meetingRound_48 : decode cX6_meetingRound 48 = .ok (.aload_n 1, 1) := by decide +kernel
theorem dX6_meetingRound_49 : decode cX6_meetingRound 49 = .ok (.iload 5, 2) := by decide +kernel
theorem dX6_meetingRound_51 : decode cX6_meetingRound 51 = .ok (.iload_n 2, 1) := by decide +kernel
theorem dX6_meetingRound_52 : decode cX6_meetingRound 52 = .ok (.iadd, 1) := by decide +kernel
theorem dX6_meetingRound_53 : decode cX6_meetingRound 53 = .ok (.aload_n 1, 1) := by decide +kernel
theorem dX6_meetingRound_54 : decode cX6_meetingRound 54 = .ok (.invokevirtual 71, 3) := by decide +kernel
theorem dX6_meetingRound_57 : decode cX6_meetingRound 57 = .ok (.invokestatic 196, 3) := by decide +kernel
theorem dX6_meetingRound_60 : decode cX6_meetingRound 60 = .ok (.iload 6, 2) := by decide +kernel
theorem dX6_meetingRound_62 : decode cX6_meetingRound 62 = .ok (.iload_n 3, 1) := by decide +kernel
theorem dX6_meetingRound_63 : decode cX6_meetingRound 63 = .ok (.iadd, 1) := by decide +kernel
theorem dX6_meetingRound_64 : decode cX6_meetingRound 64 = .ok (.aload_n 1, 1) := by decide +kernel
theorem dX6_meetingRound_65 : decode cX6_meetingRound 65 = .ok (.invokevirtual 113, 3) := by decide +kernel
theorem dX6_meetingRound_68 : decode cX6_meetingRound 68 = .ok (.invokestatic 196, 3) := by decide +kernel
theorem dX6_meetingRound_71 : decode cX6_meetingRound 71 = .ok (.invokevirtual 275, 3) := by decide +kernel
theorem dX6_meetingRound_74 : decode cX6_meetingRound 74 = .ok (.ifCond .eq 6, 3) := by decide +kernel
theorem dX6_meetingRound_77 : decode cX6_meetingRound 77 = .ok (.iinc 4 1, 3) := by decide +kernel
theorem dX6_meetingRound_80 : decode cX6_meetingRound 80 = .ok (.iinc 5 1, 3) := by decide +kernel
theorem dX6_meetingRound_83 : decode cX6_meetingRound 83 = .ok (.goto (-77), 3) := by decide +kernel
theorem dX6_meetingRound_86 : decode cX6_meetingRound 86 = .ok (.iload 4, 2) := by decide +kernel
theorem dX6_meetingRound_88 : decode cX6_meetingRound 88 = .ok (.ireturn, 1) := by decide +kernel
theorem dX6_powerBy_0 : decode cX6_powerBy 0 = .ok (.iconst 1, 1) := by decide +kernel
theorem dX6_powerBy_1 : decode cX6_powerBy 1 = .ok (.istore_n 3, 1) := by decide +kernel
theorem dX6_powerBy_2 : decode cX6_powerBy 2 = .ok (.iconst 0, 1) := by decide +kernel
theorem dX6_powerBy_3 : decode cX6_powerBy 3 = .ok (.istore 4, 2) := by decide +kernel
theorem dX6_powerBy_5 : decode cX6_powerBy 5 = .ok (.iload 4, 2) := by decide +kernel
theorem dX6_powerBy_7 : decode cX6_powerBy 7 = .ok (.iload_n 1, 1) := by decide +kernel
theorem dX6_powerBy_8 : decode cX6_powerBy 8 = .ok (.if_icmp .ge 17, 3) := by decide +kernel
theorem dX6_powerBy_11 : decode cX6_powerBy 11 = .ok (.iload_n 3, 1) := by decide +kernel
theorem dX6_powerBy_12 : decode cX6_powerBy 12 = .ok (.iload_n 0, 1) := by decide +kernel
theorem dX6_powerBy_13 : decode cX6_powerBy 13 = .ok (.imul, 1) := by decide +kernel
theorem dX6_powerBy_14 : decode cX6_powerBy 14 = .ok (.iload_n 2, 1) := by decide +kernel
theorem dX6_powerBy_15 : decode cX6_powerBy 15 = .ok (.invokestatic 196, 3) := by decide +kernel
theorem dX6_powerBy_18 : decode cX6_powerBy 18 = .ok (.istore_n 3, 1) := by decide +kernel
theorem dX6_powerBy_19 : decode cX6_powerBy 19 = .ok (.iinc 4 1, 3) := by decide +kernel
theorem dX6_powerBy_22 : decode cX6_powerBy 22 = .ok (.goto (-17), 3) := by decide +kernel
theorem dX6_powerBy_25 : decode cX6_powerBy 25 = .ok (.iload_n 3, 1) := by decide +kernel
theorem dX6_powerBy_26 : decode cX6_powerBy 26 = .ok (.ireturn, 1) := by decide +kernel
theorem dX6_onlyPartner_0 : decode cX6_onlyPartner 0 = .ok (.bipush 15, 2) := by decide +kernel
theorem dX6_onlyPartner_2 : decode cX6_onlyPartner 2 = .ok (.istore_n 3, 1) := by decide +kernel
theorem dX6_onlyPartner_3 : decode cX6_onlyPartner 3 = .ok (.iload_n 1, 1) := by decide +kernel
theorem dX6_onlyPartner_4 : decode cX6_onlyPartner 4 = .ok (.istore 4, 2) := by decide +kernel
theorem dX6_onlyPartner_6 : decode cX6_onlyPartner 6 = .ok (.iconst 0, 1) := by decide +kernel
theorem dX6_onlyPartner_7 : decode cX6_onlyPartner 7 = .ok (.istore 5, 2) := by decide +kernel
theorem dX6_onlyPartner_9 : decode cX6_onlyPartner 9 = .ok (.iload 5, 2) := by decide +kernel
theorem dX6_onlyPartner_11 : decode cX6_onlyPartner 11 = .ok (.iload_n 2, 1) := by decide +kernel
theorem dX6_onlyPartner_12 : decode cX6_onlyPartner 12 = .ok (.iconst 2, 1) := by decide +kernel
theorem dX6_onlyPartner_13 : decode cX6_onlyPartner 13 = .ok (.isub, 1) := by decide +kernel
theorem dX6_onlyPartner_14 : decode cX6_onlyPartner 14 = .ok (.if_icmp .ge 43, 3) := by decide +kernel
theorem dX6_onlyPartner_17 : decode cX6_onlyPartner 17 = .ok (.iload_n 0, 1) := by decide +kernel
theorem dX6_onlyPartner_18 : decode cX6_onlyPartner 18 = .ok (.iload 4, 2) := by decide +kernel
theorem dX6_onlyPartner_20 : decode cX6_onlyPartner 20 = .ok (.iadd, 1) := by decide +kernel
theorem dX6_onlyPartner_21 : decode cX6_onlyPartner 21 = .ok (.iload_n 2, 1) := by decide +kernel
theorem dX6_onlyPartner_22 : decode cX6_onlyPartner 22 = .ok (.invokestatic 196, 3) := by decide +kernel
theorem dX6_onlyPartner_25 : decode cX6_onlyPartner 25 = .ok (.iconst 1, 1) := by decide +kernel
theorem dX6_onlyPartner_26 : decode cX6_onlyPartner 26 = .ok (.if_icmp .ne 15, 3) := by decide +kernel
theorem dX6_onlyPartner_29 : decode cX6_onlyPartner 29 = .ok (.iload_n 3, 1) := by decide +kernel
theorem dX6_onlyPartner_30 : decode cX6_onlyPartner 30 = .ok (.bipush 15, 2) := by decide +kernel
theorem dX6_onlyPartner_32 : decode cX6_onlyPartner 32 = .ok (.if_icmp .eq 6, 3) := by decide +kernel
theorem dX6_onlyPartner_35 : decode cX6_onlyPartner 35 = .ok (.bipush 15, 2) := by decide +kernel
theorem dX6_onlyPartner_37 : decode cX6_onlyPartner 37 = .ok (.ireturn, 1) := by decide +kernel
theorem dX6_onlyPartner_38 : decode cX6_onlyPartner 38 = .ok (.iload 5, 2) := by decide +kernel
theorem dX6_onlyPartner_40 : decode cX6_onlyPartner 40 = .ok (.istore_n 3, 1) := by decide +kernel
theorem dX6_onlyPartner_41 : decode cX6_onlyPartner 41 = .ok (.iload 4, 2) := by decide +kernel
theorem dX6_onlyPartner_43 : decode cX6_onlyPartner 43 = .ok (.iload_n 1, 1) := by decide +kernel
theorem dX6_onlyPartner_44 : decode cX6_onlyPartner 44 = .ok (.imul, 1) := by decide +kernel
theorem dX6_onlyPartner_45 : decode cX6_onlyPartner 45 = .ok (.iload_n 2, 1) := by decide +kernel
theorem dX6_onlyPartner_46 : decode cX6_onlyPartner 46 = .ok (.invokestatic 196, 3) := by decide +kernel
theorem dX6_onlyPartner_49 : decode cX6_onlyPartner 49 = .ok (.istore 4, 2) := by decide +kernel
theorem dX6_onlyPartner_51 : decode cX6_onlyPartner 51 = .ok (.iinc 5 1, 3) := by decide +kernel
theorem dX6_onlyPartner_54 : decode cX6_onlyPartner 54 = .ok (.goto (-45), 3) := by decide +kernel
theorem dX6_onlyPartner_57 : decode cX6_onlyPartner 57 = .ok (.iload_n 3, 1) := by decide +kernel
theorem dX6_onlyPartner_58 : decode cX6_onlyPartner 58 = .ok (.ireturn, 1) := by decide +kernel
theorem dX6_keepSquare_0 : decode cX6_keepSquare 0 = .ok (.aload_n 0, 1) := by decide +kernel
theorem dX6_keepSquare_1 : decode cX6_keepSquare 1 = .ok (.getfield 16, 3) := by decide +kernel
theorem dX6_keepSquare_4 : decode cX6_keepSquare 4 = .ok (.invokevirtual 206, 3) := by decide +kernel
theorem dX6_keepSquare_7 : decode cX6_keepSquare 7 = .ok (.ifCond .ne 6, 3) := by decide +kernel
theorem dX6_keepSquare_10 : decode cX6_keepSquare 10 = .ok (.bipush (-2), 2) := by decide +kernel
theorem dX6_keepSquare_12 : decode cX6_keepSquare 12 = .ok (.ireturn, 1) := by decide +kernel
theorem dX6_keepSquare_13 : decode cX6_keepSquare 13 = .ok (.aload_n 1, 1) := by decide +kernel
theorem dX6_keepSquare_14 : decode cX6_keepSquare 14 = .ok (.aload_n 0, 1) := by decide +kernel
theorem dX6_keepSquare_15 : decode cX6_keepSquare 15 = .ok (.getfield 16, 3) := by decide +kernel
theorem dX6_keepSquare_18 : decode cX6_keepSquare 18 = .ok (.invokevirtual 214, 3) := by decide +kernel
theorem dX6_keepSquare_21 : decode cX6_keepSquare 21 = .ok (.aload_n 1, 1) := by decide +kernel
theorem dX6_keepSquare_22 : decode cX6_keepSquare 22 = .ok (.invokevirtual 71, 3) := by decide +kernel
theorem dX6_keepSquare_25 : decode cX6_keepSquare 25 = .ok (.ireturn, 1) := by decide +kernel
theorem dX6_turnInto_0 : decode cX6_turnInto 0 = .ok (.aload_n 1, 1) := by decide +kernel
theorem dX6_turnInto_1 : decode cX6_turnInto 1 = .ok (.invokevirtual 71, 3) := by decide +kernel
theorem dX6_turnInto_4 : decode cX6_turnInto 4 = .ok (.istore_n 3, 1) := by decide +kernel
theorem dX6_turnInto_5 : decode cX6_turnInto 5 = .ok (.aload_n 0, 1) := by decide +kernel
theorem dX6_turnInto_6 : decode cX6_turnInto 6 = .ok (.iload_n 3, 1) := by decide +kernel
theorem dX6_turnInto_7 : decode cX6_turnInto 7 = .ok (.iload_n 3, 1) := by decide +kernel
theorem dX6_turnInto_8 : decode cX6_turnInto 8 = .ok (.invokevirtual 75, 3) := by decide +kernel
theorem dX6_turnInto_11 : decode cX6_turnInto 11 = .ok (.iconst 0, 1) := by decide +kernel
theorem dX6_turnInto_12 : decode cX6_turnInto 12 = .ok (.istore 4, 2) := by decide +kernel
theorem dX6_turnInto_14 : decode cX6_turnInto 14 = .ok (.iload 4, 2) := by decide +kernel
theorem dX6_turnInto_16 : decode cX6_turnInto 16 = .ok (.iload_n 3, 1) := by decide +kernel
theorem dX6_turnInto_17 : decode cX6_turnInto 17 = .ok (.if_icmp .ge 76, 3) := by decide +kernel
theorem dX6_turnInto_20 : decode cX6_turnInto 20 = .ok (.iload_n 2, 1) := by decide +kernel
theorem dX6_turnInto_21 : decode cX6_turnInto 21 = .ok (.iconst 4, 1) := by decide +kernel
theorem dX6_turnInto_22 : decode cX6_turnInto 22 = .ok (.if_icmp .lt 12, 3) := by decide +kernel
theorem dX6_turnInto_25 : decode cX6_turnInto 25 = .ok (.iload_n 3, 1) := by decide +kernel
theorem dX6_turnInto_26 : decode cX6_turnInto 26 = .ok (.iconst 1, 1) := by decide +kernel
theorem dX6_turnInto_27 : decode cX6_turnInto 27 = .ok (.isub, 1) := by decide +kernel
theorem dX6_turnInto_28 : decode cX6_turnInto 28 = .ok (.iload 4, 2) := by decide +kernel
theorem dX6_turnInto_30 : decode cX6_turnInto 30 = .ok (.isub, 1) := by decide +kernel
theorem dX6_turnInto_31 : decode cX6_turnInto 31 = .ok (.goto 5, 3) := by decide +kernel
theorem dX6_turnInto_34 : decode cX6_turnInto 34 = .ok (.iload 4, 2) := by decide +kernel
theorem dX6_turnInto_36 : decode cX6_turnInto 36 = .ok (.istore 5, 2) := by decide +kernel
theorem dX6_turnInto_38 : decode cX6_turnInto 38 = .ok (.aload_n 1, 1) := by decide +kernel
theorem dX6_turnInto_39 : decode cX6_turnInto 39 = .ok (.iload 4, 2) := by decide +kernel
theorem dX6_turnInto_41 : decode cX6_turnInto 41 = .ok (.invokevirtual 119, 3) := by decide +kernel
theorem dX6_turnInto_44 : decode cX6_turnInto 44 = .ok (.istore 6, 2) := by decide +kernel
theorem dX6_turnInto_46 : decode cX6_turnInto 46 = .ok (.iconst 0, 1) := by decide +kernel
theorem dX6_turnInto_47 : decode cX6_turnInto 47 = .ok (.istore 7, 2) := by decide +kernel
theorem dX6_turnInto_49 : decode cX6_turnInto 49 = .ok (.iload 7, 2) := by decide +kernel
theorem dX6_turnInto_51 : decode cX6_turnInto 51 = .ok (.iload_n 2, 1) := by decide +kernel
theorem dX6_turnInto_52 : decode cX6_turnInto 52 = .ok (.iconst 3, 1) := by decide +kernel
theorem dX6_turnInto_53 : decode cX6_turnInto 53 = .ok (.iand, 1) := by decide +kernel
theorem dX6_turnInto_54 : decode cX6_turnInto 54 = .ok (.if_icmp .ge 25, 3) := by decide +kernel
theorem dX6_turnInto_57 : decode cX6_turnInto 57 = .ok (.iload 5, 2) := by decide +kernel
theorem dX6_turnInto_59 : decode cX6_turnInto 59 = .ok (.istore 8, 2) := by decide +kernel
theorem dX6_turnInto_61 : decode cX6_turnInto 61 = .ok (.iload 6, 2) := by decide +kernel
theorem dX6_turnInto_63 : decode cX6_turnInto 63 = .ok (.istore 5, 2) := by decide +kernel
theorem dX6_turnInto_65 : decode cX6_turnInto 65 = .ok (.iload_n 3, 1) := by decide +kernel
theorem dX6_turnInto_66 : decode cX6_turnInto 66 = .ok (.iconst 1, 1) := by decide +kernel
theorem dX6_turnInto_67 : decode cX6_turnInto 67 = .ok (.isub, 1) := by decide +kernel
theorem dX6_turnInto_68 : decode cX6_turnInto 68 = .ok (.iload 8, 2) := by decide +kernel
theorem dX6_turnInto_70 : decode cX6_turnInto 70 = .ok (.isub, 1) := by decide +kernel
theorem dX6_turnInto_71 : decode cX6_turnInto 71 = .ok (.istore 6, 2) := by decide +kernel
theorem dX6_turnInto_73 : decode cX6_turnInto 73 = .ok (.iinc 7 1, 3) := by decide +kernel
theorem dX6_turnInto_76 : decode cX6_turnInto 76 = .ok (.goto (-27), 3) := by decide +kernel
theorem dX6_turnInto_79 : decode cX6_turnInto 79 = .ok (.aload_n 0, 1) := by decide +kernel
theorem dX6_turnInto_80 : decode cX6_turnInto 80 = .ok (.iload 5, 2) := by decide +kernel
theorem dX6_turnInto_82 : decode cX6_turnInto 82 = .ok (.iload 6, 2) := by decide +kernel
theorem dX6_turnInto_84 : decode cX6_turnInto 84 = .ok (.invokevirtual 83, 3) := by decide +kernel
theorem dX6_turnInto_87 : decode cX6_turnInto 87 = .ok (.iinc 4 1, 3) := by decide +kernel
theorem dX6_turnInto_90 : decode cX6_turnInto 90 = .ok (.goto (-76), 3) := by decide +kernel
theorem dX6_turnInto_93 : decode cX6_turnInto 93 = .ok (.return_, 1) := by decide +kernel
theorem dX6_isNewTurning_0 : decode cX6_isNewTurning 0 = .ok (.iconst 0, 1) := by decide +kernel
theorem dX6_isNewTurning_1 : decode cX6_isNewTurning 1 = .ok (.istore_n 2, 1) := by decide +kernel
theorem dX6_isNewTurning_2 : decode cX6_isNewTurning 2 = .ok (.iload_n 2, 1) := by decide +kernel
theorem dX6_isNewTurning_3 : decode cX6_isNewTurning 3 = .ok (.iload_n 1, 1) := by decide +kernel
theorem dX6_isNewTurning_4 : decode cX6_isNewTurning 4 = .ok (.if_icmp .ge 27, 3) := by decide +kernel
theorem dX6_isNewTurning_7 : decode cX6_isNewTurning 7 = .ok (.aload_n 0, 1) := by decide +kernel
theorem dX6_isNewTurning_8 : decode cX6_isNewTurning 8 = .ok (.getfield 55, 3) := by decide +kernel
theorem dX6_isNewTurning_11 : decode cX6_isNewTurning 11 = .ok (.iload_n 2, 1) := by decide +kernel
theorem dX6_isNewTurning_12 : decode cX6_isNewTurning 12 = .ok (.laload, 1) := by decide +kernel
theorem dX6_isNewTurning_13 : decode cX6_isNewTurning 13 = .ok (.aload_n 0, 1) := by decide +kernel
theorem dX6_isNewTurning_14 : decode cX6_isNewTurning 14 = .ok (.getfield 55, 3) := by decide +kernel
theorem dX6_isNewTurning_17 : decode cX6_isNewTurning 17 = .ok (.iload_n 1, 1) := by decide +kernel
theorem dX6_isNewTurning_18 : decode cX6_isNewTurning 18 = .ok (.laload, 1) := by decide +kernel
theorem dX6_isNewTurning_19 : decode cX6_isNewTurning 19 = .ok (.lcmp, 1) := by decide +kernel
theorem dX6_isNewTurning_20 : decode cX6_isNewTurning 20 = .ok (.ifCond .ne 5, 3) := by decide +kernel
theorem dX6_isNewTurning_23 : decode cX6_isNewTurning 23 = .ok (.iconst 0, 1) := by decide +kernel
theorem dX6_isNewTurning_24 : decode cX6_isNewTurning 24 = .ok (.ireturn, 1) := by decide +kernel
theorem dX6_isNewTurning_25 : decode cX6_isNewTurning 25 = .ok (.iinc 2 1, 3) := by decide +kernel
theorem dX6_isNewTurning_28 : decode cX6_isNewTurning 28 = .ok (.goto (-26), 3) := by decide +kernel
theorem dX6_isNewTurning_31 : decode cX6_isNewTurning 31 = .ok (.iconst 1, 1) := by decide +kernel
theorem dX6_isNewTurning_32 : decode cX6_isNewTurning 32 = .ok (.ireturn, 1) := by decide +kernel
theorem dX6_takeOff_0 : decode cX6_takeOff 0 = .ok (.aload_n 1, 1) := by decide +kernel
theorem dX6_takeOff_1 : decode cX6_takeOff 1 = .ok (.invokevirtual 71, 3) := by decide +kernel
theorem dX6_takeOff_4 : decode cX6_takeOff 4 = .ok (.istore 4, 2) := by decide +kernel
theorem dX6_takeOff_6 : decode cX6_takeOff 6 = .ok (.iload 4, 2) := by decide +kernel
theorem dX6_takeOff_8 : decode cX6_takeOff 8 = .ok (.iconst 2, 1) := by decide +kernel
theorem dX6_takeOff_9 : decode cX6_takeOff 9 = .ok (.if_icmp .lt 34, 3) := by decide +kernel
theorem dX6_takeOff_12 : decode cX6_takeOff 12 = .ok (.aload_n 1, 1) := by decide +kernel
theorem dX6_takeOff_13 : decode cX6_takeOff 13 = .ok (.iload_n 2, 1) := by decide +kernel
theorem dX6_takeOff_14 : decode cX6_takeOff 14 = .ok (.ifCond .eq 10, 3) := by decide +kernel
theorem dX6_takeOff_17 : decode cX6_takeOff 17 = .ok (.iload 4, 2) := by decide +kernel
theorem dX6_takeOff_19 : decode cX6_takeOff 19 = .ok (.iconst 1, 1) := by decide +kernel
theorem dX6_takeOff_20 : decode cX6_takeOff 20 = .ok (.isub, 1) := by decide +kernel
theorem dX6_takeOff_21 : decode cX6_takeOff 21 = .ok (.goto 4, 3) := by decide +kernel
theorem dX6_takeOff_24 : decode cX6_takeOff 24 = .ok (.iconst 0, 1) := by decide +kernel
theorem dX6_takeOff_25 : decode cX6_takeOff 25 = .ok (.iload_n 3, 1) := by decide +kernel
theorem dX6_takeOff_26 : decode cX6_takeOff 26 = .ok (.ifCond .eq 10, 3) := by decide +kernel
theorem dX6_takeOff_29 : decode cX6_takeOff 29 = .ok (.iload 4, 2) := by decide +kernel
theorem dX6_takeOff_31 : decode cX6_takeOff 31 = .ok (.iconst 1, 1) := by decide +kernel
theorem dX6_takeOff_32 : decode cX6_takeOff 32 = .ok (.isub, 1) := by decide +kernel
theorem dX6_takeOff_33 : decode cX6_takeOff 33 = .ok (.goto 4, 3) := by decide +kernel
theorem dX6_takeOff_36 : decode cX6_takeOff 36 = .ok (.iconst 0, 1) := by decide +kernel
theorem dX6_takeOff_37 : decode cX6_takeOff 37 = .ok (.invokevirtual 275, 3) := by decide +kernel
theorem dX6_takeOff_40 : decode cX6_takeOff 40 = .ok (.ifCond .ne 6, 3) := by decide +kernel
theorem dX6_takeOff_43 : decode cX6_takeOff 43 = .ok (.bipush (-2), 2) := by decide +kernel
theorem dX6_takeOff_45 : decode cX6_takeOff 45 = .ok (.ireturn, 1) := by decide +kernel
theorem dX6_takeOff_46 : decode cX6_takeOff 46 = .ok (.iload_n 2, 1) := by decide +kernel
theorem dX6_takeOff_47 : decode cX6_takeOff 47 = .ok (.ifCond .eq 7, 3) := by decide +kernel
theorem dX6_takeOff_50 : decode cX6_takeOff 50 = .ok (.iconst 0, 1) := by decide +kernel
theorem dX6_takeOff_51 : decode cX6_takeOff 51 = .ok (.goto 4, 3) := by decide +kernel
theorem dX6_takeOff_54 : decode cX6_takeOff 54 = .ok (.iconst 1, 1) := by decide +kernel
theorem dX6_takeOff_55 : decode cX6_takeOff 55 = .ok (.istore 5, 2) := by decide +kernel
theorem dX6_takeOff_57 : decode cX6_takeOff 57 = .ok (.iload_n 3, 1) := by decide +kernel
theorem dX6_takeOff_58 : decode cX6_takeOff 58 = .ok (.ifCond .eq 7, 3) := by decide +kernel
theorem dX6_takeOff_61 : decode cX6_takeOff 61 = .ok (.iconst 0, 1) := by decide +kernel
theorem dX6_takeOff_62 : decode cX6_takeOff 62 = .ok (.goto 4, 3) := by decide +kernel
theorem dX6_takeOff_65 : decode cX6_takeOff 65 = .ok (.iconst 1, 1) := by decide +kernel
theorem dX6_takeOff_66 : decode cX6_takeOff 66 = .ok (.istore 6, 2) := by decide +kernel
theorem dX6_takeOff_68 : decode cX6_takeOff 68 = .ok (.aload_n 0, 1) := by decide +kernel
theorem dX6_takeOff_69 : decode cX6_takeOff 69 = .ok (.getfield 16, 3) := by decide +kernel
theorem dX6_takeOff_72 : decode cX6_takeOff 72 = .ok (.iload 4, 2) := by decide +kernel
theorem dX6_takeOff_74 : decode cX6_takeOff 74 = .ok (.iconst 1, 1) := by decide +kernel
theorem dX6_takeOff_75 : decode cX6_takeOff 75 = .ok (.isub, 1) := by decide +kernel
theorem dX6_takeOff_76 : decode cX6_takeOff 76 = .ok (.iload 4, 2) := by decide +kernel
theorem dX6_takeOff_78 : decode cX6_takeOff 78 = .ok (.iconst 1, 1) := by decide +kernel
theorem dX6_takeOff_79 : decode cX6_takeOff 79 = .ok (.isub, 1) := by decide +kernel
theorem dX6_takeOff_80 : decode cX6_takeOff 80 = .ok (.invokevirtual 75, 3) := by decide +kernel
theorem dX6_takeOff_83 : decode cX6_takeOff 83 = .ok (.iconst 0, 1) := by decide +kernel
theorem dX6_takeOff_84 : decode cX6_takeOff 84 = .ok (.istore 7, 2) := by decide +kernel
theorem dX6_takeOff_86 : decode cX6_takeOff 86 = .ok (.iload 7, 2) := by decide +kernel
theorem dX6_takeOff_88 : decode cX6_takeOff 88 = .ok (.iload 4, 2) := by decide +kernel
theorem dX6_takeOff_90 : decode cX6_takeOff 90 = .ok (.iconst 1, 1) := by decide +kernel
theorem dX6_takeOff_91 : decode cX6_takeOff 91 = .ok (.isub, 1) := by decide +kernel
theorem dX6_takeOff_92 : decode cX6_takeOff 92 = .ok (.if_icmp .ge 30, 3) := by decide +kernel
theorem dX6_takeOff_95 : decode cX6_takeOff 95 = .ok (.aload_n 0, 1) := by decide +kernel
theorem dX6_takeOff_96 : decode cX6_takeOff 96 = .ok (.getfield 16, 3) := by decide +kernel
theorem dX6_takeOff_99 : decode cX6_takeOff 99 = .ok (.iload 7, 2) := by decide +kernel
theorem dX6_takeOff_101 : decode cX6_takeOff 101 = .ok (.aload_n 1, 1) := by decide +kernel
theorem dX6_takeOff_102 : decode cX6_takeOff 102 = .ok (.iload 7, 2) := by decide +kernel
theorem dX6_takeOff_104 : decode cX6_takeOff 104 = .ok (.iload 5, 2) := by decide +kernel
theorem dX6_takeOff_106 : decode cX6_takeOff 106 = .ok (.iadd, 1) := by decide +kernel
theorem dX6_takeOff_107 : decode cX6_takeOff 107 = .ok (.invokevirtual 119, 3) := by decide +kernel
theorem dX6_takeOff_110 : decode cX6_takeOff 110 = .ok (.iload 6, 2) := by decide +kernel
theorem dX6_takeOff_112 : decode cX6_takeOff 112 = .ok (.isub, 1) := by decide +kernel
theorem dX6_takeOff_113 : decode cX6_takeOff 113 = .ok (.invokevirtual 83, 3) := by decide +kernel
theorem dX6_takeOff_116 : decode cX6_takeOff 116 = .ok (.iinc 7 1, 3) := by decide +kernel
theorem dX6_takeOff_119 : decode cX6_takeOff 119 = .ok (.goto (-33), 3) := by decide +kernel
theorem dX6_takeOff_122 : decode cX6_takeOff 122 = .ok (.aload_n 1, 1) := by decide +kernel
theorem dX6_takeOff_123 : decode cX6_takeOff 123 = .ok (.aload_n 0, 1) := by decide +kernel
theorem dX6_takeOff_124 : decode cX6_takeOff 124 = .ok (.getfield 16, 3) := by decide +kernel
theorem dX6_takeOff_127 : decode cX6_takeOff 127 = .ok (.invokevirtual 214, 3) := by decide +kernel
theorem dX6_takeOff_130 : decode cX6_takeOff 130 = .ok (.aload_n 1, 1) := by decide +kernel
theorem dX6_takeOff_131 : decode cX6_takeOff 131 = .ok (.invokevirtual 71, 3) := by decide +kernel
theorem dX6_takeOff_134 : decode cX6_takeOff 134 = .ok (.ireturn, 1) := by decide +kernel
theorem dX6_setOn_0 : decode cX6_setOn 0 = .ok (.aload_n 1, 1) := by decide +kernel
theorem dX6_setOn_1 : decode cX6_setOn 1 = .ok (.invokevirtual 71, 3) := by decide +kernel
theorem dX6_setOn_4 : decode cX6_setOn 4 = .ok (.istore 4, 2) := by decide +kernel
theorem dX6_setOn_6 : decode cX6_setOn 6 = .ok (.iload 4, 2) := by decide +kernel
theorem dX6_setOn_8 : decode cX6_setOn 8 = .ok (.bipush 12, 2) := by decide +kernel
theorem dX6_setOn_10 : decode cX6_setOn 10 = .ok (.if_icmp .lt 6, 3) := by decide +kernel
theorem dX6_setOn_13 : decode cX6_setOn 13 = .ok (.bipush (-2), 2) := by decide +kernel
theorem dX6_setOn_15 : decode cX6_setOn 15 = .ok (.ireturn, 1) := by decide +kernel
theorem dX6_setOn_16 : decode cX6_setOn 16 = .ok (.iload_n 2, 1) := by decide +kernel
theorem dX6_setOn_17 : decode cX6_setOn 17 = .ok (.ifCond .eq 7, 3) := by decide +kernel
theorem dX6_setOn_20 : decode cX6_setOn 20 = .ok (.iconst 0, 1) := by decide +kernel
theorem dX6_setOn_21 : decode cX6_setOn 21 = .ok (.goto 4, 3) := by decide +kernel
theorem dX6_setOn_24 : decode cX6_setOn 24 = .ok (.iconst 1, 1) := by decide +kernel
theorem dX6_setOn_25 : decode cX6_setOn 25 = .ok (.istore 5, 2) := by decide +kernel
theorem dX6_setOn_27 : decode cX6_setOn 27 = .ok (.iload_n 3, 1) := by decide +kernel
theorem dX6_setOn_28 : decode cX6_setOn 28 = .ok (.ifCond .eq 7, 3) := by decide +kernel
theorem dX6_setOn_31 : decode cX6_setOn 31 = .ok (.iconst 0, 1) := by decide +kernel
theorem dX6_setOn_32 : decode cX6_setOn 32 = .ok (.goto 4, 3) := by decide +kernel
theorem dX6_setOn_35 : decode cX6_setOn 35 = .ok (.iconst 1, 1) := by decide +kernel
theorem dX6_setOn_36 : decode cX6_setOn 36 = .ok (.istore 6, 2) := by decide +kernel
theorem dX6_setOn_38 : decode cX6_setOn 38 = .ok (.aload_n 0, 1) := by decide +kernel
theorem dX6_setOn_39 : decode cX6_setOn 39 = .ok (.getfield 16, 3) := by decide +kernel
theorem dX6_setOn_42 : decode cX6_setOn 42 = .ok (.iload 4, 2) := by decide +kernel
theorem dX6_setOn_44 : decode cX6_setOn 44 = .ok (.iconst 1, 1) := by decide +kernel
theorem dX6_setOn_45 : decode cX6_setOn 45 = .ok (.iadd, 1) := by decide +kernel
theorem dX6_setOn_46 : decode cX6_setOn 46 = .ok (.iload 4, 2) := by decide +kernel
theorem dX6_setOn_48 : decode cX6_setOn 48 = .ok (.iconst 1, 1) := by decide +kernel
theorem dX6_setOn_49 : decode cX6_setOn 49 = .ok (.iadd, 1) := by decide +kernel
theorem dX6_setOn_50 : decode cX6_setOn 50 = .ok (.invokevirtual 75, 3) := by decide +kernel
theorem dX6_setOn_53 : decode cX6_setOn 53 = .ok (.aload_n 0, 1) := by decide +kernel
theorem dX6_setOn_54 : decode cX6_setOn 54 = .ok (.getfield 16, 3) := by decide +kernel
theorem dX6_setOn_57 : decode cX6_setOn 57 = .ok (.iload_n 2, 1) := by decide +kernel
theorem dX6_setOn_58 : decode cX6_setOn 58 = .ok (.ifCond .eq 8, 3) := by decide +kernel
theorem dX6_setOn_61 : decode cX6_setOn 61 = .ok (.iload 4, 2) := by decide +kernel
theorem dX6_setOn_63 : decode cX6_setOn 63 = .ok (.goto 4, 3) := by decide +kernel
theorem dX6_setOn_66 : decode cX6_setOn 66 = .ok (.iconst 0, 1) := by decide +kernel
theorem dX6_setOn_67 : decode cX6_setOn 67 = .ok (.iload_n 3, 1) := by decide +kernel
theorem dX6_setOn_68 : decode cX6_setOn 68 = .ok (.ifCond .eq 8, 3) := by decide +kernel
theorem dX6_setOn_71 : decode cX6_setOn 71 = .ok (.iload 4, 2) := by decide +kernel
theorem dX6_setOn_73 : decode cX6_setOn 73 = .ok (.goto 4, 3) := by decide +kernel
theorem dX6_setOn_76 : decode cX6_setOn 76 = .ok (.iconst 0, 1) := by decide +kernel
theorem dX6_setOn_77 : decode cX6_setOn 77 = .ok (.invokevirtual 83, 3) := by decide +kernel
theorem dX6_setOn_80 : decode cX6_setOn 80 = .ok (.iconst 0, 1) := by decide +kernel
theorem dX6_setOn_81 : decode cX6_setOn 81 = .ok (.istore 7, 2) := by decide +kernel
theorem dX6_setOn_83 : decode cX6_setOn 83 = .ok (.iload 7, 2) := by decide +kernel
theorem dX6_setOn_85 : decode cX6_setOn 85 = .ok (.iload 4, 2) := by decide +kernel
theorem dX6_setOn_87 : decode cX6_setOn 87 = .ok (.if_icmp .ge 30, 3) := by decide +kernel
theorem dX6_setOn_90 : decode cX6_setOn 90 = .ok (.aload_n 0, 1) := by decide +kernel
theorem dX6_setOn_91 : decode cX6_setOn 91 = .ok (.getfield 16, 3) := by decide +kernel
theorem dX6_setOn_94 : decode cX6_setOn 94 = .ok (.iload 7, 2) := by decide +kernel
theorem dX6_setOn_96 : decode cX6_setOn 96 = .ok (.iload 5, 2) := by decide +kernel
theorem dX6_setOn_98 : decode cX6_setOn 98 = .ok (.iadd, 1) := by decide +kernel
theorem dX6_setOn_99 : decode cX6_setOn 99 = .ok (.aload_n 1, 1) := by decide +kernel
theorem dX6_setOn_100 : decode cX6_setOn 100 = .ok (.iload 7, 2) := by decide +kernel
theorem dX6_setOn_102 : decode cX6_setOn 102 = .ok (.invokevirtual 119, 3) := by decide +kernel
theorem dX6_setOn_105 : decode cX6_setOn 105 = .ok (.iload 6, 2) := by decide +kernel
theorem dX6_setOn_107 : decode cX6_setOn 107 = .ok (.iadd, 1) := by decide +kernel
theorem dX6_setOn_108 : decode cX6_setOn 108 = .ok (.invokevirtual 83, 3) := by decide +kernel
theorem dX6_setOn_111 : decode cX6_setOn 111 = .ok (.iinc 7 1, 3) := by decide +kernel
theorem dX6_setOn_114 : decode cX6_setOn 114 = .ok (.goto (-31), 3) := by decide +kernel
theorem dX6_setOn_117 : decode cX6_setOn 117 = .ok (.aload_n 1, 1) := by decide +kernel
theorem dX6_setOn_118 : decode cX6_setOn 118 = .ok (.aload_n 0, 1) := by decide +kernel
theorem dX6_setOn_119 : decode cX6_setOn 119 = .ok (.getfield 16, 3) := by decide +kernel
theorem dX6_setOn_122 : decode cX6_setOn 122 = .ok (.invokevirtual 214, 3) := by decide +kernel
theorem dX6_setOn_125 : decode cX6_setOn 125 = .ok (.aload_n 1, 1) := by decide +kernel
theorem dX6_setOn_126 : decode cX6_setOn 126 = .ok (.invokevirtual 71, 3) := by decide +kernel
theorem dX6_setOn_129 : decode cX6_setOn 129 = .ok (.ireturn, 1) := by decide +kernel
theorem dX6_bestHeard_0 : decode cX6_bestHeard 0 = .ok (.aload_n 0, 1) := by decide +kernel
theorem dX6_bestHeard_1 : decode cX6_bestHeard 1 = .ok (.iload_n 1, 1) := by decide +kernel
theorem dX6_bestHeard_2 : decode cX6_bestHeard 2 = .ok (.invokevirtual 59, 3) := by decide +kernel
theorem dX6_bestHeard_5 : decode cX6_bestHeard 5 = .ok (.astore_n 2, 1) := by decide +kernel
theorem dX6_bestHeard_6 : decode cX6_bestHeard 6 = .ok (.aload_n 2, 1) := by decide +kernel
theorem dX6_bestHeard_7 : decode cX6_bestHeard 7 = .ok (.ifnonnull 5, 3) := by decide +kernel
theorem dX6_bestHeard_10 : decode cX6_bestHeard 10 = .ok (.iconst 0, 1) := by decide +kernel
theorem dX6_bestHeard_11 : decode cX6_bestHeard 11 = .ok (.ireturn, 1) := by decide +kernel
theorem dX6_bestHeard_12 : decode cX6_bestHeard 12 = .ok (.aload_n 0, 1) := by decide +kernel
theorem dX6_bestHeard_13 : decode cX6_bestHeard 13 = .ok (.getfield 51, 3) := by decide +kernel
theorem dX6_bestHeard_16 : decode cX6_bestHeard 16 = .ok (.aload_n 2, 1) := by decide +kernel
theorem dX6_bestHeard_17 : decode cX6_bestHeard 17 = .ok (.invokevirtual 240, 3) := by decide +kernel
theorem dX6_bestHeard_20 : decode cX6_bestHeard 20 = .ok (.aload_n 0, 1) := by decide +kernel
theorem dX6_bestHeard_21 : decode cX6_bestHeard 21 = .ok (.getfield 51, 3) := by decide +kernel
theorem dX6_bestHeard_24 : decode cX6_bestHeard 24 = .ok (.invokevirtual 243, 3) := by decide +kernel
theorem dX6_bestHeard_27 : decode cX6_bestHeard 27 = .ok (.ireturn, 1) := by decide +kernel
theorem dX6_marksInAll_0 : decode cX6_marksInAll 0 = .ok (.iconst 0, 1) := by decide +kernel
theorem dX6_marksInAll_1 : decode cX6_marksInAll 1 = .ok (.istore_n 1, 1) := by decide +kernel
theorem dX6_marksInAll_2 : decode cX6_marksInAll 2 = .ok (.iconst 0, 1) := by decide +kernel
theorem dX6_marksInAll_3 : decode cX6_marksInAll 3 = .ok (.istore_n 2, 1) := by decide +kernel
theorem dX6_marksInAll_4 : decode cX6_marksInAll 4 = .ok (.iload_n 2, 1) := by decide +kernel
theorem dX6_marksInAll_5 : decode cX6_marksInAll 5 = .ok (.bipush 6, 2) := by decide +kernel
theorem dX6_marksInAll_7 : decode cX6_marksInAll 7 = .ok (.if_icmp .ge 26, 3) := by decide +kernel
theorem dX6_marksInAll_10 : decode cX6_marksInAll 10 = .ok (.aload_n 0, 1) := by decide +kernel
theorem dX6_marksInAll_11 : decode cX6_marksInAll 11 = .ok (.iload_n 2, 1) := by decide +kernel
theorem dX6_marksInAll_12 : decode cX6_marksInAll 12 = .ok (.invokevirtual 59, 3) := by decide +kernel
theorem dX6_marksInAll_15 : decode cX6_marksInAll 15 = .ok (.astore_n 3, 1) := by decide +kernel
theorem dX6_marksInAll_16 : decode cX6_marksInAll 16 = .ok (.aload_n 3, 1) := by decide +kernel
theorem dX6_marksInAll_17 : decode cX6_marksInAll 17 = .ok (.ifnull 10, 3) := by decide +kernel
theorem dX6_marksInAll_20 : decode cX6_marksInAll 20 = .ok (.iload_n 1, 1) := by decide +kernel
theorem dX6_marksInAll_21 : decode cX6_marksInAll 21 = .ok (.aload_n 3, 1) := by decide +kernel
theorem dX6_marksInAll_22 : decode cX6_marksInAll 22 = .ok (.invokevirtual 278, 3) := by decide +kernel
theorem dX6_marksInAll_25 : decode cX6_marksInAll 25 = .ok (.iadd, 1) := by decide +kernel
theorem dX6_marksInAll_26 : decode cX6_marksInAll 26 = .ok (.istore_n 1, 1) := by decide +kernel
theorem dX6_marksInAll_27 : decode cX6_marksInAll 27 = .ok (.iinc 2 1, 3) := by decide +kernel
theorem dX6_marksInAll_30 : decode cX6_marksInAll 30 = .ok (.goto (-26), 3) := by decide +kernel
theorem dX6_marksInAll_33 : decode cX6_marksInAll 33 = .ok (.iload_n 1, 1) := by decide +kernel
theorem dX6_marksInAll_34 : decode cX6_marksInAll 34 = .ok (.ireturn, 1) := by decide +kernel
theorem dX6_columnsInAll_0 : decode cX6_columnsInAll 0 = .ok (.iconst 0, 1) := by decide +kernel
theorem dX6_columnsInAll_1 : decode cX6_columnsInAll 1 = .ok (.istore_n 1, 1) := by decide +kernel
theorem dX6_columnsInAll_2 : decode cX6_columnsInAll 2 = .ok (.iconst 0, 1) := by decide +kernel
theorem dX6_columnsInAll_3 : decode cX6_columnsInAll 3 = .ok (.istore_n 2, 1) := by decide +kernel
theorem dX6_columnsInAll_4 : decode cX6_columnsInAll 4 = .ok (.iload_n 2, 1) := by decide +kernel
theorem dX6_columnsInAll_5 : decode cX6_columnsInAll 5 = .ok (.bipush 6, 2) := by decide +kernel
theorem dX6_columnsInAll_7 : decode cX6_columnsInAll 7 = .ok (.if_icmp .ge 26, 3) := by decide +kernel
theorem dX6_columnsInAll_10 : decode cX6_columnsInAll 10 = .ok (.aload_n 0, 1) := by decide +kernel
theorem dX6_columnsInAll_11 : decode cX6_columnsInAll 11 = .ok (.iload_n 2, 1) := by decide +kernel
theorem dX6_columnsInAll_12 : decode cX6_columnsInAll 12 = .ok (.invokevirtual 59, 3) := by decide +kernel
theorem dX6_columnsInAll_15 : decode cX6_columnsInAll 15 = .ok (.astore_n 3, 1) := by decide +kernel
theorem dX6_columnsInAll_16 : decode cX6_columnsInAll 16 = .ok (.aload_n 3, 1) := by decide +kernel
theorem dX6_columnsInAll_17 : decode cX6_columnsInAll 17 = .ok (.ifnull 10, 3) := by decide +kernel
theorem dX6_columnsInAll_20 : decode cX6_columnsInAll 20 = .ok (.iload_n 1, 1) := by decide +kernel
theorem dX6_columnsInAll_21 : decode cX6_columnsInAll 21 = .ok (.aload_n 3, 1) := by decide +kernel
theorem dX6_columnsInAll_22 : decode cX6_columnsInAll 22 = .ok (.invokevirtual 71, 3) := by decide +kernel
theorem dX6_columnsInAll_25 : decode cX6_columnsInAll 25 = .ok (.iadd, 1) := by decide +kernel
theorem dX6_columnsInAll_26 : decode cX6_columnsInAll 26 = .ok (.istore_n 1, 1) := by decide +kernel
theorem dX6_columnsInAll_27 : decode cX6_columnsInAll 27 = .ok (.iinc 2 1, 3) := by decide +kernel
theorem dX6_columnsInAll_30 : decode cX6_columnsInAll 30 = .ok (.goto (-26), 3) := by decide +kernel
theorem dX6_columnsInAll_33 : decode cX6_columnsInAll 33 = .ok (.iload_n 1, 1) := by decide +kernel
theorem dX6_columnsInAll_34 : decode cX6_columnsInAll 34 = .ok (.ireturn, 1) := by decide +kernel
theorem dX7_init_0 : decode cX7_init 0 = .ok (.aload_n 0, 1) := by decide +kernel
theorem dX7_init_1 : decode cX7_init 1 = .ok (.invokespecial 1, 3) := by decide +kernel
theorem dX7_init_4 : decode cX7_init 4 = .ok (.aload_n 0, 1) := by decide +kernel
theorem dX7_init_5 : decode cX7_init 5 = .ok (.bipush 6, 2) := by decide +kernel
theorem dX7_init_7 : decode cX7_init 7 = .ok (.newarray .int, 2) := by decide +kernel
theorem dX7_init_9 : decode cX7_init 9 = .ok (.dup, 1) := by decide +kernel
theorem dX7_init_10 : decode cX7_init 10 = .ok (.iconst 0, 1) := by decide +kernel
theorem dX7_init_11 : decode cX7_init 11 = .ok (.iconst 1, 1) := by decide +kernel
theorem dX7_init_12 : decode cX7_init 12 = .ok (.iastore, 1) := by decide +kernel
theorem dX7_init_13 : decode cX7_init 13 = .ok (.dup, 1) := by decide +kernel
theorem dX7_init_14 : decode cX7_init 14 = .ok (.iconst 1, 1) := by decide +kernel
theorem dX7_init_15 : decode cX7_init 15 = .ok (.iconst 1, 1) := by decide +kernel
theorem dX7_init_16 : decode cX7_init 16 = .ok (.iastore, 1) := by decide +kernel
theorem dX7_init_17 : decode cX7_init 17 = .ok (.dup, 1) := by decide +kernel
theorem dX7_init_18 : decode cX7_init 18 = .ok (.iconst 2, 1) := by decide +kernel
theorem dX7_init_19 : decode cX7_init 19 = .ok (.iconst 1, 1) := by decide +kernel
theorem dX7_init_20 : decode cX7_init 20 = .ok (.iastore, 1) := by decide +kernel
theorem dX7_init_21 : decode cX7_init 21 = .ok (.dup, 1) := by decide +kernel
theorem dX7_init_22 : decode cX7_init 22 = .ok (.iconst 3, 1) := by decide +kernel
theorem dX7_init_23 : decode cX7_init 23 = .ok (.iconst 1, 1) := by decide +kernel
theorem dX7_init_24 : decode cX7_init 24 = .ok (.iastore, 1) := by decide +kernel
theorem dX7_init_25 : decode cX7_init 25 = .ok (.dup, 1) := by decide +kernel
theorem dX7_init_26 : decode cX7_init 26 = .ok (.iconst 4, 1) := by decide +kernel
theorem dX7_init_27 : decode cX7_init 27 = .ok (.iconst 1, 1) := by decide +kernel
theorem dX7_init_28 : decode cX7_init 28 = .ok (.iastore, 1) := by decide +kernel
theorem dX7_init_29 : decode cX7_init 29 = .ok (.dup, 1) := by decide +kernel
theorem dX7_init_30 : decode cX7_init 30 = .ok (.iconst 5, 1) := by decide +kernel
theorem dX7_init_31 : decode cX7_init 31 = .ok (.iconst 1, 1) := by decide +kernel
theorem dX7_init_32 : decode cX7_init 32 = .ok (.iastore, 1) := by decide +kernel
theorem dX7_init_33 : decode cX7_init 33 = .ok (.putfield 7, 3) := by decide +kernel
theorem dX7_init_36 : decode cX7_init 36 = .ok (.aload_n 0, 1) := by decide +kernel
theorem dX7_init_37 : decode cX7_init 37 = .ok (.bipush 6, 2) := by decide +kernel
theorem dX7_init_39 : decode cX7_init 39 = .ok (.newarray .int, 2) := by decide +kernel
theorem dX7_init_41 : decode cX7_init 41 = .ok (.dup, 1) := by decide +kernel
theorem dX7_init_42 : decode cX7_init 42 = .ok (.iconst 0, 1) := by decide +kernel
theorem dX7_init_43 : decode cX7_init 43 = .ok (.iconst 1, 1) := by decide +kernel
theorem dX7_init_44 : decode cX7_init 44 = .ok (.iastore, 1) := by decide +kernel
theorem dX7_init_45 : decode cX7_init 45 = .ok (.dup, 1) := by decide +kernel
theorem dX7_init_46 : decode cX7_init 46 = .ok (.iconst 1, 1) := by decide +kernel
theorem dX7_init_47 : decode cX7_init 47 = .ok (.iconst 1, 1) := by decide +kernel
theorem dX7_init_48 : decode cX7_init 48 = .ok (.iastore, 1) := by decide +kernel
theorem dX7_init_49 : decode cX7_init 49 = .ok (.dup, 1) := by decide +kernel
theorem dX7_init_50 : decode cX7_init 50 = .ok (.iconst 2, 1) := by decide +kernel
theorem dX7_init_51 : decode cX7_init 51 = .ok (.iconst 1, 1) := by decide +kernel
theorem dX7_init_52 : decode cX7_init 52 = .ok (.iastore, 1) := by decide +kernel
theorem dX7_init_53 : decode cX7_init 53 = .ok (.dup, 1) := by decide +kernel
theorem dX7_init_54 : decode cX7_init 54 = .ok (.iconst 3, 1) := by decide +kernel
theorem dX7_init_55 : decode cX7_init 55 = .ok (.iconst 1, 1) := by decide +kernel
theorem dX7_init_56 : decode cX7_init 56 = .ok (.iastore, 1) := by decide +kernel
theorem dX7_init_57 : decode cX7_init 57 = .ok (.dup, 1) := by decide +kernel
theorem dX7_init_58 : decode cX7_init 58 = .ok (.iconst 4, 1) := by decide +kernel
theorem dX7_init_59 : decode cX7_init 59 = .ok (.iconst 1, 1) := by decide +kernel
theorem dX7_init_60 : decode cX7_init 60 = .ok (.iastore, 1) := by decide +kernel
theorem dX7_init_61 : decode cX7_init 61 = .ok (.dup, 1) := by decide +kernel
theorem dX7_init_62 : decode cX7_init 62 = .ok (.iconst 5, 1) := by decide +kernel
theorem dX7_init_63 : decode cX7_init 63 = .ok (.iconst 1, 1) := by decide +kernel
theorem dX7_init_64 : decode cX7_init 64 = .ok (.iastore, 1) := by decide +kernel
theorem dX7_init_65 : decode cX7_init 65 = .ok (.putfield 13, 3) := by decide +kernel
theorem dX7_init_68 : decode cX7_init 68 = .ok (.aload_n 0, 1) := by decide +kernel
theorem dX7_init_69 : decode cX7_init 69 = .ok (.bipush 72, 2) := by decide +kernel
theorem dX7_init_71 : decode cX7_init 71 = .ok (.newarray .int, 2) := by decide +kernel
theorem dX7_init_73 : decode cX7_init 73 = .ok (.putfield 16, 3) := by decide +kernel
theorem dX7_init_76 : decode cX7_init 76 = .ok (.aload_n 0, 1) := by decide +kernel
theorem dX7_init_77 : decode cX7_init 77 = .ok (.bipush 60, 2) := by decide +kernel
theorem dX7_init_79 : decode cX7_init 79 = .ok (.newarray .byte, 2) := by decide +kernel
theorem dX7_init_81 : decode cX7_init 81 = .ok (.putfield 19, 3) := by decide +kernel
theorem dX7_init_84 : decode cX7_init 84 = .ok (.aload_n 0, 1) := by decide +kernel
theorem dX7_init_85 : decode cX7_init 85 = .ok (.bipush 40, 2) := by decide +kernel
theorem dX7_init_87 : decode cX7_init 87 = .ok (.newarray .int, 2) := by decide +kernel
theorem dX7_init_89 : decode cX7_init 89 = .ok (.putfield 23, 3) := by decide +kernel
theorem dX7_init_92 : decode cX7_init 92 = .ok (.aload_n 0, 1) := by decide +kernel
theorem dX7_init_93 : decode cX7_init 93 = .ok (.bipush 40, 2) := by decide +kernel
theorem dX7_init_95 : decode cX7_init 95 = .ok (.newarray .int, 2) := by decide +kernel
theorem dX7_init_97 : decode cX7_init 97 = .ok (.putfield 26, 3) := by decide +kernel
theorem dX7_init_100 : decode cX7_init 100 = .ok (.aload_n 0, 1) := by decide +kernel
theorem dX7_init_101 : decode cX7_init 101 = .ok (.bipush 12, 2) := by decide +kernel
theorem dX7_init_103 : decode cX7_init 103 = .ok (.newarray .int, 2) := by decide +kernel
theorem dX7_init_105 : decode cX7_init 105 = .ok (.putfield 29, 3) := by decide +kernel
theorem dX7_init_108 : decode cX7_init 108 = .ok (.aload_n 0, 1) := by decide +kernel
theorem dX7_init_109 : decode cX7_init 109 = .ok (.bipush 72, 2) := by decide +kernel
theorem dX7_init_111 : decode cX7_init 111 = .ok (.newarray .int, 2) := by decide +kernel
theorem dX7_init_113 : decode cX7_init 113 = .ok (.putfield 32, 3) := by decide +kernel
theorem dX7_init_116 : decode cX7_init 116 = .ok (.aload_n 0, 1) := by decide +kernel
theorem dX7_init_117 : decode cX7_init 117 = .ok (.bipush 6, 2) := by decide +kernel
theorem dX7_init_119 : decode cX7_init 119 = .ok (.newarray .int, 2) := by decide +kernel
theorem dX7_init_121 : decode cX7_init 121 = .ok (.putfield 35, 3) := by decide +kernel
theorem dX7_init_124 : decode cX7_init 124 = .ok (.aload_n 0, 1) := by decide +kernel
theorem dX7_init_125 : decode cX7_init 125 = .ok (.bipush 12, 2) := by decide +kernel
theorem dX7_init_127 : decode cX7_init 127 = .ok (.newarray .int, 2) := by decide +kernel
theorem dX7_init_129 : decode cX7_init 129 = .ok (.putfield 38, 3) := by decide +kernel
theorem dX7_init_132 : decode cX7_init 132 = .ok (.aload_n 0, 1) := by decide +kernel
theorem dX7_init_133 : decode cX7_init 133 = .ok (.bipush 12, 2) := by decide +kernel
theorem dX7_init_135 : decode cX7_init 135 = .ok (.newarray .int, 2) := by decide +kernel
theorem dX7_init_137 : decode cX7_init 137 = .ok (.putfield 41, 3) := by decide +kernel
theorem dX7_init_140 : decode cX7_init 140 = .ok (.return_, 1) := by decide +kernel
theorem dX7_in_0 : decode cX7_in 0 = .ok (.lload_n 0, 1) := by decide +kernel
theorem dX7_in_1 : decode cX7_in 1 = .ok (.lload_n 2, 1) := by decide +kernel
theorem dX7_in_2 : decode cX7_in 2 = .ok (.lcmp, 1) := by decide +kernel
theorem dX7_in_3 : decode cX7_in 3 = .ok (.ifCond .lt 14, 3) := by decide +kernel
theorem dX7_in_6 : decode cX7_in 6 = .ok (.lload_n 0, 1) := by decide +kernel
theorem dX7_in_7 : decode cX7_in 7 = .ok (.lload 4, 2) := by decide +kernel
theorem dX7_in_9 : decode cX7_in 9 = .ok (.lcmp, 1) := by decide +kernel
theorem dX7_in_10 : decode cX7_in 10 = .ok (.ifCond .gt 7, 3) := by decide +kernel
theorem dX7_in_13 : decode cX7_in 13 = .ok (.iconst 1, 1) := by decide +kernel
theorem dX7_in_14 : decode cX7_in 14 = .ok (.goto 4, 3) := by decide +kernel
theorem dX7_in_17 : decode cX7_in 17 = .ok (.iconst 0, 1) := by decide +kernel
theorem dX7_in_18 : decode cX7_in 18 = .ok (.ireturn, 1) := by decide +kernel
theorem dX7_isRow_0 : decode cX7_isRow 0 = .ok (.iload_n 0, 1) := by decide +kernel
theorem dX7_isRow_1 : decode cX7_isRow 1 = .ok (.i2l, 1) := by decide +kernel
theorem dX7_isRow_2 : decode cX7_isRow 2 = .ok (.lconst 0, 1) := by decide +kernel
theorem dX7_isRow_3 : decode cX7_isRow 3 = .ok (.ldc2_w 44, 3) := by decide +kernel
theorem dX7_isRow_6 : decode cX7_isRow 6 = .ok (.invokestatic 46, 3) := by decide +kernel
theorem dX7_isRow_9 : decode cX7_isRow 9 = .ok (.ireturn, 1) := by decide +kernel
theorem dX7_row_0 : decode cX7_row 0 = .ok (.iload_n 1, 1) := by decide +kernel
theorem dX7_row_1 : decode cX7_row 1 = .ok (.invokestatic 50, 3) := by decide +kernel
theorem dX7_row_4 : decode cX7_row 4 = .ok (.ifCond .eq 45, 3) := by decide +kernel
theorem dX7_row_7 : decode cX7_row 7 = .ok (.iload_n 2, 1) := by decide +kernel
theorem dX7_row_8 : decode cX7_row 8 = .ok (.i2l, 1) := by decide +kernel
theorem dX7_row_9 : decode cX7_row 9 = .ok (.lconst 1, 1) := by decide +kernel
theorem dX7_row_10 : decode cX7_row 10 = .ok (.ldc2_w 54, 3) := by decide +kernel
theorem dX7_row_13 : decode cX7_row 13 = .ok (.invokestatic 46, 3) := by decide +kernel
theorem dX7_row_16 : decode cX7_row 16 = .ok (.ifCond .eq 33, 3) := by decide +kernel
theorem dX7_row_19 : decode cX7_row 19 = .ok (.iload_n 3, 1) := by decide +kernel
theorem dX7_row_20 : decode cX7_row 20 = .ok (.i2l, 1) := by decide +kernel
theorem dX7_row_21 : decode cX7_row 21 = .ok (.lconst 1, 1) := by decide +kernel
theorem dX7_row_22 : decode cX7_row 22 = .ok (.ldc2_w 54, 3) := by decide +kernel
theorem dX7_row_25 : decode cX7_row 25 = .ok (.invokestatic 46, 3) := by decide +kernel
theorem dX7_row_28 : decode cX7_row 28 = .ok (.ifCond .eq 21, 3) := by decide +kernel
theorem dX7_row_31 : decode cX7_row 31 = .ok (.lload 4, 2) := by decide +kernel
theorem dX7_row_33 : decode cX7_row 33 = .ok (.lconst 0, 1) := by decide +kernel
theorem dX7_row_34 : decode cX7_row 34 = .ok (.lcmp, 1) := by decide +kernel
theorem dX7_row_35 : decode cX7_row 35 = .ok (.ifCond .lt 14, 3) := by decide +kernel
theorem dX7_row_38 : decode cX7_row 38 = .ok (.lload 4, 2) := by decide +kernel
theorem dX7_row_40 : decode cX7_row 40 = .ok (.iconst 4, 1) := by decide +kernel
theorem dX7_row_41 : decode cX7_row 41 = .ok (.iload_n 2, 1) := by decide +kernel
theorem dX7_row_42 : decode cX7_row 42 = .ok (.imul, 1) := by decide +kernel
theorem dX7_row_43 : decode cX7_row 43 = .ok (.lshr, 1) := by decide +kernel
theorem dX7_row_44 : decode cX7_row 44 = .ok (.lconst 0, 1) := by decide +kernel
theorem dX7_row_45 : decode cX7_row 45 = .ok (.lcmp, 1) := by decide +kernel
theorem dX7_row_46 : decode cX7_row 46 = .ok (.ifCond .eq 5, 3) := by decide +kernel
theorem dX7_row_49 : decode cX7_row 49 = .ok (.iconst (-1), 1) := by decide +kernel
theorem dX7_row_50 : decode cX7_row 50 = .ok (.ireturn, 1) := by decide +kernel
theorem dX7_row_51 : decode cX7_row 51 = .ok (.iconst 0, 1) := by decide +kernel
theorem dX7_row_52 : decode cX7_row 52 = .ok (.istore 6, 2) := by decide +kernel
theorem dX7_row_54 : decode cX7_row 54 = .ok (.iload 6, 2) := by decide +kernel
theorem dX7_row_56 : decode cX7_row 56 = .ok (.iload_n 2, 1) := by decide +kernel
theorem dX7_row_57 : decode cX7_row 57 = .ok (.if_icmp .ge 42, 3) := by decide +kernel
theorem dX7_row_60 : decode cX7_row 60 = .ok (.lload 4, 2) := by decide +kernel
theorem dX7_row_62 : decode cX7_row 62 = .ok (.iconst 4, 1) := by decide +kernel
theorem dX7_row_63 : decode cX7_row 63 = .ok (.iload_n 2, 1) := by decide +kernel
theorem dX7_row_64 : decode cX7_row 64 = .ok (.iconst 1, 1) := by decide +kernel
theorem dX7_row_65 : decode cX7_row 65 = .ok (.isub, 1) := by decide +kernel
theorem dX7_row_66 : decode cX7_row 66 = .ok (.iload 6, 2) := by decide +kernel
theorem dX7_row_68 : decode cX7_row 68 = .ok (.isub, 1) := by decide +kernel
theorem dX7_row_69 : decode cX7_row 69 = .ok (.imul, 1) := by decide +kernel
theorem dX7_row_70 : decode cX7_row 70 = .ok (.lshr, 1) := by decide +kernel
theorem dX7_row_71 : decode cX7_row 71 = .ok (.ldc2_w 56, 3) := by decide +kernel
theorem dX7_row_74 : decode cX7_row 74 = .ok (.land, 1) := by decide +kernel
theorem dX7_row_75 : decode cX7_row 75 = .ok (.l2i, 1) := by decide +kernel
theorem dX7_row_76 : decode cX7_row 76 = .ok (.istore 7, 2) := by decide +kernel
theorem dX7_row_78 : decode cX7_row 78 = .ok (.iload 7, 2) := by decide +kernel
theorem dX7_row_80 : decode cX7_row 80 = .ok (.bipush 15, 2) := by decide +kernel
theorem dX7_row_82 : decode cX7_row 82 = .ok (.if_icmp .eq 11, 3) := by decide +kernel
theorem dX7_row_85 : decode cX7_row 85 = .ok (.iload 7, 2) := by decide +kernel
theorem dX7_row_87 : decode cX7_row 87 = .ok (.iload_n 3, 1) := by decide +kernel
theorem dX7_row_88 : decode cX7_row 88 = .ok (.if_icmp .lt 5, 3) := by decide +kernel
theorem dX7_row_91 : decode cX7_row 91 = .ok (.iconst (-1), 1) := by decide +kernel
theorem dX7_row_92 : decode cX7_row 92 = .ok (.ireturn, 1) := by decide +kernel
theorem dX7_row_93 : decode cX7_row 93 = .ok (.iinc 6 1, 3) := by decide +kernel
theorem dX7_row_96 : decode cX7_row 96 = .ok (.goto (-42), 3) := by decide +kernel
theorem dX7_row_99 : decode cX7_row 99 = .ok (.aload_n 0, 1) := by decide +kernel
theorem dX7_row_100 : decode cX7_row 100 = .ok (.getfield 7, 3) := by decide +kernel
theorem dX7_row_103 : decode cX7_row 103 = .ok (.iload_n 1, 1) := by decide +kernel
theorem dX7_row_104 : decode cX7_row 104 = .ok (.iaload, 1) := by decide +kernel
theorem dX7_row_105 : decode cX7_row 105 = .ok (.istore 6, 2) := by decide +kernel
theorem dX7_row_107 : decode cX7_row 107 = .ok (.aload_n 0, 1) := by decide +kernel
theorem dX7_row_108 : decode cX7_row 108 = .ok (.getfield 7, 3) := by decide +kernel
theorem dX7_row_111 : decode cX7_row 111 = .ok (.iload_n 1, 1) := by decide +kernel
theorem dX7_row_112 : decode cX7_row 112 = .ok (.iload_n 2, 1) := by decide +kernel
theorem dX7_row_113 : decode cX7_row 113 = .ok (.iastore, 1) := by decide +kernel
theorem dX7_row_114 : decode cX7_row 114 = .ok (.aload_n 0, 1) := by decide +kernel
theorem dX7_row_115 : decode cX7_row 115 = .ok (.getfield 13, 3) := by decide +kernel
theorem dX7_row_118 : decode cX7_row 118 = .ok (.iload_n 1, 1) := by decide +kernel
theorem dX7_row_119 : decode cX7_row 119 = .ok (.iload_n 3, 1) := by decide +kernel
theorem dX7_row_120 : decode cX7_row 120 = .ok (.iastore, 1) := by decide +kernel
theorem dX7_row_121 : decode cX7_row 121 = .ok (.iconst 0, 1) := by decide +kernel
theorem dX7_row_122 : decode cX7_row 122 = .ok (.istore 7, 2) := by decide +kernel
theorem dX7_row_124 : decode cX7_row 124 = .ok (.iload 7, 2) := by decide +kernel
theorem dX7_row_126 : decode cX7_row 126 = .ok (.iload_n 2, 1) := by decide +kernel
theorem dX7_row_127 : decode cX7_row 127 = .ok (.if_icmp .ge 37, 3) := by decide +kernel
theorem dX7_row_130 : decode cX7_row 130 = .ok (.aload_n 0, 1) := by decide +kernel
theorem dX7_row_131 : decode cX7_row 131 = .ok (.getfield 16, 3) := by decide +kernel
theorem dX7_row_134 : decode cX7_row 134 = .ok (.bipush 12, 2) := by decide +kernel
theorem dX7_row_136 : decode cX7_row 136 = .ok (.iload_n 1, 1) := by decide +kernel
theorem dX7_row_137 : decode cX7_row 137 = .ok (.imul, 1) := by decide +kernel
theorem dX7_row_138 : decode cX7_row 138 = .ok (.iload 7, 2) := by decide +kernel
theorem dX7_row_140 : decode cX7_row 140 = .ok (.iadd, 1) := by decide +kernel
theorem dX7_row_141 : decode cX7_row 141 = .ok (.lload 4, 2) := by decide +kernel
theorem dX7_row_143 : decode cX7_row 143 = .ok (.iconst 4, 1) := by decide +kernel
theorem dX7_row_144 : decode cX7_row 144 = .ok (.iload_n 2, 1) := by decide +kernel
theorem dX7_row_145 : decode cX7_row 145 = .ok (.iconst 1, 1) := by decide +kernel
theorem dX7_row_146 : decode cX7_row 146 = .ok (.isub, 1) := by decide +kernel
theorem dX7_row_147 : decode cX7_row 147 = .ok (.iload 7, 2) := by decide +kernel
theorem dX7_row_149 : decode cX7_row 149 = .ok (.isub, 1) := by decide +kernel
theorem dX7_row_150 : decode cX7_row 150 = .ok (.imul, 1) := by decide +kernel
theorem dX7_row_151 : decode cX7_row 151 = .ok (.lshr, 1) := by decide +kernel
theorem dX7_row_152 : decode cX7_row 152 = .ok (.ldc2_w 56, 3) := by decide +kernel
theorem dX7_row_155 : decode cX7_row 155 = .ok (.land, 1) := by decide +kernel
theorem dX7_row_156 : decode cX7_row 156 = .ok (.l2i, 1) := by decide +kernel
theorem dX7_row_157 : decode cX7_row 157 = .ok (.iastore, 1) := by decide +kernel
theorem dX7_row_158 : decode cX7_row 158 = .ok (.iinc 7 1, 3) := by decide +kernel
theorem dX7_row_161 : decode cX7_row 161 = .ok (.goto (-37), 3) := by decide +kernel
theorem dX7_row_164 : decode cX7_row 164 = .ok (.iload 6, 2) := by decide +kernel
theorem dX7_row_166 : decode cX7_row 166 = .ok (.ireturn, 1) := by decide +kernel
theorem dX7_write_0 : decode cX7_write 0 = .ok (.iload_n 1, 1) := by decide +kernel
theorem dX7_write_1 : decode cX7_write 1 = .ok (.i2l, 1) := by decide +kernel
theorem dX7_write_2 : decode cX7_write 2 = .ok (.lconst 1, 1) := by decide +kernel
theorem dX7_write_3 : decode cX7_write 3 = .ok (.ldc2_w 58, 3) := by decide +kernel
theorem dX7_write_6 : decode cX7_write 6 = .ok (.invokestatic 46, 3) := by decide +kernel
theorem dX7_write_9 : decode cX7_write 9 = .ok (.ifCond .ne 5, 3) := by decide +kernel
theorem dX7_write_12 : decode cX7_write 12 = .ok (.iconst (-1), 1) := by decide +kernel
theorem dX7_write_13 : decode cX7_write 13 = .ok (.ireturn, 1) := by decide +kernel
theorem dX7_write_14 : decode cX7_write 14 = .ok (.aload_n 0, 1) := by decide +kernel
theorem dX7_write_15 : decode cX7_write 15 = .ok (.getfield 60, 3) := by decide +kernel
theorem dX7_write_18 : decode cX7_write 18 = .ok (.iload_n 1, 1) := by decide +kernel
theorem dX7_write_19 : decode cX7_write 19 = .ok (.iadd, 1) := by decide +kernel
theorem dX7_write_20 : decode cX7_write 20 = .ok (.bipush 60, 2) := by decide +kernel
theorem dX7_write_22 : decode cX7_write 22 = .ok (.if_icmp .le 6, 3) := by decide +kernel
theorem dX7_write_25 : decode cX7_write 25 = .ok (.bipush (-3), 2) := by decide +kernel
theorem dX7_write_27 : decode cX7_write 27 = .ok (.ireturn, 1) := by decide +kernel
theorem dX7_write_28 : decode cX7_write 28 = .ok (.iload_n 1, 1) := by decide +kernel
theorem dX7_write_29 : decode cX7_write 29 = .ok (.iconst 1, 1) := by decide +kernel
theorem dX7_write_30 : decode cX7_write 30 = .ok (.isub, 1) := by decide +kernel
theorem dX7_write_31 : decode cX7_write 31 = .ok (.istore 4, 2) := by decide +kernel
theorem dX7_write_33 : decode cX7_write 33 = .ok (.iload 4, 2) := by decide +kernel
theorem dX7_write_35 : decode cX7_write 35 = .ok (.ifCond .lt 37, 3) := by decide +kernel
theorem dX7_write_38 : decode cX7_write 38 = .ok (.aload_n 0, 1) := by decide +kernel
theorem dX7_write_39 : decode cX7_write 39 = .ok (.getfield 19, 3) := by decide +kernel
theorem dX7_write_42 : decode cX7_write 42 = .ok (.aload_n 0, 1) := by decide +kernel
theorem dX7_write_43 : decode cX7_write 43 = .ok (.getfield 60, 3) := by decide +kernel
theorem dX7_write_46 : decode cX7_write 46 = .ok (.lload_n 2, 1) := by decide +kernel
theorem dX7_write_47 : decode cX7_write 47 = .ok (.bipush 8, 2) := by decide +kernel
theorem dX7_write_49 : decode cX7_write 49 = .ok (.iload 4, 2) := by decide +kernel
theorem dX7_write_51 : decode cX7_write 51 = .ok (.imul, 1) := by decide +kernel
theorem dX7_write_52 : decode cX7_write 52 = .ok (.lshr, 1) := by decide +kernel
theorem dX7_write_53 : decode cX7_write 53 = .ok (.l2i, 1) := by decide +kernel
theorem dX7_write_54 : decode cX7_write 54 = .ok (.i2b, 1) := by decide +kernel
theorem dX7_write_55 : decode cX7_write 55 = .ok (.bastore, 1) := by decide +kernel
theorem dX7_write_56 : decode cX7_write 56 = .ok (.aload_n 0, 1) := by decide +kernel
theorem dX7_write_57 : decode cX7_write 57 = .ok (.dup, 1) := by decide +kernel
theorem dX7_write_58 : decode cX7_write 58 = .ok (.getfield 60, 3) := by decide +kernel
theorem dX7_write_61 : decode cX7_write 61 = .ok (.iconst 1, 1) := by decide +kernel
theorem dX7_write_62 : decode cX7_write 62 = .ok (.iadd, 1) := by decide +kernel
theorem dX7_write_63 : decode cX7_write 63 = .ok (.putfield 60, 3) := by decide +kernel
theorem dX7_write_66 : decode cX7_write 66 = .ok (.iinc 4 (-1), 3) := by decide +kernel
theorem dX7_write_69 : decode cX7_write 69 = .ok (.goto (-36), 3) := by decide +kernel
theorem dX7_write_72 : decode cX7_write 72 = .ok (.aload_n 0, 1) := by decide +kernel
theorem dX7_write_73 : decode cX7_write 73 = .ok (.getfield 60, 3) := by decide +kernel
theorem dX7_write_76 : decode cX7_write 76 = .ok (.ireturn, 1) := by decide +kernel
theorem dX7_wipe_0 : decode cX7_wipe 0 = .ok (.aload_n 0, 1) := by decide +kernel
theorem dX7_wipe_1 : decode cX7_wipe 1 = .ok (.getfield 60, 3) := by decide +kernel
theorem dX7_wipe_4 : decode cX7_wipe 4 = .ok (.istore_n 1, 1) := by decide +kernel
theorem dX7_wipe_5 : decode cX7_wipe 5 = .ok (.aload_n 0, 1) := by decide +kernel
theorem dX7_wipe_6 : decode cX7_wipe 6 = .ok (.iconst 0, 1) := by decide +kernel
theorem dX7_wipe_7 : decode cX7_wipe 7 = .ok (.putfield 60, 3) := by decide +kernel
theorem dX7_wipe_10 : decode cX7_wipe 10 = .ok (.iload_n 1, 1) := by decide +kernel
theorem dX7_wipe_11 : decode cX7_wipe 11 = .ok (.ireturn, 1) := by decide +kernel
theorem dX7_fault_0 : decode cX7_fault 0 = .ok (.aload_n 0, 1) := by decide +kernel
theorem dX7_fault_1 : decode cX7_fault 1 = .ok (.iconst 0, 1) := by decide +kernel
theorem dX7_fault_2 : decode cX7_fault 2 = .ok (.putfield 64, 3) := by decide +kernel
theorem dX7_fault_5 : decode cX7_fault 5 = .ok (.iconst 0, 1) := by decide +kernel
theorem dX7_fault_6 : decode cX7_fault 6 = .ok (.istore_n 1, 1) := by decide +kernel
theorem dX7_fault_7 : decode cX7_fault 7 = .ok (.iconst 0, 1) := by decide +kernel
theorem dX7_fault_8 : decode cX7_fault 8 = .ok (.istore_n 2, 1) := by decide +kernel
theorem dX7_fault_9 : decode cX7_fault 9 = .ok (.iload_n 2, 1) := by decide +kernel
theorem dX7_fault_10 : decode cX7_fault 10 = .ok (.aload_n 0, 1) := by decide +kernel
theorem dX7_fault_11 : decode cX7_fault 11 = .ok (.getfield 60, 3) := by decide +kernel
theorem dX7_fault_14 : decode cX7_fault 14 = .ok (.if_icmp .ge 136, 3) := by decide +kernel
theorem dX7_fault_17 : decode cX7_fault 17 = .ok (.aload_n 0, 1) := by decide +kernel
theorem dX7_fault_18 : decode cX7_fault 18 = .ok (.getfield 19, 3) := by decide +kernel
theorem dX7_fault_21 : decode cX7_fault 21 = .ok (.iload_n 2, 1) := by decide +kernel
theorem dX7_fault_22 : decode cX7_fault 22 = .ok (.baload, 1) := by decide +kernel
theorem dX7_fault_23 : decode cX7_fault 23 = .ok (.istore_n 3, 1) := by decide +kernel
theorem dX7_fault_24 : decode cX7_fault 24 = .ok (.aload_n 0, 1) := by decide +kernel
theorem dX7_fault_25 : decode cX7_fault 25 = .ok (.getfield 64, 3) := by decide +kernel
