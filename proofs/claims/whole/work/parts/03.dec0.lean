theorem dX0_init_0 : decode cX0_init 0 = .ok (.aload_n 0, 1) := by decide +kernel
theorem dX0_init_1 : decode cX0_init 1 = .ok (.invokespecial 3, 3) := by decide +kernel
theorem dX0_init_4 : decode cX0_init 4 = .ok (.aload_n 0, 1) := by decide +kernel
theorem dX0_init_5 : decode cX0_init 5 = .ok (.bipush 40, 2) := by decide +kernel
theorem dX0_init_7 : decode cX0_init 7 = .ok (.newarray .int, 2) := by decide +kernel
theorem dX0_init_9 : decode cX0_init 9 = .ok (.putfield 9, 3) := by decide +kernel
theorem dX0_init_12 : decode cX0_init 12 = .ok (.aload_n 0, 1) := by decide +kernel
theorem dX0_init_13 : decode cX0_init 13 = .ok (.bipush 40, 2) := by decide +kernel
theorem dX0_init_15 : decode cX0_init 15 = .ok (.newarray .int, 2) := by decide +kernel
theorem dX0_init_17 : decode cX0_init 17 = .ok (.putfield 13, 3) := by decide +kernel
theorem dX0_init_20 : decode cX0_init 20 = .ok (.aload_n 0, 1) := by decide +kernel
theorem dX0_init_21 : decode cX0_init 21 = .ok (.iconst 0, 1) := by decide +kernel
theorem dX0_init_22 : decode cX0_init 22 = .ok (.putfield 16, 3) := by decide +kernel
theorem dX0_init_25 : decode cX0_init 25 = .ok (.aload_n 0, 1) := by decide +kernel
theorem dX0_init_26 : decode cX0_init 26 = .ok (.sipush 779, 3) := by decide +kernel
theorem dX0_init_29 : decode cX0_init 29 = .ok (.newarray .int, 2) := by decide +kernel
theorem dX0_init_31 : decode cX0_init 31 = .ok (.putfield 20, 3) := by decide +kernel
theorem dX0_init_34 : decode cX0_init 34 = .ok (.return_, 1) := by decide +kernel
theorem dX0_size_0 : decode cX0_size 0 = .ok (.aload_n 0, 1) := by decide +kernel
theorem dX0_size_1 : decode cX0_size 1 = .ok (.getfield 16, 3) := by decide +kernel
theorem dX0_size_4 : decode cX0_size 4 = .ok (.ireturn, 1) := by decide +kernel
theorem dX0_isFull_0 : decode cX0_isFull 0 = .ok (.aload_n 0, 1) := by decide +kernel
theorem dX0_isFull_1 : decode cX0_isFull 1 = .ok (.getfield 16, 3) := by decide +kernel
theorem dX0_isFull_4 : decode cX0_isFull 4 = .ok (.bipush 40, 2) := by decide +kernel
theorem dX0_isFull_6 : decode cX0_isFull 6 = .ok (.if_icmp .lt 7, 3) := by decide +kernel
theorem dX0_isFull_9 : decode cX0_isFull 9 = .ok (.iconst 1, 1) := by decide +kernel
theorem dX0_isFull_10 : decode cX0_isFull 10 = .ok (.goto 4, 3) := by decide +kernel
theorem dX0_isFull_13 : decode cX0_isFull 13 = .ok (.iconst 0, 1) := by decide +kernel
theorem dX0_isFull_14 : decode cX0_isFull 14 = .ok (.ireturn, 1) := by decide +kernel
theorem dX0_clear_0 : decode cX0_clear 0 = .ok (.aload_n 0, 1) := by decide +kernel
theorem dX0_clear_1 : decode cX0_clear 1 = .ok (.iconst 0, 1) := by decide +kernel
theorem dX0_clear_2 : decode cX0_clear 2 = .ok (.putfield 16, 3) := by decide +kernel
theorem dX0_clear_5 : decode cX0_clear 5 = .ok (.return_, 1) := by decide +kernel
theorem dX0_holds_0 : decode cX0_holds 0 = .ok (.iconst 0, 1) := by decide +kernel
theorem dX0_holds_1 : decode cX0_holds 1 = .ok (.istore_n 3, 1) := by decide +kernel
theorem dX0_holds_2 : decode cX0_holds 2 = .ok (.iload_n 3, 1) := by decide +kernel
theorem dX0_holds_3 : decode cX0_holds 3 = .ok (.aload_n 0, 1) := by decide +kernel
theorem dX0_holds_4 : decode cX0_holds 4 = .ok (.getfield 16, 3) := by decide +kernel
theorem dX0_holds_7 : decode cX0_holds 7 = .ok (.if_icmp .ge 37, 3) := by decide +kernel
theorem dX0_holds_10 : decode cX0_holds 10 = .ok (.iload_n 3, 1) := by decide +kernel
theorem dX0_holds_11 : decode cX0_holds 11 = .ok (.bipush 40, 2) := by decide +kernel
theorem dX0_holds_13 : decode cX0_holds 13 = .ok (.if_icmp .ge 31, 3) := by decide +kernel
theorem dX0_holds_16 : decode cX0_holds 16 = .ok (.aload_n 0, 1) := by decide +kernel
theorem dX0_holds_17 : decode cX0_holds 17 = .ok (.getfield 9, 3) := by decide +kernel
theorem dX0_holds_20 : decode cX0_holds 20 = .ok (.iload_n 3, 1) := by decide +kernel
theorem dX0_holds_21 : decode cX0_holds 21 = .ok (.iaload, 1) := by decide +kernel
theorem dX0_holds_22 : decode cX0_holds 22 = .ok (.iload_n 1, 1) := by decide +kernel
theorem dX0_holds_23 : decode cX0_holds 23 = .ok (.if_icmp .ne 15, 3) := by decide +kernel
theorem dX0_holds_26 : decode cX0_holds 26 = .ok (.aload_n 0, 1) := by decide +kernel
theorem dX0_holds_27 : decode cX0_holds 27 = .ok (.getfield 13, 3) := by decide +kernel
theorem dX0_holds_30 : decode cX0_holds 30 = .ok (.iload_n 3, 1) := by decide +kernel
theorem dX0_holds_31 : decode cX0_holds 31 = .ok (.iaload, 1) := by decide +kernel
theorem dX0_holds_32 : decode cX0_holds 32 = .ok (.iload_n 2, 1) := by decide +kernel
theorem dX0_holds_33 : decode cX0_holds 33 = .ok (.if_icmp .ne 5, 3) := by decide +kernel
theorem dX0_holds_36 : decode cX0_holds 36 = .ok (.iconst 1, 1) := by decide +kernel
theorem dX0_holds_37 : decode cX0_holds 37 = .ok (.ireturn, 1) := by decide +kernel
theorem dX0_holds_38 : decode cX0_holds 38 = .ok (.iinc 3 1, 3) := by decide +kernel
theorem dX0_holds_41 : decode cX0_holds 41 = .ok (.goto (-39), 3) := by decide +kernel
theorem dX0_holds_44 : decode cX0_holds 44 = .ok (.iconst 0, 1) := by decide +kernel
theorem dX0_holds_45 : decode cX0_holds 45 = .ok (.ireturn, 1) := by decide +kernel
theorem dX0_add_0 : decode cX0_add 0 = .ok (.aload_n 0, 1) := by decide +kernel
theorem dX0_add_1 : decode cX0_add 1 = .ok (.getfield 16, 3) := by decide +kernel
theorem dX0_add_4 : decode cX0_add 4 = .ok (.iconst 0, 1) := by decide +kernel
theorem dX0_add_5 : decode cX0_add 5 = .ok (.bipush 39, 2) := by decide +kernel
theorem dX0_add_7 : decode cX0_add 7 = .ok (.invokestatic 23, 3) := by decide +kernel
theorem dX0_add_10 : decode cX0_add 10 = .ok (.ifCond .eq 33, 3) := by decide +kernel
theorem dX0_add_13 : decode cX0_add 13 = .ok (.aload_n 0, 1) := by decide +kernel
theorem dX0_add_14 : decode cX0_add 14 = .ok (.getfield 9, 3) := by decide +kernel
theorem dX0_add_17 : decode cX0_add 17 = .ok (.aload_n 0, 1) := by decide +kernel
theorem dX0_add_18 : decode cX0_add 18 = .ok (.getfield 16, 3) := by decide +kernel
theorem dX0_add_21 : decode cX0_add 21 = .ok (.iload_n 1, 1) := by decide +kernel
theorem dX0_add_22 : decode cX0_add 22 = .ok (.iastore, 1) := by decide +kernel
theorem dX0_add_23 : decode cX0_add 23 = .ok (.aload_n 0, 1) := by decide +kernel
theorem dX0_add_24 : decode cX0_add 24 = .ok (.getfield 13, 3) := by decide +kernel
theorem dX0_add_27 : decode cX0_add 27 = .ok (.aload_n 0, 1) := by decide +kernel
theorem dX0_add_28 : decode cX0_add 28 = .ok (.getfield 16, 3) := by decide +kernel
theorem dX0_add_31 : decode cX0_add 31 = .ok (.iload_n 2, 1) := by decide +kernel
theorem dX0_add_32 : decode cX0_add 32 = .ok (.iastore, 1) := by decide +kernel
theorem dX0_add_33 : decode cX0_add 33 = .ok (.aload_n 0, 1) := by decide +kernel
theorem dX0_add_34 : decode cX0_add 34 = .ok (.dup, 1) := by decide +kernel
theorem dX0_add_35 : decode cX0_add 35 = .ok (.getfield 16, 3) := by decide +kernel
theorem dX0_add_38 : decode cX0_add 38 = .ok (.iconst 1, 1) := by decide +kernel
theorem dX0_add_39 : decode cX0_add 39 = .ok (.iadd, 1) := by decide +kernel
theorem dX0_add_40 : decode cX0_add 40 = .ok (.putfield 16, 3) := by decide +kernel
theorem dX0_add_43 : decode cX0_add 43 = .ok (.return_, 1) := by decide +kernel
theorem dX0_seek_0 : decode cX0_seek 0 = .ok (.aload_n 0, 1) := by decide +kernel
theorem dX0_seek_1 : decode cX0_seek 1 = .ok (.getfield 20, 3) := by decide +kernel
theorem dX0_seek_4 : decode cX0_seek 4 = .ok (.iconst 0, 1) := by decide +kernel
theorem dX0_seek_5 : decode cX0_seek 5 = .ok (.invokestatic 29, 3) := by decide +kernel
theorem dX0_seek_8 : decode cX0_seek 8 = .ok (.iconst 0, 1) := by decide +kernel
theorem dX0_seek_9 : decode cX0_seek 9 = .ok (.istore_n 2, 1) := by decide +kernel
theorem dX0_seek_10 : decode cX0_seek 10 = .ok (.iload_n 2, 1) := by decide +kernel
theorem dX0_seek_11 : decode cX0_seek 11 = .ok (.aload_n 1, 1) := by decide +kernel
theorem dX0_seek_12 : decode cX0_seek 12 = .ok (.invokevirtual 35, 3) := by decide +kernel
theorem dX0_seek_15 : decode cX0_seek 15 = .ok (.if_icmp .ge 27, 3) := by decide +kernel
theorem dX0_seek_18 : decode cX0_seek 18 = .ok (.aload_n 1, 1) := by decide +kernel
theorem dX0_seek_19 : decode cX0_seek 19 = .ok (.iload_n 2, 1) := by decide +kernel
theorem dX0_seek_20 : decode cX0_seek 20 = .ok (.invokevirtual 41, 3) := by decide +kernel
theorem dX0_seek_23 : decode cX0_seek 23 = .ok (.ifCond .eq 13, 3) := by decide +kernel
theorem dX0_seek_26 : decode cX0_seek 26 = .ok (.aload_n 0, 1) := by decide +kernel
theorem dX0_seek_27 : decode cX0_seek 27 = .ok (.iload_n 2, 1) := by decide +kernel
theorem dX0_seek_28 : decode cX0_seek 28 = .ok (.aload_n 1, 1) := by decide +kernel
theorem dX0_seek_29 : decode cX0_seek 29 = .ok (.iload_n 2, 1) := by decide +kernel
theorem dX0_seek_30 : decode cX0_seek 30 = .ok (.invokevirtual 45, 3) := by decide +kernel
theorem dX0_seek_33 : decode cX0_seek 33 = .ok (.invokevirtual 49, 3) := by decide +kernel
theorem dX0_seek_36 : decode cX0_seek 36 = .ok (.iinc 2 1, 3) := by decide +kernel
theorem dX0_seek_39 : decode cX0_seek 39 = .ok (.goto (-29), 3) := by decide +kernel
theorem dX0_seek_42 : decode cX0_seek 42 = .ok (.aload_n 0, 1) := by decide +kernel
theorem dX0_seek_43 : decode cX0_seek 43 = .ok (.iconst 0, 1) := by decide +kernel
theorem dX0_seek_44 : decode cX0_seek 44 = .ok (.putfield 53, 3) := by decide +kernel
theorem dX0_seek_47 : decode cX0_seek 47 = .ok (.iconst 1, 1) := by decide +kernel
theorem dX0_seek_48 : decode cX0_seek 48 = .ok (.istore_n 2, 1) := by decide +kernel
theorem dX0_seek_49 : decode cX0_seek 49 = .ok (.iload_n 2, 1) := by decide +kernel
theorem dX0_seek_50 : decode cX0_seek 50 = .ok (.aload_n 0, 1) := by decide +kernel
theorem dX0_seek_51 : decode cX0_seek 51 = .ok (.getfield 20, 3) := by decide +kernel
theorem dX0_seek_54 : decode cX0_seek 54 = .ok (.arraylength, 1) := by decide +kernel
theorem dX0_seek_55 : decode cX0_seek 55 = .ok (.if_icmp .ge 32, 3) := by decide +kernel
theorem dX0_seek_58 : decode cX0_seek 58 = .ok (.aload_n 0, 1) := by decide +kernel
theorem dX0_seek_59 : decode cX0_seek 59 = .ok (.getfield 20, 3) := by decide +kernel
theorem dX0_seek_62 : decode cX0_seek 62 = .ok (.iload_n 2, 1) := by decide +kernel
theorem dX0_seek_63 : decode cX0_seek 63 = .ok (.iaload, 1) := by decide +kernel
theorem dX0_seek_64 : decode cX0_seek 64 = .ok (.aload_n 0, 1) := by decide +kernel
theorem dX0_seek_65 : decode cX0_seek 65 = .ok (.getfield 20, 3) := by decide +kernel
theorem dX0_seek_68 : decode cX0_seek 68 = .ok (.aload_n 0, 1) := by decide +kernel
theorem dX0_seek_69 : decode cX0_seek 69 = .ok (.getfield 53, 3) := by decide +kernel
theorem dX0_seek_72 : decode cX0_seek 72 = .ok (.iaload, 1) := by decide +kernel
theorem dX0_seek_73 : decode cX0_seek 73 = .ok (.if_icmp .le 8, 3) := by decide +kernel
theorem dX0_seek_76 : decode cX0_seek 76 = .ok (.aload_n 0, 1) := by decide +kernel
theorem dX0_seek_77 : decode cX0_seek 77 = .ok (.iload_n 2, 1) := by decide +kernel
theorem dX0_seek_78 : decode cX0_seek 78 = .ok (.putfield 53, 3) := by decide +kernel
theorem dX0_seek_81 : decode cX0_seek 81 = .ok (.iinc 2 1, 3) := by decide +kernel
theorem dX0_seek_84 : decode cX0_seek 84 = .ok (.goto (-35), 3) := by decide +kernel
theorem dX0_seek_87 : decode cX0_seek 87 = .ok (.return_, 1) := by decide +kernel
theorem dX0_meetHeard_0 : decode cX0_meetHeard 0 = .ok (.iconst 0, 1) := by decide +kernel
theorem dX0_meetHeard_1 : decode cX0_meetHeard 1 = .ok (.istore_n 3, 1) := by decide +kernel
theorem dX0_meetHeard_2 : decode cX0_meetHeard 2 = .ok (.iload_n 3, 1) := by decide +kernel
theorem dX0_meetHeard_3 : decode cX0_meetHeard 3 = .ok (.aload_n 0, 1) := by decide +kernel
theorem dX0_meetHeard_4 : decode cX0_meetHeard 4 = .ok (.getfield 16, 3) := by decide +kernel
theorem dX0_meetHeard_7 : decode cX0_meetHeard 7 = .ok (.if_icmp .ge 78, 3) := by decide +kernel
theorem dX0_meetHeard_10 : decode cX0_meetHeard 10 = .ok (.iload_n 3, 1) := by decide +kernel
theorem dX0_meetHeard_11 : decode cX0_meetHeard 11 = .ok (.bipush 40, 2) := by decide +kernel
theorem dX0_meetHeard_13 : decode cX0_meetHeard 13 = .ok (.if_icmp .ge 72, 3) := by decide +kernel
theorem dX0_meetHeard_16 : decode cX0_meetHeard 16 = .ok (.aload_n 0, 1) := by decide +kernel
theorem dX0_meetHeard_17 : decode cX0_meetHeard 17 = .ok (.getfield 9, 3) := by decide +kernel
theorem dX0_meetHeard_20 : decode cX0_meetHeard 20 = .ok (.iload_n 3, 1) := by decide +kernel
theorem dX0_meetHeard_21 : decode cX0_meetHeard 21 = .ok (.iaload, 1) := by decide +kernel
theorem dX0_meetHeard_22 : decode cX0_meetHeard 22 = .ok (.iload_n 1, 1) := by decide +kernel
theorem dX0_meetHeard_23 : decode cX0_meetHeard 23 = .ok (.isub, 1) := by decide +kernel
theorem dX0_meetHeard_24 : decode cX0_meetHeard 24 = .ok (.istore 4, 2) := by decide +kernel
theorem dX0_meetHeard_26 : decode cX0_meetHeard 26 = .ok (.aload_n 0, 1) := by decide +kernel
theorem dX0_meetHeard_27 : decode cX0_meetHeard 27 = .ok (.getfield 13, 3) := by decide +kernel
theorem dX0_meetHeard_30 : decode cX0_meetHeard 30 = .ok (.iload_n 3, 1) := by decide +kernel
theorem dX0_meetHeard_31 : decode cX0_meetHeard 31 = .ok (.iaload, 1) := by decide +kernel
theorem dX0_meetHeard_32 : decode cX0_meetHeard 32 = .ok (.iload_n 2, 1) := by decide +kernel
theorem dX0_meetHeard_33 : decode cX0_meetHeard 33 = .ok (.isub, 1) := by decide +kernel
theorem dX0_meetHeard_34 : decode cX0_meetHeard 34 = .ok (.istore 5, 2) := by decide +kernel
theorem dX0_meetHeard_36 : decode cX0_meetHeard 36 = .ok (.iload 4, 2) := by decide +kernel
theorem dX0_meetHeard_38 : decode cX0_meetHeard 38 = .ok (.iconst 0, 1) := by decide +kernel
theorem dX0_meetHeard_39 : decode cX0_meetHeard 39 = .ok (.bipush 18, 2) := by decide +kernel
theorem dX0_meetHeard_41 : decode cX0_meetHeard 41 = .ok (.invokestatic 23, 3) := by decide +kernel
theorem dX0_meetHeard_44 : decode cX0_meetHeard 44 = .ok (.ifCond .eq 35, 3) := by decide +kernel
theorem dX0_meetHeard_47 : decode cX0_meetHeard 47 = .ok (.iload 5, 2) := by decide +kernel
theorem dX0_meetHeard_49 : decode cX0_meetHeard 49 = .ok (.bipush (-20), 2) := by decide +kernel
theorem dX0_meetHeard_51 : decode cX0_meetHeard 51 = .ok (.bipush 20, 2) := by decide +kernel
theorem dX0_meetHeard_53 : decode cX0_meetHeard 53 = .ok (.invokestatic 23, 3) := by decide +kernel
theorem dX0_meetHeard_56 : decode cX0_meetHeard 56 = .ok (.ifCond .eq 23, 3) := by decide +kernel
theorem dX0_meetHeard_59 : decode cX0_meetHeard 59 = .ok (.aload_n 0, 1) := by decide +kernel
theorem dX0_meetHeard_60 : decode cX0_meetHeard 60 = .ok (.getfield 20, 3) := by decide +kernel
theorem dX0_meetHeard_63 : decode cX0_meetHeard 63 = .ok (.iload 4, 2) := by decide +kernel
theorem dX0_meetHeard_65 : decode cX0_meetHeard 65 = .ok (.bipush 41, 2) := by decide +kernel
theorem dX0_meetHeard_67 : decode cX0_meetHeard 67 = .ok (.imul, 1) := by decide +kernel
theorem dX0_meetHeard_68 : decode cX0_meetHeard 68 = .ok (.iload 5, 2) := by decide +kernel
theorem dX0_meetHeard_70 : decode cX0_meetHeard 70 = .ok (.iadd, 1) := by decide +kernel
theorem dX0_meetHeard_71 : decode cX0_meetHeard 71 = .ok (.bipush 20, 2) := by decide +kernel
theorem dX0_meetHeard_73 : decode cX0_meetHeard 73 = .ok (.iadd, 1) := by decide +kernel
theorem dX0_meetHeard_74 : decode cX0_meetHeard 74 = .ok (.dup2, 1) := by decide +kernel
theorem dX0_meetHeard_75 : decode cX0_meetHeard 75 = .ok (.iaload, 1) := by decide +kernel
theorem dX0_meetHeard_76 : decode cX0_meetHeard 76 = .ok (.iconst 1, 1) := by decide +kernel
theorem dX0_meetHeard_77 : decode cX0_meetHeard 77 = .ok (.iadd, 1) := by decide +kernel
theorem dX0_meetHeard_78 : decode cX0_meetHeard 78 = .ok (.iastore, 1) := by decide +kernel
theorem dX0_meetHeard_79 : decode cX0_meetHeard 79 = .ok (.iinc 3 1, 3) := by decide +kernel
theorem dX0_meetHeard_82 : decode cX0_meetHeard 82 = .ok (.goto (-80), 3) := by decide +kernel
theorem dX0_meetHeard_85 : decode cX0_meetHeard 85 = .ok (.return_, 1) := by decide +kernel
theorem dX0_bestMeeting_0 : decode cX0_bestMeeting 0 = .ok (.aload_n 0, 1) := by decide +kernel
theorem dX0_bestMeeting_1 : decode cX0_bestMeeting 1 = .ok (.getfield 53, 3) := by decide +kernel
theorem dX0_bestMeeting_4 : decode cX0_bestMeeting 4 = .ok (.iconst 0, 1) := by decide +kernel
theorem dX0_bestMeeting_5 : decode cX0_bestMeeting 5 = .ok (.aload_n 0, 1) := by decide +kernel
theorem dX0_bestMeeting_6 : decode cX0_bestMeeting 6 = .ok (.getfield 20, 3) := by decide +kernel
theorem dX0_bestMeeting_9 : decode cX0_bestMeeting 9 = .ok (.arraylength, 1) := by decide +kernel
theorem dX0_bestMeeting_10 : decode cX0_bestMeeting 10 = .ok (.iconst 1, 1) := by decide +kernel
theorem dX0_bestMeeting_11 : decode cX0_bestMeeting 11 = .ok (.isub, 1) := by decide +kernel
theorem dX0_bestMeeting_12 : decode cX0_bestMeeting 12 = .ok (.invokestatic 23, 3) := by decide +kernel
theorem dX0_bestMeeting_15 : decode cX0_bestMeeting 15 = .ok (.ifCond .eq 15, 3) := by decide +kernel
theorem dX0_bestMeeting_18 : decode cX0_bestMeeting 18 = .ok (.aload_n 0, 1) := by decide +kernel
theorem dX0_bestMeeting_19 : decode cX0_bestMeeting 19 = .ok (.getfield 20, 3) := by decide +kernel
theorem dX0_bestMeeting_22 : decode cX0_bestMeeting 22 = .ok (.aload_n 0, 1) := by decide +kernel
theorem dX0_bestMeeting_23 : decode cX0_bestMeeting 23 = .ok (.getfield 53, 3) := by decide +kernel
theorem dX0_bestMeeting_26 : decode cX0_bestMeeting 26 = .ok (.iaload, 1) := by decide +kernel
theorem dX0_bestMeeting_27 : decode cX0_bestMeeting 27 = .ok (.goto 4, 3) := by decide +kernel
theorem dX0_bestMeeting_30 : decode cX0_bestMeeting 30 = .ok (.iconst 0, 1) := by decide +kernel
theorem dX0_bestMeeting_31 : decode cX0_bestMeeting 31 = .ok (.ireturn, 1) := by decide +kernel
theorem dX0_bestLate_0 : decode cX0_bestLate 0 = .ok (.aload_n 0, 1) := by decide +kernel
theorem dX0_bestLate_1 : decode cX0_bestLate 1 = .ok (.getfield 53, 3) := by decide +kernel
theorem dX0_bestLate_4 : decode cX0_bestLate 4 = .ok (.bipush 41, 2) := by decide +kernel
theorem dX0_bestLate_6 : decode cX0_bestLate 6 = .ok (.idiv, 1) := by decide +kernel
theorem dX0_bestLate_7 : decode cX0_bestLate 7 = .ok (.ireturn, 1) := by decide +kernel
theorem dX0_bestMoved_0 : decode cX0_bestMoved 0 = .ok (.aload_n 0, 1) := by decide +kernel
theorem dX0_bestMoved_1 : decode cX0_bestMoved 1 = .ok (.getfield 53, 3) := by decide +kernel
theorem dX0_bestMoved_4 : decode cX0_bestMoved 4 = .ok (.bipush 41, 2) := by decide +kernel
theorem dX0_bestMoved_6 : decode cX0_bestMoved 6 = .ok (.irem, 1) := by decide +kernel
theorem dX0_bestMoved_7 : decode cX0_bestMoved 7 = .ok (.bipush 20, 2) := by decide +kernel
theorem dX0_bestMoved_9 : decode cX0_bestMoved 9 = .ok (.isub, 1) := by decide +kernel
theorem dX0_bestMoved_10 : decode cX0_bestMoved 10 = .ok (.ireturn, 1) := by decide +kernel
theorem dX1_init_0 : decode cX1_init 0 = .ok (.aload_n 0, 1) := by decide +kernel
theorem dX1_init_1 : decode cX1_init 1 = .ok (.invokespecial 3, 3) := by decide +kernel
theorem dX1_init_4 : decode cX1_init 4 = .ok (.aload_n 0, 1) := by decide +kernel
theorem dX1_init_5 : decode cX1_init 5 = .ok (.sipush 625, 3) := by decide +kernel
theorem dX1_init_8 : decode cX1_init 8 = .ok (.newarray .int, 2) := by decide +kernel
theorem dX1_init_10 : decode cX1_init 10 = .ok (.putfield 11, 3) := by decide +kernel
theorem dX1_init_13 : decode cX1_init 13 = .ok (.return_, 1) := by decide +kernel
theorem dX1_lookAt_0 : decode cX1_lookAt 0 = .ok (.aload_n 0, 1) := by decide +kernel
theorem dX1_lookAt_1 : decode cX1_lookAt 1 = .ok (.getfield 11, 3) := by decide +kernel
theorem dX1_lookAt_4 : decode cX1_lookAt 4 = .ok (.iconst 0, 1) := by decide +kernel
theorem dX1_lookAt_5 : decode cX1_lookAt 5 = .ok (.invokestatic 15, 3) := by decide +kernel
theorem dX1_lookAt_8 : decode cX1_lookAt 8 = .ok (.iconst 0, 1) := by decide +kernel
theorem dX1_lookAt_9 : decode cX1_lookAt 9 = .ok (.istore 4, 2) := by decide +kernel
theorem dX1_lookAt_11 : decode cX1_lookAt 11 = .ok (.iload 4, 2) := by decide +kernel
theorem dX1_lookAt_13 : decode cX1_lookAt 13 = .ok (.aload_n 1, 1) := by decide +kernel
theorem dX1_lookAt_14 : decode cX1_lookAt 14 = .ok (.invokevirtual 21, 3) := by decide +kernel
theorem dX1_lookAt_17 : decode cX1_lookAt 17 = .ok (.if_icmp .ge 31, 3) := by decide +kernel
theorem dX1_lookAt_20 : decode cX1_lookAt 20 = .ok (.aload_n 1, 1) := by decide +kernel
theorem dX1_lookAt_21 : decode cX1_lookAt 21 = .ok (.iload 4, 2) := by decide +kernel
theorem dX1_lookAt_23 : decode cX1_lookAt 23 = .ok (.invokevirtual 27, 3) := by decide +kernel
theorem dX1_lookAt_26 : decode cX1_lookAt 26 = .ok (.ifCond .eq 16, 3) := by decide +kernel
theorem dX1_lookAt_29 : decode cX1_lookAt 29 = .ok (.aload_n 0, 1) := by decide +kernel
theorem dX1_lookAt_30 : decode cX1_lookAt 30 = .ok (.iload 4, 2) := by decide +kernel
theorem dX1_lookAt_32 : decode cX1_lookAt 32 = .ok (.aload_n 1, 1) := by decide +kernel
theorem dX1_lookAt_33 : decode cX1_lookAt 33 = .ok (.iload 4, 2) := by decide +kernel
theorem dX1_lookAt_35 : decode cX1_lookAt 35 = .ok (.invokevirtual 31, 3) := by decide +kernel
theorem dX1_lookAt_38 : decode cX1_lookAt 38 = .ok (.aload_n 2, 1) := by decide +kernel
theorem dX1_lookAt_39 : decode cX1_lookAt 39 = .ok (.invokevirtual 35, 3) := by decide +kernel
theorem dX1_lookAt_42 : decode cX1_lookAt 42 = .ok (.iinc 4 1, 3) := by decide +kernel
theorem dX1_lookAt_45 : decode cX1_lookAt 45 = .ok (.goto (-34), 3) := by decide +kernel
theorem dX1_lookAt_48 : decode cX1_lookAt 48 = .ok (.aload_n 0, 1) := by decide +kernel
theorem dX1_lookAt_49 : decode cX1_lookAt 49 = .ok (.iload_n 3, 1) := by decide +kernel
theorem dX1_lookAt_50 : decode cX1_lookAt 50 = .ok (.ifCond .eq 11, 3) := by decide +kernel
theorem dX1_lookAt_53 : decode cX1_lookAt 53 = .ok (.iconst 0, 1) := by decide +kernel
theorem dX1_lookAt_54 : decode cX1_lookAt 54 = .ok (.iconst 0, 1) := by decide +kernel
theorem dX1_lookAt_55 : decode cX1_lookAt 55 = .ok (.invokestatic 39, 3) := by decide +kernel
theorem dX1_lookAt_58 : decode cX1_lookAt 58 = .ok (.goto 4, 3) := by decide +kernel
theorem dX1_lookAt_61 : decode cX1_lookAt 61 = .ok (.iconst (-1), 1) := by decide +kernel
theorem dX1_lookAt_62 : decode cX1_lookAt 62 = .ok (.invokevirtual 43, 3) := by decide +kernel
theorem dX1_lookAt_65 : decode cX1_lookAt 65 = .ok (.return_, 1) := by decide +kernel
theorem dX1_placeOf_0 : decode cX1_placeOf 0 = .ok (.iload_n 0, 1) := by decide +kernel
theorem dX1_placeOf_1 : decode cX1_placeOf 1 = .ok (.bipush 12, 2) := by decide +kernel
theorem dX1_placeOf_3 : decode cX1_placeOf 3 = .ok (.iadd, 1) := by decide +kernel
theorem dX1_placeOf_4 : decode cX1_placeOf 4 = .ok (.bipush 25, 2) := by decide +kernel
theorem dX1_placeOf_6 : decode cX1_placeOf 6 = .ok (.imul, 1) := by decide +kernel
theorem dX1_placeOf_7 : decode cX1_placeOf 7 = .ok (.iload_n 1, 1) := by decide +kernel
theorem dX1_placeOf_8 : decode cX1_placeOf 8 = .ok (.iadd, 1) := by decide +kernel
theorem dX1_placeOf_9 : decode cX1_placeOf 9 = .ok (.bipush 12, 2) := by decide +kernel
theorem dX1_placeOf_11 : decode cX1_placeOf 11 = .ok (.iadd, 1) := by decide +kernel
theorem dX1_placeOf_12 : decode cX1_placeOf 12 = .ok (.ireturn, 1) := by decide +kernel
theorem dX1_meetAll_0 : decode cX1_meetAll 0 = .ok (.iconst 0, 1) := by decide +kernel
theorem dX1_meetAll_1 : decode cX1_meetAll 1 = .ok (.istore 4, 2) := by decide +kernel
theorem dX1_meetAll_3 : decode cX1_meetAll 3 = .ok (.iload 4, 2) := by decide +kernel
theorem dX1_meetAll_5 : decode cX1_meetAll 5 = .ok (.aload_n 3, 1) := by decide +kernel
theorem dX1_meetAll_6 : decode cX1_meetAll 6 = .ok (.invokevirtual 21, 3) := by decide +kernel
theorem dX1_meetAll_9 : decode cX1_meetAll 9 = .ok (.if_icmp .ge 66, 3) := by decide +kernel
theorem dX1_meetAll_12 : decode cX1_meetAll 12 = .ok (.iload 4, 2) := by decide +kernel
theorem dX1_meetAll_14 : decode cX1_meetAll 14 = .ok (.iload_n 1, 1) := by decide +kernel
theorem dX1_meetAll_15 : decode cX1_meetAll 15 = .ok (.isub, 1) := by decide +kernel
theorem dX1_meetAll_16 : decode cX1_meetAll 16 = .ok (.istore 5, 2) := by decide +kernel
theorem dX1_meetAll_18 : decode cX1_meetAll 18 = .ok (.aload_n 3, 1) := by decide +kernel
theorem dX1_meetAll_19 : decode cX1_meetAll 19 = .ok (.iload 4, 2) := by decide +kernel
theorem dX1_meetAll_21 : decode cX1_meetAll 21 = .ok (.invokevirtual 31, 3) := by decide +kernel
theorem dX1_meetAll_24 : decode cX1_meetAll 24 = .ok (.iload_n 2, 1) := by decide +kernel
theorem dX1_meetAll_25 : decode cX1_meetAll 25 = .ok (.isub, 1) := by decide +kernel
theorem dX1_meetAll_26 : decode cX1_meetAll 26 = .ok (.istore 6, 2) := by decide +kernel
theorem dX1_meetAll_28 : decode cX1_meetAll 28 = .ok (.aload_n 3, 1) := by decide +kernel
theorem dX1_meetAll_29 : decode cX1_meetAll 29 = .ok (.iload 4, 2) := by decide +kernel
theorem dX1_meetAll_31 : decode cX1_meetAll 31 = .ok (.invokevirtual 27, 3) := by decide +kernel
theorem dX1_meetAll_34 : decode cX1_meetAll 34 = .ok (.ifCond .eq 35, 3) := by decide +kernel
theorem dX1_meetAll_37 : decode cX1_meetAll 37 = .ok (.iload 5, 2) := by decide +kernel
theorem dX1_meetAll_39 : decode cX1_meetAll 39 = .ok (.invokestatic 47, 3) := by decide +kernel
theorem dX1_meetAll_42 : decode cX1_meetAll 42 = .ok (.ifCond .eq 27, 3) := by decide +kernel
theorem dX1_meetAll_45 : decode cX1_meetAll 45 = .ok (.iload 6, 2) := by decide +kernel
theorem dX1_meetAll_47 : decode cX1_meetAll 47 = .ok (.invokestatic 47, 3) := by decide +kernel
theorem dX1_meetAll_50 : decode cX1_meetAll 50 = .ok (.ifCond .eq 19, 3) := by decide +kernel
theorem dX1_meetAll_53 : decode cX1_meetAll 53 = .ok (.aload_n 0, 1) := by decide +kernel
theorem dX1_meetAll_54 : decode cX1_meetAll 54 = .ok (.getfield 11, 3) := by decide +kernel
theorem dX1_meetAll_57 : decode cX1_meetAll 57 = .ok (.iload 5, 2) := by decide +kernel
theorem dX1_meetAll_59 : decode cX1_meetAll 59 = .ok (.iload 6, 2) := by decide +kernel
theorem dX1_meetAll_61 : decode cX1_meetAll 61 = .ok (.invokestatic 39, 3) := by decide +kernel
theorem dX1_meetAll_64 : decode cX1_meetAll 64 = .ok (.dup2, 1) := by decide +kernel
theorem dX1_meetAll_65 : decode cX1_meetAll 65 = .ok (.iaload, 1) := by decide +kernel
theorem dX1_meetAll_66 : decode cX1_meetAll 66 = .ok (.iconst 1, 1) := by decide +kernel
theorem dX1_meetAll_67 : decode cX1_meetAll 67 = .ok (.iadd, 1) := by decide +kernel
theorem dX1_meetAll_68 : decode cX1_meetAll 68 = .ok (.iastore, 1) := by decide +kernel
theorem dX1_meetAll_69 : decode cX1_meetAll 69 = .ok (.iinc 4 1, 3) := by decide +kernel
theorem dX1_meetAll_72 : decode cX1_meetAll 72 = .ok (.goto (-69), 3) := by decide +kernel
theorem dX1_meetAll_75 : decode cX1_meetAll 75 = .ok (.return_, 1) := by decide +kernel
theorem dX1_weigh_0 : decode cX1_weigh 0 = .ok (.aload_n 0, 1) := by decide +kernel
theorem dX1_weigh_1 : decode cX1_weigh 1 = .ok (.iconst (-1), 1) := by decide +kernel
theorem dX1_weigh_2 : decode cX1_weigh 2 = .ok (.putfield 50, 3) := by decide +kernel
theorem dX1_weigh_5 : decode cX1_weigh 5 = .ok (.aload_n 0, 1) := by decide +kernel
theorem dX1_weigh_6 : decode cX1_weigh 6 = .ok (.iconst 0, 1) := by decide +kernel
theorem dX1_weigh_7 : decode cX1_weigh 7 = .ok (.putfield 54, 3) := by decide +kernel
theorem dX1_weigh_10 : decode cX1_weigh 10 = .ok (.aload_n 0, 1) := by decide +kernel
theorem dX1_weigh_11 : decode cX1_weigh 11 = .ok (.iconst 0, 1) := by decide +kernel
theorem dX1_weigh_12 : decode cX1_weigh 12 = .ok (.putfield 57, 3) := by decide +kernel
theorem dX1_weigh_15 : decode cX1_weigh 15 = .ok (.iconst 0, 1) := by decide +kernel
theorem dX1_weigh_16 : decode cX1_weigh 16 = .ok (.istore_n 2, 1) := by decide +kernel
theorem dX1_weigh_17 : decode cX1_weigh 17 = .ok (.iload_n 2, 1) := by decide +kernel
theorem dX1_weigh_18 : decode cX1_weigh 18 = .ok (.aload_n 0, 1) := by decide +kernel
theorem dX1_weigh_19 : decode cX1_weigh 19 = .ok (.getfield 11, 3) := by decide +kernel
theorem dX1_weigh_22 : decode cX1_weigh 22 = .ok (.arraylength, 1) := by decide +kernel
theorem dX1_weigh_23 : decode cX1_weigh 23 = .ok (.if_icmp .ge 64, 3) := by decide +kernel
theorem dX1_weigh_26 : decode cX1_weigh 26 = .ok (.iload_n 2, 1) := by decide +kernel
theorem dX1_weigh_27 : decode cX1_weigh 27 = .ok (.iload_n 1, 1) := by decide +kernel
theorem dX1_weigh_28 : decode cX1_weigh 28 = .ok (.if_icmp .eq 53, 3) := by decide +kernel
theorem dX1_weigh_31 : decode cX1_weigh 31 = .ok (.aload_n 0, 1) := by decide +kernel
theorem dX1_weigh_32 : decode cX1_weigh 32 = .ok (.dup, 1) := by decide +kernel
theorem dX1_weigh_33 : decode cX1_weigh 33 = .ok (.getfield 57, 3) := by decide +kernel
theorem dX1_weigh_36 : decode cX1_weigh 36 = .ok (.aload_n 0, 1) := by decide +kernel
theorem dX1_weigh_37 : decode cX1_weigh 37 = .ok (.getfield 11, 3) := by decide +kernel
theorem dX1_weigh_40 : decode cX1_weigh 40 = .ok (.iload_n 2, 1) := by decide +kernel
theorem dX1_weigh_41 : decode cX1_weigh 41 = .ok (.iaload, 1) := by decide +kernel
theorem dX1_weigh_42 : decode cX1_weigh 42 = .ok (.aload_n 0, 1) := by decide +kernel
theorem dX1_weigh_43 : decode cX1_weigh 43 = .ok (.getfield 11, 3) := by decide +kernel
theorem dX1_weigh_46 : decode cX1_weigh 46 = .ok (.iload_n 2, 1) := by decide +kernel
theorem dX1_weigh_47 : decode cX1_weigh 47 = .ok (.iaload, 1) := by decide +kernel
theorem dX1_weigh_48 : decode cX1_weigh 48 = .ok (.imul, 1) := by decide +kernel
theorem dX1_weigh_49 : decode cX1_weigh 49 = .ok (.iadd, 1) := by decide +kernel
theorem dX1_weigh_50 : decode cX1_weigh 50 = .ok (.putfield 57, 3) := by decide +kernel
theorem dX1_weigh_53 : decode cX1_weigh 53 = .ok (.aload_n 0, 1) := by decide +kernel
theorem dX1_weigh_54 : decode cX1_weigh 54 = .ok (.getfield 11, 3) := by decide +kernel
theorem dX1_weigh_57 : decode cX1_weigh 57 = .ok (.iload_n 2, 1) := by decide +kernel
theorem dX1_weigh_58 : decode cX1_weigh 58 = .ok (.iaload, 1) := by decide +kernel
theorem dX1_weigh_59 : decode cX1_weigh 59 = .ok (.aload_n 0, 1) := by decide +kernel
theorem dX1_weigh_60 : decode cX1_weigh 60 = .ok (.getfield 50, 3) := by decide +kernel
theorem dX1_weigh_63 : decode cX1_weigh 63 = .ok (.if_icmp .le 18, 3) := by decide +kernel
theorem dX1_weigh_66 : decode cX1_weigh 66 = .ok (.aload_n 0, 1) := by decide +kernel
theorem dX1_weigh_67 : decode cX1_weigh 67 = .ok (.aload_n 0, 1) := by decide +kernel
theorem dX1_weigh_68 : decode cX1_weigh 68 = .ok (.getfield 11, 3) := by decide +kernel
theorem dX1_weigh_71 : decode cX1_weigh 71 = .ok (.iload_n 2, 1) := by decide +kernel
theorem dX1_weigh_72 : decode cX1_weigh 72 = .ok (.iaload, 1) := by decide +kernel
theorem dX1_weigh_73 : decode cX1_weigh 73 = .ok (.putfield 50, 3) := by decide +kernel
theorem dX1_weigh_76 : decode cX1_weigh 76 = .ok (.aload_n 0, 1) := by decide +kernel
theorem dX1_weigh_77 : decode cX1_weigh 77 = .ok (.iload_n 2, 1) := by decide +kernel
theorem dX1_weigh_78 : decode cX1_weigh 78 = .ok (.putfield 54, 3) := by decide +kernel
theorem dX1_weigh_81 : decode cX1_weigh 81 = .ok (.iinc 2 1, 3) := by decide +kernel
theorem dX1_weigh_84 : decode cX1_weigh 84 = .ok (.goto (-67), 3) := by decide +kernel
theorem dX1_weigh_87 : decode cX1_weigh 87 = .ok (.return_, 1) := by decide +kernel
theorem dX1_bestMeeting_0 : decode cX1_bestMeeting 0 = .ok (.aload_n 0, 1) := by decide +kernel
theorem dX1_bestMeeting_1 : decode cX1_bestMeeting 1 = .ok (.getfield 50, 3) := by decide +kernel
theorem dX1_bestMeeting_4 : decode cX1_bestMeeting 4 = .ok (.ireturn, 1) := by decide +kernel
theorem dX1_bestDx_0 : decode cX1_bestDx 0 = .ok (.aload_n 0, 1) := by decide +kernel
theorem dX1_bestDx_1 : decode cX1_bestDx 1 = .ok (.getfield 54, 3) := by decide +kernel
theorem dX1_bestDx_4 : decode cX1_bestDx 4 = .ok (.bipush 25, 2) := by decide +kernel
theorem dX1_bestDx_6 : decode cX1_bestDx 6 = .ok (.idiv, 1) := by decide +kernel
theorem dX1_bestDx_7 : decode cX1_bestDx 7 = .ok (.bipush 12, 2) := by decide +kernel
theorem dX1_bestDx_9 : decode cX1_bestDx 9 = .ok (.isub, 1) := by decide +kernel
theorem dX1_bestDx_10 : decode cX1_bestDx 10 = .ok (.ireturn, 1) := by decide +kernel
theorem dX1_bestDy_0 : decode cX1_bestDy 0 = .ok (.aload_n 0, 1) := by decide +kernel
theorem dX1_bestDy_1 : decode cX1_bestDy 1 = .ok (.getfield 54, 3) := by decide +kernel
theorem dX1_bestDy_4 : decode cX1_bestDy 4 = .ok (.bipush 25, 2) := by decide +kernel
theorem dX1_bestDy_6 : decode cX1_bestDy 6 = .ok (.irem, 1) := by decide +kernel
theorem dX1_bestDy_7 : decode cX1_bestDy 7 = .ok (.bipush 12, 2) := by decide +kernel
theorem dX1_bestDy_9 : decode cX1_bestDy 9 = .ok (.isub, 1) := by decide +kernel
theorem dX1_bestDy_10 : decode cX1_bestDy 10 = .ok (.ireturn, 1) := by decide +kernel
theorem dX1_sumOfSquares_0 : decode cX1_sumOfSquares 0 = .ok (.aload_n 0, 1) := by decide +kernel
theorem dX1_sumOfSquares_1 : decode cX1_sumOfSquares 1 = .ok (.getfield 57, 3) := by decide +kernel
theorem dX1_sumOfSquares_4 : decode cX1_sumOfSquares 4 = .ok (.ireturn, 1) := by decide +kernel
theorem dX2_init_0 : decode cX2_init 0 = .ok (.aload_n 0, 1) := by decide +kernel
theorem dX2_init_1 : decode cX2_init 1 = .ok (.invokespecial 3, 3) := by decide +kernel
theorem dX2_init_4 : decode cX2_init 4 = .ok (.aload_n 0, 1) := by decide +kernel
theorem dX2_init_5 : decode cX2_init 5 = .ok (.bipush 6, 2) := by decide +kernel
theorem dX2_init_7 : decode cX2_init 7 = .ok (.newarray .int, 2) := by decide +kernel
theorem dX2_init_9 : decode cX2_init 9 = .ok (.putfield 9, 3) := by decide +kernel
theorem dX2_init_12 : decode cX2_init 12 = .ok (.aload_n 0, 1) := by decide +kernel
theorem dX2_init_13 : decode cX2_init 13 = .ok (.iconst 1, 1) := by decide +kernel
theorem dX2_init_14 : decode cX2_init 14 = .ok (.putfield 15, 3) := by decide +kernel
theorem dX2_init_17 : decode cX2_init 17 = .ok (.return_, 1) := by decide +kernel
theorem dX2_withQuarrels_0 : decode cX2_withQuarrels 0 = .ok (.iload_n 1, 1) := by decide +kernel
theorem dX2_withQuarrels_1 : decode cX2_withQuarrels 1 = .ok (.iconst 1, 1) := by decide +kernel
theorem dX2_withQuarrels_2 : decode cX2_withQuarrels 2 = .ok (.bipush 6, 2) := by decide +kernel
theorem dX2_withQuarrels_4 : decode cX2_withQuarrels 4 = .ok (.invokestatic 19, 3) := by decide +kernel
theorem dX2_withQuarrels_7 : decode cX2_withQuarrels 7 = .ok (.ifCond .ne 5, 3) := by decide +kernel
theorem dX2_withQuarrels_10 : decode cX2_withQuarrels 10 = .ok (.iconst 0, 1) := by decide +kernel
theorem dX2_withQuarrels_11 : decode cX2_withQuarrels 11 = .ok (.ireturn, 1) := by decide +kernel
theorem dX2_withQuarrels_12 : decode cX2_withQuarrels 12 = .ok (.aload_n 0, 1) := by decide +kernel
theorem dX2_withQuarrels_13 : decode cX2_withQuarrels 13 = .ok (.iload_n 1, 1) := by decide +kernel
theorem dX2_withQuarrels_14 : decode cX2_withQuarrels 14 = .ok (.putfield 15, 3) := by decide +kernel
theorem dX2_withQuarrels_17 : decode cX2_withQuarrels 17 = .ok (.aload_n 0, 1) := by decide +kernel
theorem dX2_withQuarrels_18 : decode cX2_withQuarrels 18 = .ok (.iconst 0, 1) := by decide +kernel
theorem dX2_withQuarrels_19 : decode cX2_withQuarrels 19 = .ok (.iconst 0, 1) := by decide +kernel
theorem dX2_withQuarrels_20 : decode cX2_withQuarrels 20 = .ok (.iload_n 2, 1) := by decide +kernel
theorem dX2_withQuarrels_21 : decode cX2_withQuarrels 21 = .ok (.invokevirtual 23, 3) := by decide +kernel
theorem dX2_withQuarrels_24 : decode cX2_withQuarrels 24 = .ok (.ireturn, 1) := by decide +kernel
theorem dX2_countFrom_0 : decode cX2_countFrom 0 = .ok (.iload_n 1, 1) := by decide +kernel
theorem dX2_countFrom_1 : decode cX2_countFrom 1 = .ok (.aload_n 0, 1) := by decide +kernel
theorem dX2_countFrom_2 : decode cX2_countFrom 2 = .ok (.getfield 15, 3) := by decide +kernel
theorem dX2_countFrom_5 : decode cX2_countFrom 5 = .ok (.if_icmp .ge 9, 3) := by decide +kernel
theorem dX2_countFrom_8 : decode cX2_countFrom 8 = .ok (.iload_n 1, 1) := by decide +kernel
theorem dX2_countFrom_9 : decode cX2_countFrom 9 = .ok (.bipush 6, 2) := by decide +kernel
theorem dX2_countFrom_11 : decode cX2_countFrom 11 = .ok (.if_icmp .lt 13, 3) := by decide +kernel
theorem dX2_countFrom_14 : decode cX2_countFrom 14 = .ok (.iload_n 3, 1) := by decide +kernel
theorem dX2_countFrom_15 : decode cX2_countFrom 15 = .ok (.ifCond .ne 7, 3) := by decide +kernel
theorem dX2_countFrom_18 : decode cX2_countFrom 18 = .ok (.iconst 1, 1) := by decide +kernel
theorem dX2_countFrom_19 : decode cX2_countFrom 19 = .ok (.goto 4, 3) := by decide +kernel
theorem dX2_countFrom_22 : decode cX2_countFrom 22 = .ok (.iconst 0, 1) := by decide +kernel
theorem dX2_countFrom_23 : decode cX2_countFrom 23 = .ok (.ireturn, 1) := by decide +kernel
theorem dX2_countFrom_24 : decode cX2_countFrom 24 = .ok (.iconst 0, 1) := by decide +kernel
theorem dX2_countFrom_25 : decode cX2_countFrom 25 = .ok (.istore 4, 2) := by decide +kernel
theorem dX2_countFrom_27 : decode cX2_countFrom 27 = .ok (.iconst 0, 1) := by decide +kernel
theorem dX2_countFrom_28 : decode cX2_countFrom 28 = .ok (.istore 5, 2) := by decide +kernel
theorem dX2_countFrom_30 : decode cX2_countFrom 30 = .ok (.iload 5, 2) := by decide +kernel
theorem dX2_countFrom_32 : decode cX2_countFrom 32 = .ok (.aload_n 0, 1) := by decide +kernel
theorem dX2_countFrom_33 : decode cX2_countFrom 33 = .ok (.getfield 15, 3) := by decide +kernel
theorem dX2_countFrom_36 : decode cX2_countFrom 36 = .ok (.if_icmp .ge 60, 3) := by decide +kernel
theorem dX2_countFrom_39 : decode cX2_countFrom 39 = .ok (.iload_n 2, 1) := by decide +kernel
theorem dX2_countFrom_40 : decode cX2_countFrom 40 = .ok (.iload 5, 2) := by decide +kernel
theorem dX2_countFrom_42 : decode cX2_countFrom 42 = .ok (.ishr, 1) := by decide +kernel
theorem dX2_countFrom_43 : decode cX2_countFrom 43 = .ok (.iconst 1, 1) := by decide +kernel
theorem dX2_countFrom_44 : decode cX2_countFrom 44 = .ok (.iand, 1) := by decide +kernel
theorem dX2_countFrom_45 : decode cX2_countFrom 45 = .ok (.ifCond .ne 45, 3) := by decide +kernel
theorem dX2_countFrom_48 : decode cX2_countFrom 48 = .ok (.aload_n 0, 1) := by decide +kernel
theorem dX2_countFrom_49 : decode cX2_countFrom 49 = .ok (.getfield 9, 3) := by decide +kernel
theorem dX2_countFrom_52 : decode cX2_countFrom 52 = .ok (.iload_n 1, 1) := by decide +kernel
theorem dX2_countFrom_53 : decode cX2_countFrom 53 = .ok (.iload 5, 2) := by decide +kernel
theorem dX2_countFrom_55 : decode cX2_countFrom 55 = .ok (.iastore, 1) := by decide +kernel
theorem dX2_countFrom_56 : decode cX2_countFrom 56 = .ok (.iload_n 3, 1) := by decide +kernel
theorem dX2_countFrom_57 : decode cX2_countFrom 57 = .ok (.aload_n 0, 1) := by decide +kernel
theorem dX2_countFrom_58 : decode cX2_countFrom 58 = .ok (.iload_n 1, 1) := by decide +kernel
theorem dX2_countFrom_59 : decode cX2_countFrom 59 = .ok (.invokevirtual 27, 3) := by decide +kernel
theorem dX2_countFrom_62 : decode cX2_countFrom 62 = .ok (.isub, 1) := by decide +kernel
theorem dX2_countFrom_63 : decode cX2_countFrom 63 = .ok (.istore 6, 2) := by decide +kernel
theorem dX2_countFrom_65 : decode cX2_countFrom 65 = .ok (.iload 6, 2) := by decide +kernel
theorem dX2_countFrom_67 : decode cX2_countFrom 67 = .ok (.ifCond .lt 23, 3) := by decide +kernel
theorem dX2_countFrom_70 : decode cX2_countFrom 70 = .ok (.iload 4, 2) := by decide +kernel
theorem dX2_countFrom_72 : decode cX2_countFrom 72 = .ok (.aload_n 0, 1) := by decide +kernel
theorem dX2_countFrom_73 : decode cX2_countFrom 73 = .ok (.iload_n 1, 1) := by decide +kernel
theorem dX2_countFrom_74 : decode cX2_countFrom 74 = .ok (.iconst 1, 1) := by decide +kernel
theorem dX2_countFrom_75 : decode cX2_countFrom 75 = .ok (.iadd, 1) := by decide +kernel
theorem dX2_countFrom_76 : decode cX2_countFrom 76 = .ok (.iload_n 2, 1) := by decide +kernel
theorem dX2_countFrom_77 : decode cX2_countFrom 77 = .ok (.iconst 1, 1) := by decide +kernel
theorem dX2_countFrom_78 : decode cX2_countFrom 78 = .ok (.iload 5, 2) := by decide +kernel
theorem dX2_countFrom_80 : decode cX2_countFrom 80 = .ok (.ishl, 1) := by decide +kernel
theorem dX2_countFrom_81 : decode cX2_countFrom 81 = .ok (.ior, 1) := by decide +kernel
theorem dX2_countFrom_82 : decode cX2_countFrom 82 = .ok (.iload 6, 2) := by decide +kernel
theorem dX2_countFrom_84 : decode cX2_countFrom 84 = .ok (.invokevirtual 23, 3) := by decide +kernel
theorem dX2_countFrom_87 : decode cX2_countFrom 87 = .ok (.iadd, 1) := by decide +kernel
theorem dX2_countFrom_88 : decode cX2_countFrom 88 = .ok (.istore 4, 2) := by decide +kernel
theorem dX2_countFrom_90 : decode cX2_countFrom 90 = .ok (.iinc 5 1, 3) := by decide +kernel
theorem dX2_countFrom_93 : decode cX2_countFrom 93 = .ok (.goto (-63), 3) := by decide +kernel
theorem dX2_countFrom_96 : decode cX2_countFrom 96 = .ok (.iload 4, 2) := by decide +kernel
theorem dX2_countFrom_98 : decode cX2_countFrom 98 = .ok (.ireturn, 1) := by decide +kernel
theorem dX2_newQuarrels_0 : decode cX2_newQuarrels 0 = .ok (.iconst 0, 1) := by decide +kernel
theorem dX2_newQuarrels_1 : decode cX2_newQuarrels 1 = .ok (.istore_n 2, 1) := by decide +kernel
theorem dX2_newQuarrels_2 : decode cX2_newQuarrels 2 = .ok (.iconst 1, 1) := by decide +kernel
theorem dX2_newQuarrels_3 : decode cX2_newQuarrels 3 = .ok (.istore_n 3, 1) := by decide +kernel
theorem dX2_newQuarrels_4 : decode cX2_newQuarrels 4 = .ok (.iload_n 3, 1) := by decide +kernel
theorem dX2_newQuarrels_5 : decode cX2_newQuarrels 5 = .ok (.iload_n 1, 1) := by decide +kernel
theorem dX2_newQuarrels_6 : decode cX2_newQuarrels 6 = .ok (.if_icmp .ge 68, 3) := by decide +kernel
theorem dX2_newQuarrels_9 : decode cX2_newQuarrels 9 = .ok (.aload_n 0, 1) := by decide +kernel
theorem dX2_newQuarrels_10 : decode cX2_newQuarrels 10 = .ok (.getfield 9, 3) := by decide +kernel
theorem dX2_newQuarrels_13 : decode cX2_newQuarrels 13 = .ok (.iload_n 1, 1) := by decide +kernel
theorem dX2_newQuarrels_14 : decode cX2_newQuarrels 14 = .ok (.iaload, 1) := by decide +kernel
theorem dX2_newQuarrels_15 : decode cX2_newQuarrels 15 = .ok (.aload_n 0, 1) := by decide +kernel
theorem dX2_newQuarrels_16 : decode cX2_newQuarrels 16 = .ok (.getfield 9, 3) := by decide +kernel
theorem dX2_newQuarrels_19 : decode cX2_newQuarrels 19 = .ok (.iload_n 1, 1) := by decide +kernel
theorem dX2_newQuarrels_20 : decode cX2_newQuarrels 20 = .ok (.iload_n 3, 1) := by decide +kernel
theorem dX2_newQuarrels_21 : decode cX2_newQuarrels 21 = .ok (.isub, 1) := by decide +kernel
theorem dX2_newQuarrels_22 : decode cX2_newQuarrels 22 = .ok (.iaload, 1) := by decide +kernel
theorem dX2_newQuarrels_23 : decode cX2_newQuarrels 23 = .ok (.isub, 1) := by decide +kernel
theorem dX2_newQuarrels_24 : decode cX2_newQuarrels 24 = .ok (.istore 4, 2) := by decide +kernel
theorem dX2_newQuarrels_26 : decode cX2_newQuarrels 26 = .ok (.iconst 0, 1) := by decide +kernel
theorem dX2_newQuarrels_27 : decode cX2_newQuarrels 27 = .ok (.istore 5, 2) := by decide +kernel
theorem dX2_newQuarrels_29 : decode cX2_newQuarrels 29 = .ok (.iload 5, 2) := by decide +kernel
theorem dX2_newQuarrels_31 : decode cX2_newQuarrels 31 = .ok (.iload_n 1, 1) := by decide +kernel
theorem dX2_newQuarrels_32 : decode cX2_newQuarrels 32 = .ok (.iload_n 3, 1) := by decide +kernel
theorem dX2_newQuarrels_33 : decode cX2_newQuarrels 33 = .ok (.isub, 1) := by decide +kernel
theorem dX2_newQuarrels_34 : decode cX2_newQuarrels 34 = .ok (.if_icmp .ge 34, 3) := by decide +kernel
theorem dX2_newQuarrels_37 : decode cX2_newQuarrels 37 = .ok (.aload_n 0, 1) := by decide +kernel
theorem dX2_newQuarrels_38 : decode cX2_newQuarrels 38 = .ok (.getfield 9, 3) := by decide +kernel
theorem dX2_newQuarrels_41 : decode cX2_newQuarrels 41 = .ok (.iload 5, 2) := by decide +kernel
theorem dX2_newQuarrels_43 : decode cX2_newQuarrels 43 = .ok (.iload_n 3, 1) := by decide +kernel
theorem dX2_newQuarrels_44 : decode cX2_newQuarrels 44 = .ok (.iadd, 1) := by decide +kernel
theorem dX2_newQuarrels_45 : decode cX2_newQuarrels 45 = .ok (.iaload, 1) := by decide +kernel
theorem dX2_newQuarrels_46 : decode cX2_newQuarrels 46 = .ok (.aload_n 0, 1) := by decide +kernel
theorem dX2_newQuarrels_47 : decode cX2_newQuarrels 47 = .ok (.getfield 9, 3) := by decide +kernel
theorem dX2_newQuarrels_50 : decode cX2_newQuarrels 50 = .ok (.iload 5, 2) := by decide +kernel
theorem dX2_newQuarrels_52 : decode cX2_newQuarrels 52 = .ok (.iaload, 1) := by decide +kernel
theorem dX2_newQuarrels_53 : decode cX2_newQuarrels 53 = .ok (.isub, 1) := by decide +kernel
theorem dX2_newQuarrels_54 : decode cX2_newQuarrels 54 = .ok (.iload 4, 2) := by decide +kernel
theorem dX2_newQuarrels_56 : decode cX2_newQuarrels 56 = .ok (.if_icmp .ne 6, 3) := by decide +kernel
theorem dX2_newQuarrels_59 : decode cX2_newQuarrels 59 = .ok (.iinc 2 1, 3) := by decide +kernel
theorem dX2_newQuarrels_62 : decode cX2_newQuarrels 62 = .ok (.iinc 5 1, 3) := by decide +kernel
theorem dX2_newQuarrels_65 : decode cX2_newQuarrels 65 = .ok (.goto (-36), 3) := by decide +kernel
theorem dX2_newQuarrels_68 : decode cX2_newQuarrels 68 = .ok (.iinc 3 1, 3) := by decide +kernel
theorem dX2_newQuarrels_71 : decode cX2_newQuarrels 71 = .ok (.goto (-67), 3) := by decide +kernel
theorem dX2_newQuarrels_74 : decode cX2_newQuarrels 74 = .ok (.iload_n 2, 1) := by decide +kernel
theorem dX2_newQuarrels_75 : decode cX2_newQuarrels 75 = .ok (.ireturn, 1) := by decide +kernel
theorem dX3_init_0 : decode cX3_init 0 = .ok (.aload_n 0, 1) := by decide +kernel
theorem dX3_init_1 : decode cX3_init 1 = .ok (.invokespecial 3, 3) := by decide +kernel
theorem dX3_init_4 : decode cX3_init 4 = .ok (.aload_n 0, 1) := by decide +kernel
theorem dX3_init_5 : decode cX3_init 5 = .ok (.iconst 1, 1) := by decide +kernel
theorem dX3_init_6 : decode cX3_init 6 = .ok (.putfield 9, 3) := by decide +kernel
theorem dX3_init_9 : decode cX3_init 9 = .ok (.aload_n 0, 1) := by decide +kernel
theorem dX3_init_10 : decode cX3_init 10 = .ok (.iconst 1, 1) := by decide +kernel
theorem dX3_init_11 : decode cX3_init 11 = .ok (.putfield 15, 3) := by decide +kernel
theorem dX3_init_14 : decode cX3_init 14 = .ok (.aload_n 0, 1) := by decide +kernel
theorem dX3_init_15 : decode cX3_init 15 = .ok (.bipush 12, 2) := by decide +kernel
theorem dX3_init_17 : decode cX3_init 17 = .ok (.newarray .int, 2) := by decide +kernel
theorem dX3_init_19 : decode cX3_init 19 = .ok (.putfield 18, 3) := by decide +kernel
theorem dX3_init_22 : decode cX3_init 22 = .ok (.return_, 1) := by decide +kernel
theorem dX3_columns_0 : decode cX3_columns 0 = .ok (.aload_n 0, 1) := by decide +kernel
theorem dX3_columns_1 : decode cX3_columns 1 = .ok (.getfield 9, 3) := by decide +kernel
theorem dX3_columns_4 : decode cX3_columns 4 = .ok (.ireturn, 1) := by decide +kernel
theorem dX3_lines_0 : decode cX3_lines 0 = .ok (.aload_n 0, 1) := by decide +kernel
theorem dX3_lines_1 : decode cX3_lines 1 = .ok (.getfield 15, 3) := by decide +kernel
theorem dX3_lines_4 : decode cX3_lines 4 = .ok (.ireturn, 1) := by decide +kernel
theorem dX3_shape_0 : decode cX3_shape 0 = .ok (.iload_n 1, 1) := by decide +kernel
theorem dX3_shape_1 : decode cX3_shape 1 = .ok (.iconst 1, 1) := by decide +kernel
theorem dX3_shape_2 : decode cX3_shape 2 = .ok (.bipush 12, 2) := by decide +kernel
theorem dX3_shape_4 : decode cX3_shape 4 = .ok (.invokestatic 22, 3) := by decide +kernel
theorem dX3_shape_7 : decode cX3_shape 7 = .ok (.ifCond .eq 13, 3) := by decide +kernel
theorem dX3_shape_10 : decode cX3_shape 10 = .ok (.iload_n 2, 1) := by decide +kernel
theorem dX3_shape_11 : decode cX3_shape 11 = .ok (.iconst 1, 1) := by decide +kernel
theorem dX3_shape_12 : decode cX3_shape 12 = .ok (.bipush 12, 2) := by decide +kernel
theorem dX3_shape_14 : decode cX3_shape 14 = .ok (.invokestatic 22, 3) := by decide +kernel
theorem dX3_shape_17 : decode cX3_shape 17 = .ok (.ifCond .ne 4, 3) := by decide +kernel
theorem dX3_shape_20 : decode cX3_shape 20 = .ok (.return_, 1) := by decide +kernel
theorem dX3_shape_21 : decode cX3_shape 21 = .ok (.aload_n 0, 1) := by decide +kernel
theorem dX3_shape_22 : decode cX3_shape 22 = .ok (.iload_n 1, 1) := by decide +kernel
theorem dX3_shape_23 : decode cX3_shape 23 = .ok (.putfield 9, 3) := by decide +kernel
theorem dX3_shape_26 : decode cX3_shape 26 = .ok (.aload_n 0, 1) := by decide +kernel
theorem dX3_shape_27 : decode cX3_shape 27 = .ok (.iload_n 2, 1) := by decide +kernel
theorem dX3_shape_28 : decode cX3_shape 28 = .ok (.putfield 15, 3) := by decide +kernel
theorem dX3_shape_31 : decode cX3_shape 31 = .ok (.aload_n 0, 1) := by decide +kernel
theorem dX3_shape_32 : decode cX3_shape 32 = .ok (.getfield 18, 3) := by decide +kernel
theorem dX3_shape_35 : decode cX3_shape 35 = .ok (.bipush 15, 2) := by decide +kernel
theorem dX3_shape_37 : decode cX3_shape 37 = .ok (.invokestatic 26, 3) := by decide +kernel
theorem dX3_shape_40 : decode cX3_shape 40 = .ok (.return_, 1) := by decide +kernel
theorem dX3_put_0 : decode cX3_put 0 = .ok (.iload_n 1, 1) := by decide +kernel
theorem dX3_put_1 : decode cX3_put 1 = .ok (.iconst 0, 1) := by decide +kernel
theorem dX3_put_2 : decode cX3_put 2 = .ok (.aload_n 0, 1) := by decide +kernel
theorem dX3_put_3 : decode cX3_put 3 = .ok (.getfield 9, 3) := by decide +kernel
theorem dX3_put_6 : decode cX3_put 6 = .ok (.iconst 1, 1) := by decide +kernel
theorem dX3_put_7 : decode cX3_put 7 = .ok (.isub, 1) := by decide +kernel
theorem dX3_put_8 : decode cX3_put 8 = .ok (.invokestatic 22, 3) := by decide +kernel
theorem dX3_put_11 : decode cX3_put 11 = .ok (.ifCond .eq 29, 3) := by decide +kernel
theorem dX3_put_14 : decode cX3_put 14 = .ok (.aload_n 0, 1) := by decide +kernel
theorem dX3_put_15 : decode cX3_put 15 = .ok (.getfield 18, 3) := by decide +kernel
theorem dX3_put_18 : decode cX3_put 18 = .ok (.iload_n 1, 1) := by decide +kernel
theorem dX3_put_19 : decode cX3_put 19 = .ok (.iload_n 2, 1) := by decide +kernel
theorem dX3_put_20 : decode cX3_put 20 = .ok (.iconst 0, 1) := by decide +kernel
theorem dX3_put_21 : decode cX3_put 21 = .ok (.aload_n 0, 1) := by decide +kernel
theorem dX3_put_22 : decode cX3_put 22 = .ok (.getfield 15, 3) := by decide +kernel
theorem dX3_put_25 : decode cX3_put 25 = .ok (.iconst 1, 1) := by decide +kernel
theorem dX3_put_26 : decode cX3_put 26 = .ok (.isub, 1) := by decide +kernel
theorem dX3_put_27 : decode cX3_put 27 = .ok (.invokestatic 22, 3) := by decide +kernel
theorem dX3_put_30 : decode cX3_put 30 = .ok (.ifCond .eq 7, 3) := by decide +kernel
theorem dX3_put_33 : decode cX3_put 33 = .ok (.iload_n 2, 1) := by decide +kernel
theorem dX3_put_34 : decode cX3_put 34 = .ok (.goto 5, 3) := by decide +kernel
theorem dX3_put_37 : decode cX3_put 37 = .ok (.bipush 15, 2) := by decide +kernel
theorem dX3_put_39 : decode cX3_put 39 = .ok (.iastore, 1) := by decide +kernel
theorem dX3_put_40 : decode cX3_put 40 = .ok (.return_, 1) := by decide +kernel
theorem dX3_lineAt_0 : decode cX3_lineAt 0 = .ok (.iload_n 1, 1) := by decide +kernel
theorem dX3_lineAt_1 : decode cX3_lineAt 1 = .ok (.iconst 0, 1) := by decide +kernel
theorem dX3_lineAt_2 : decode cX3_lineAt 2 = .ok (.aload_n 0, 1) := by decide +kernel
theorem dX3_lineAt_3 : decode cX3_lineAt 3 = .ok (.getfield 9, 3) := by decide +kernel
theorem dX3_lineAt_6 : decode cX3_lineAt 6 = .ok (.iconst 1, 1) := by decide +kernel
theorem dX3_lineAt_7 : decode cX3_lineAt 7 = .ok (.isub, 1) := by decide +kernel
theorem dX3_lineAt_8 : decode cX3_lineAt 8 = .ok (.invokestatic 22, 3) := by decide +kernel
theorem dX3_lineAt_11 : decode cX3_lineAt 11 = .ok (.ifCond .eq 12, 3) := by decide +kernel
theorem dX3_lineAt_14 : decode cX3_lineAt 14 = .ok (.aload_n 0, 1) := by decide +kernel
theorem dX3_lineAt_15 : decode cX3_lineAt 15 = .ok (.getfield 18, 3) := by decide +kernel
theorem dX3_lineAt_18 : decode cX3_lineAt 18 = .ok (.iload_n 1, 1) := by decide +kernel
theorem dX3_lineAt_19 : decode cX3_lineAt 19 = .ok (.iaload, 1) := by decide +kernel
theorem dX3_lineAt_20 : decode cX3_lineAt 20 = .ok (.goto 5, 3) := by decide +kernel
theorem dX3_lineAt_23 : decode cX3_lineAt 23 = .ok (.bipush 15, 2) := by decide +kernel
theorem dX3_lineAt_25 : decode cX3_lineAt 25 = .ok (.ireturn, 1) := by decide +kernel
theorem dX3_markedAt_0 : decode cX3_markedAt 0 = .ok (.aload_n 0, 1) := by decide +kernel
theorem dX3_markedAt_1 : decode cX3_markedAt 1 = .ok (.iload_n 1, 1) := by decide +kernel
theorem dX3_markedAt_2 : decode cX3_markedAt 2 = .ok (.invokevirtual 32, 3) := by decide +kernel
theorem dX3_markedAt_5 : decode cX3_markedAt 5 = .ok (.bipush 15, 2) := by decide +kernel
theorem dX3_markedAt_7 : decode cX3_markedAt 7 = .ok (.if_icmp .eq 7, 3) := by decide +kernel
theorem dX3_markedAt_10 : decode cX3_markedAt 10 = .ok (.iconst 1, 1) := by decide +kernel
theorem dX3_markedAt_11 : decode cX3_markedAt 11 = .ok (.goto 4, 3) := by decide +kernel
theorem dX3_markedAt_14 : decode cX3_markedAt 14 = .ok (.iconst 0, 1) := by decide +kernel
theorem dX3_markedAt_15 : decode cX3_markedAt 15 = .ok (.ireturn, 1) := by decide +kernel
theorem dX3_hasMark_0 : decode cX3_hasMark 0 = .ok (.iload_n 2, 1) := by decide +kernel
theorem dX3_hasMark_1 : decode cX3_hasMark 1 = .ok (.bipush 15, 2) := by decide +kernel
theorem dX3_hasMark_3 : decode cX3_hasMark 3 = .ok (.if_icmp .eq 16, 3) := by decide +kernel
theorem dX3_hasMark_6 : decode cX3_hasMark 6 = .ok (.aload_n 0, 1) := by decide +kernel
theorem dX3_hasMark_7 : decode cX3_hasMark 7 = .ok (.iload_n 1, 1) := by decide +kernel
theorem dX3_hasMark_8 : decode cX3_hasMark 8 = .ok (.invokevirtual 32, 3) := by decide +kernel
theorem dX3_hasMark_11 : decode cX3_hasMark 11 = .ok (.iload_n 2, 1) := by decide +kernel
theorem dX3_hasMark_12 : decode cX3_hasMark 12 = .ok (.if_icmp .ne 7, 3) := by decide +kernel
theorem dX3_hasMark_15 : decode cX3_hasMark 15 = .ok (.iconst 1, 1) := by decide +kernel
theorem dX3_hasMark_16 : decode cX3_hasMark 16 = .ok (.goto 4, 3) := by decide +kernel
theorem dX3_hasMark_19 : decode cX3_hasMark 19 = .ok (.iconst 0, 1) := by decide +kernel
theorem dX3_hasMark_20 : decode cX3_hasMark 20 = .ok (.ireturn, 1) := by decide +kernel
theorem dX3_step_0 : decode cX3_step 0 = .ok (.aload_n 0, 1) := by decide +kernel
theorem dX3_step_1 : decode cX3_step 1 = .ok (.iload_n 2, 1) := by decide +kernel
theorem dX3_step_2 : decode cX3_step 2 = .ok (.invokevirtual 32, 3) := by decide +kernel
theorem dX3_step_5 : decode cX3_step 5 = .ok (.aload_n 0, 1) := by decide +kernel
theorem dX3_step_6 : decode cX3_step 6 = .ok (.iload_n 1, 1) := by decide +kernel
theorem dX3_step_7 : decode cX3_step 7 = .ok (.invokevirtual 32, 3) := by decide +kernel
theorem dX3_step_10 : decode cX3_step 10 = .ok (.isub, 1) := by decide +kernel
theorem dX3_step_11 : decode cX3_step 11 = .ok (.istore 4, 2) := by decide +kernel
theorem dX3_step_13 : decode cX3_step 13 = .ok (.iload_n 3, 1) := by decide +kernel
theorem dX3_step_14 : decode cX3_step 14 = .ok (.ifCond .ne 8, 3) := by decide +kernel
theorem dX3_step_17 : decode cX3_step 17 = .ok (.iload 4, 2) := by decide +kernel
theorem dX3_step_19 : decode cX3_step 19 = .ok (.goto 12, 3) := by decide +kernel
theorem dX3_step_22 : decode cX3_step 22 = .ok (.iload 4, 2) := by decide +kernel
theorem dX3_step_24 : decode cX3_step 24 = .ok (.aload_n 0, 1) := by decide +kernel
theorem dX3_step_25 : decode cX3_step 25 = .ok (.getfield 15, 3) := by decide +kernel
theorem dX3_step_28 : decode cX3_step 28 = .ok (.invokestatic 36, 3) := by decide +kernel
theorem dX3_step_31 : decode cX3_step 31 = .ok (.ireturn, 1) := by decide +kernel
theorem dX3_markCount_0 : decode cX3_markCount 0 = .ok (.iconst 0, 1) := by decide +kernel
theorem dX3_markCount_1 : decode cX3_markCount 1 = .ok (.istore_n 1, 1) := by decide +kernel
theorem dX3_markCount_2 : decode cX3_markCount 2 = .ok (.iconst 0, 1) := by decide +kernel
theorem dX3_markCount_3 : decode cX3_markCount 3 = .ok (.istore_n 2, 1) := by decide +kernel
theorem dX3_markCount_4 : decode cX3_markCount 4 = .ok (.iload_n 2, 1) := by decide +kernel
theorem dX3_markCount_5 : decode cX3_markCount 5 = .ok (.aload_n 0, 1) := by decide +kernel
theorem dX3_markCount_6 : decode cX3_markCount 6 = .ok (.getfield 9, 3) := by decide +kernel
theorem dX3_markCount_9 : decode cX3_markCount 9 = .ok (.if_icmp .ge 20, 3) := by decide +kernel
theorem dX3_markCount_12 : decode cX3_markCount 12 = .ok (.aload_n 0, 1) := by decide +kernel
theorem dX3_markCount_13 : decode cX3_markCount 13 = .ok (.iload_n 2, 1) := by decide +kernel
theorem dX3_markCount_14 : decode cX3_markCount 14 = .ok (.invokevirtual 40, 3) := by decide +kernel
theorem dX3_markCount_17 : decode cX3_markCount 17 = .ok (.ifCond .eq 6, 3) := by decide +kernel
theorem dX3_markCount_20 : decode cX3_markCount 20 = .ok (.iinc 1 1, 3) := by decide +kernel
theorem dX3_markCount_23 : decode cX3_markCount 23 = .ok (.iinc 2 1, 3) := by decide +kernel
theorem dX3_markCount_26 : decode cX3_markCount 26 = .ok (.goto (-22), 3) := by decide +kernel
theorem dX3_markCount_29 : decode cX3_markCount 29 = .ok (.iload_n 1, 1) := by decide +kernel
theorem dX3_markCount_30 : decode cX3_markCount 30 = .ok (.ireturn, 1) := by decide +kernel
theorem dX3_packed_0 : decode cX3_packed 0 = .ok (.lconst 0, 1) := by decide +kernel
theorem dX3_packed_1 : decode cX3_packed 1 = .ok (.lstore_n 1, 1) := by decide +kernel
theorem dX3_packed_2 : decode cX3_packed 2 = .ok (.iconst 0, 1) := by decide +kernel
theorem dX3_packed_3 : decode cX3_packed 3 = .ok (.istore_n 3, 1) := by decide +kernel
theorem dX3_packed_4 : decode cX3_packed 4 = .ok (.iload_n 3, 1) := by decide +kernel
theorem dX3_packed_5 : decode cX3_packed 5 = .ok (.aload_n 0, 1) := by decide +kernel
theorem dX3_packed_6 : decode cX3_packed 6 = .ok (.getfield 9, 3) := by decide +kernel
theorem dX3_packed_9 : decode cX3_packed 9 = .ok (.if_icmp .ge 20, 3) := by decide +kernel
theorem dX3_packed_12 : decode cX3_packed 12 = .ok (.lload_n 1, 1) := by decide +kernel
theorem dX3_packed_13 : decode cX3_packed 13 = .ok (.iconst 4, 1) := by decide +kernel
theorem dX3_packed_14 : decode cX3_packed 14 = .ok (.lshl, 1) := by decide +kernel
theorem dX3_packed_15 : decode cX3_packed 15 = .ok (.aload_n 0, 1) := by decide +kernel
theorem dX3_packed_16 : decode cX3_packed 16 = .ok (.iload_n 3, 1) := by decide +kernel
theorem dX3_packed_17 : decode cX3_packed 17 = .ok (.invokevirtual 32, 3) := by decide +kernel
theorem dX3_packed_20 : decode cX3_packed 20 = .ok (.i2l, 1) := by decide +kernel
theorem dX3_packed_21 : decode cX3_packed 21 = .ok (.lor, 1) := by decide +kernel
theorem dX3_packed_22 : decode cX3_packed 22 = .ok (.lstore_n 1, 1) := by decide +kernel
theorem dX3_packed_23 : decode cX3_packed 23 = .ok (.iinc 3 1, 3) := by decide +kernel
theorem dX3_packed_26 : decode cX3_packed 26 = .ok (.goto (-22), 3) := by decide +kernel
theorem dX3_packed_29 : decode cX3_packed 29 = .ok (.lload_n 1, 1) := by decide +kernel
theorem dX3_packed_30 : decode cX3_packed 30 = .ok (.lreturn, 1) := by decide +kernel
theorem dX3_isSquare_0 : decode cX3_isSquare 0 = .ok (.iconst 0, 1) := by decide +kernel
theorem dX3_isSquare_1 : decode cX3_isSquare 1 = .ok (.istore_n 1, 1) := by decide +kernel
theorem dX3_isSquare_2 : decode cX3_isSquare 2 = .ok (.iconst 0, 1) := by decide +kernel
theorem dX3_isSquare_3 : decode cX3_isSquare 3 = .ok (.istore_n 2, 1) := by decide +kernel
theorem dX3_isSquare_4 : decode cX3_isSquare 4 = .ok (.iload_n 2, 1) := by decide +kernel
theorem dX3_isSquare_5 : decode cX3_isSquare 5 = .ok (.aload_n 0, 1) := by decide +kernel
theorem dX3_isSquare_6 : decode cX3_isSquare 6 = .ok (.getfield 9, 3) := by decide +kernel
theorem dX3_isSquare_9 : decode cX3_isSquare 9 = .ok (.if_icmp .ge 19, 3) := by decide +kernel
theorem dX3_isSquare_12 : decode cX3_isSquare 12 = .ok (.iload_n 1, 1) := by decide +kernel
theorem dX3_isSquare_13 : decode cX3_isSquare 13 = .ok (.iconst 1, 1) := by decide +kernel
theorem dX3_isSquare_14 : decode cX3_isSquare 14 = .ok (.aload_n 0, 1) := by decide +kernel
theorem dX3_isSquare_15 : decode cX3_isSquare 15 = .ok (.iload_n 2, 1) := by decide +kernel
theorem dX3_isSquare_16 : decode cX3_isSquare 16 = .ok (.invokevirtual 32, 3) := by decide +kernel
theorem dX3_isSquare_19 : decode cX3_isSquare 19 = .ok (.ishl, 1) := by decide +kernel
theorem dX3_isSquare_20 : decode cX3_isSquare 20 = .ok (.ior, 1) := by decide +kernel
theorem dX3_isSquare_21 : decode cX3_isSquare 21 = .ok (.istore_n 1, 1) := by decide +kernel
theorem dX3_isSquare_22 : decode cX3_isSquare 22 = .ok (.iinc 2 1, 3) := by decide +kernel
theorem dX3_isSquare_25 : decode cX3_isSquare 25 = .ok (.goto (-21), 3) := by decide +kernel
theorem dX3_isSquare_28 : decode cX3_isSquare 28 = .ok (.aload_n 0, 1) := by decide +kernel
theorem dX3_isSquare_29 : decode cX3_isSquare 29 = .ok (.getfield 9, 3) := by decide +kernel
theorem dX3_isSquare_32 : decode cX3_isSquare 32 = .ok (.aload_n 0, 1) := by decide +kernel
theorem dX3_isSquare_33 : decode cX3_isSquare 33 = .ok (.getfield 15, 3) := by decide +kernel
theorem dX3_isSquare_36 : decode cX3_isSquare 36 = .ok (.if_icmp .ne 19, 3) := by decide +kernel
theorem dX3_isSquare_39 : decode cX3_isSquare 39 = .ok (.iload_n 1, 1) := by decide +kernel
theorem dX3_isSquare_40 : decode cX3_isSquare 40 = .ok (.iconst 1, 1) := by decide +kernel
theorem dX3_isSquare_41 : decode cX3_isSquare 41 = .ok (.aload_n 0, 1) := by decide +kernel
theorem dX3_isSquare_42 : decode cX3_isSquare 42 = .ok (.getfield 9, 3) := by decide +kernel
theorem dX3_isSquare_45 : decode cX3_isSquare 45 = .ok (.ishl, 1) := by decide +kernel
theorem dX3_isSquare_46 : decode cX3_isSquare 46 = .ok (.iconst 1, 1) := by decide +kernel
theorem dX3_isSquare_47 : decode cX3_isSquare 47 = .ok (.isub, 1) := by decide +kernel
theorem dX3_isSquare_48 : decode cX3_isSquare 48 = .ok (.if_icmp .ne 7, 3) := by decide +kernel
theorem dX3_isSquare_51 : decode cX3_isSquare 51 = .ok (.iconst 1, 1) := by decide +kernel
theorem dX3_isSquare_52 : decode cX3_isSquare 52 = .ok (.goto 4, 3) := by decide +kernel
theorem dX3_isSquare_55 : decode cX3_isSquare 55 = .ok (.iconst 0, 1) := by decide +kernel
theorem dX3_isSquare_56 : decode cX3_isSquare 56 = .ok (.ireturn, 1) := by decide +kernel
theorem dX3_copyFrom_0 : decode cX3_copyFrom 0 = .ok (.aload_n 0, 1) := by decide +kernel
theorem dX3_copyFrom_1 : decode cX3_copyFrom 1 = .ok (.aload_n 1, 1) := by decide +kernel
theorem dX3_copyFrom_2 : decode cX3_copyFrom 2 = .ok (.getfield 9, 3) := by decide +kernel
theorem dX3_copyFrom_5 : decode cX3_copyFrom 5 = .ok (.aload_n 1, 1) := by decide +kernel
theorem dX3_copyFrom_6 : decode cX3_copyFrom 6 = .ok (.getfield 15, 3) := by decide +kernel
theorem dX3_copyFrom_9 : decode cX3_copyFrom 9 = .ok (.invokevirtual 44, 3) := by decide +kernel
theorem dX3_copyFrom_12 : decode cX3_copyFrom 12 = .ok (.iconst 0, 1) := by decide +kernel
theorem dX3_copyFrom_13 : decode cX3_copyFrom 13 = .ok (.istore_n 2, 1) := by decide +kernel
theorem dX3_copyFrom_14 : decode cX3_copyFrom 14 = .ok (.iload_n 2, 1) := by decide +kernel
theorem dX3_copyFrom_15 : decode cX3_copyFrom 15 = .ok (.aload_n 0, 1) := by decide +kernel
theorem dX3_copyFrom_16 : decode cX3_copyFrom 16 = .ok (.getfield 9, 3) := by decide +kernel
theorem dX3_copyFrom_19 : decode cX3_copyFrom 19 = .ok (.if_icmp .ge 19, 3) := by decide +kernel
theorem dX3_copyFrom_22 : decode cX3_copyFrom 22 = .ok (.aload_n 0, 1) := by decide +kernel
theorem dX3_copyFrom_23 : decode cX3_copyFrom 23 = .ok (.iload_n 2, 1) := by decide +kernel
theorem dX3_copyFrom_24 : decode cX3_copyFrom 24 = .ok (.aload_n 1, 1) := by decide +kernel
theorem dX3_copyFrom_25 : decode cX3_copyFrom 25 = .ok (.iload_n 2, 1) := by decide +kernel
theorem dX3_copyFrom_26 : decode cX3_copyFrom 26 = .ok (.invokevirtual 32, 3) := by decide +kernel
theorem dX3_copyFrom_29 : decode cX3_copyFrom 29 = .ok (.invokevirtual 48, 3) := by decide +kernel
theorem dX3_copyFrom_32 : decode cX3_copyFrom 32 = .ok (.iinc 2 1, 3) := by decide +kernel
theorem dX3_copyFrom_35 : decode cX3_copyFrom 35 = .ok (.goto (-21), 3) := by decide +kernel
theorem dX3_copyFrom_38 : decode cX3_copyFrom 38 = .ok (.return_, 1) := by decide +kernel
theorem dX4_init_0 : decode cX4_init 0 = .ok (.aload_n 0, 1) := by decide +kernel
theorem dX4_init_1 : decode cX4_init 1 = .ok (.invokespecial 3, 3) := by decide +kernel
theorem dX4_init_4 : decode cX4_init 4 = .ok (.aload_n 0, 1) := by decide +kernel
theorem dX4_init_5 : decode cX4_init 5 = .ok (.bipush 12, 2) := by decide +kernel
theorem dX4_init_7 : decode cX4_init 7 = .ok (.newarray .int, 2) := by decide +kernel
theorem dX4_init_9 : decode cX4_init 9 = .ok (.putfield 9, 3) := by decide +kernel
theorem dX4_init_12 : decode cX4_init 12 = .ok (.aload_n 0, 1) := by decide +kernel
theorem dX4_init_13 : decode cX4_init 13 = .ok (.bipush 12, 2) := by decide +kernel
theorem dX4_init_15 : decode cX4_init 15 = .ok (.newarray .int, 2) := by decide +kernel
theorem dX4_init_17 : decode cX4_init 17 = .ok (.putfield 15, 3) := by decide +kernel
theorem dX4_init_20 : decode cX4_init 20 = .ok (.aload_n 0, 1) := by decide +kernel
theorem dX4_init_21 : decode cX4_init 21 = .ok (.bipush 12, 2) := by decide +kernel
theorem dX4_init_23 : decode cX4_init 23 = .ok (.newarray .int, 2) := by decide +kernel
theorem dX4_init_25 : decode cX4_init 25 = .ok (.putfield 18, 3) := by decide +kernel
theorem dX4_init_28 : decode cX4_init 28 = .ok (.aload_n 0, 1) := by decide +kernel
theorem dX4_init_29 : decode cX4_init 29 = .ok (.iconst 1, 1) := by decide +kernel
theorem dX4_init_30 : decode cX4_init 30 = .ok (.putfield 21, 3) := by decide +kernel
theorem dX4_init_33 : decode cX4_init 33 = .ok (.aload_n 0, 1) := by decide +kernel
theorem dX4_init_34 : decode cX4_init 34 = .ok (.iconst 1, 1) := by decide +kernel
theorem dX4_init_35 : decode cX4_init 35 = .ok (.putfield 25, 3) := by decide +kernel
theorem dX4_init_38 : decode cX4_init 38 = .ok (.return_, 1) := by decide +kernel
theorem dX4_amongRows_0 : decode cX4_amongRows 0 = .ok (.iload_n 1, 1) := by decide +kernel
theorem dX4_amongRows_1 : decode cX4_amongRows 1 = .ok (.iconst 1, 1) := by decide +kernel
theorem dX4_amongRows_2 : decode cX4_amongRows 2 = .ok (.bipush 12, 2) := by decide +kernel
theorem dX4_amongRows_4 : decode cX4_amongRows 4 = .ok (.invokestatic 28, 3) := by decide +kernel
theorem dX4_amongRows_7 : decode cX4_amongRows 7 = .ok (.ifCond .eq 13, 3) := by decide +kernel
theorem dX4_amongRows_10 : decode cX4_amongRows 10 = .ok (.iload_n 2, 1) := by decide +kernel
theorem dX4_amongRows_11 : decode cX4_amongRows 11 = .ok (.iconst 1, 1) := by decide +kernel
theorem dX4_amongRows_12 : decode cX4_amongRows 12 = .ok (.bipush 12, 2) := by decide +kernel
theorem dX4_amongRows_14 : decode cX4_amongRows 14 = .ok (.invokestatic 28, 3) := by decide +kernel
theorem dX4_amongRows_17 : decode cX4_amongRows 17 = .ok (.ifCond .ne 4, 3) := by decide +kernel
theorem dX4_amongRows_20 : decode cX4_amongRows 20 = .ok (.return_, 1) := by decide +kernel
theorem dX4_amongRows_21 : decode cX4_amongRows 21 = .ok (.aload_n 0, 1) := by decide +kernel
theorem dX4_amongRows_22 : decode cX4_amongRows 22 = .ok (.iload_n 1, 1) := by decide +kernel
theorem dX4_amongRows_23 : decode cX4_amongRows 23 = .ok (.putfield 21, 3) := by decide +kernel
theorem dX4_amongRows_26 : decode cX4_amongRows 26 = .ok (.aload_n 0, 1) := by decide +kernel
theorem dX4_amongRows_27 : decode cX4_amongRows 27 = .ok (.iload_n 2, 1) := by decide +kernel
theorem dX4_amongRows_28 : decode cX4_amongRows 28 = .ok (.putfield 25, 3) := by decide +kernel
theorem dX4_amongRows_31 : decode cX4_amongRows 31 = .ok (.aload_n 0, 1) := by decide +kernel
theorem dX4_amongRows_32 : decode cX4_amongRows 32 = .ok (.iload_n 3, 1) := by decide +kernel
theorem dX4_amongRows_33 : decode cX4_amongRows 33 = .ok (.putfield 32, 3) := by decide +kernel
theorem dX4_amongRows_36 : decode cX4_amongRows 36 = .ok (.aload_n 0, 1) := by decide +kernel
theorem dX4_amongRows_37 : decode cX4_amongRows 37 = .ok (.iconst 0, 1) := by decide +kernel
theorem dX4_amongRows_38 : decode cX4_amongRows 38 = .ok (.putfield 35, 3) := by decide +kernel
theorem dX4_amongRows_41 : decode cX4_amongRows 41 = .ok (.aload_n 0, 1) := by decide +kernel
theorem dX4_amongRows_42 : decode cX4_amongRows 42 = .ok (.getfield 18, 3) := by decide +kernel
theorem dX4_amongRows_45 : decode cX4_amongRows 45 = .ok (.iconst 1, 1) := by decide +kernel
theorem dX4_amongRows_46 : decode cX4_amongRows 46 = .ok (.iload_n 2, 1) := by decide +kernel
theorem dX4_amongRows_47 : decode cX4_amongRows 47 = .ok (.ishl, 1) := by decide +kernel
theorem dX4_amongRows_48 : decode cX4_amongRows 48 = .ok (.iconst 1, 1) := by decide +kernel
theorem dX4_amongRows_49 : decode cX4_amongRows 49 = .ok (.isub, 1) := by decide +kernel
theorem dX4_amongRows_50 : decode cX4_amongRows 50 = .ok (.invokestatic 39, 3) := by decide +kernel
theorem dX4_amongRows_53 : decode cX4_amongRows 53 = .ok (.return_, 1) := by decide +kernel
theorem dX4_amongSquares_0 : decode cX4_amongSquares 0 = .ok (.aload_n 0, 1) := by decide +kernel
theorem dX4_amongSquares_1 : decode cX4_amongSquares 1 = .ok (.iload_n 1, 1) := by decide +kernel
theorem dX4_amongSquares_2 : decode cX4_amongSquares 2 = .ok (.iload_n 1, 1) := by decide +kernel
theorem dX4_amongSquares_3 : decode cX4_amongSquares 3 = .ok (.iconst 0, 1) := by decide +kernel
theorem dX4_amongSquares_4 : decode cX4_amongSquares 4 = .ok (.invokevirtual 45, 3) := by decide +kernel
theorem dX4_amongSquares_7 : decode cX4_amongSquares 7 = .ok (.aload_n 0, 1) := by decide +kernel
theorem dX4_amongSquares_8 : decode cX4_amongSquares 8 = .ok (.iconst 1, 1) := by decide +kernel
theorem dX4_amongSquares_9 : decode cX4_amongSquares 9 = .ok (.putfield 35, 3) := by decide +kernel
theorem dX4_amongSquares_12 : decode cX4_amongSquares 12 = .ok (.return_, 1) := by decide +kernel
theorem dX4_keepMarksOf_0 : decode cX4_keepMarksOf 0 = .ok (.iconst 0, 1) := by decide +kernel
theorem dX4_keepMarksOf_1 : decode cX4_keepMarksOf 1 = .ok (.istore_n 2, 1) := by decide +kernel
theorem dX4_keepMarksOf_2 : decode cX4_keepMarksOf 2 = .ok (.iload_n 2, 1) := by decide +kernel
theorem dX4_keepMarksOf_3 : decode cX4_keepMarksOf 3 = .ok (.aload_n 0, 1) := by decide +kernel
theorem dX4_keepMarksOf_4 : decode cX4_keepMarksOf 4 = .ok (.getfield 21, 3) := by decide +kernel
theorem dX4_keepMarksOf_7 : decode cX4_keepMarksOf 7 = .ok (.if_icmp .ge 36, 3) := by decide +kernel
theorem dX4_keepMarksOf_10 : decode cX4_keepMarksOf 10 = .ok (.iload_n 2, 1) := by decide +kernel
theorem dX4_keepMarksOf_11 : decode cX4_keepMarksOf 11 = .ok (.bipush 12, 2) := by decide +kernel
theorem dX4_keepMarksOf_13 : decode cX4_keepMarksOf 13 = .ok (.if_icmp .ge 30, 3) := by decide +kernel
theorem dX4_keepMarksOf_16 : decode cX4_keepMarksOf 16 = .ok (.aload_n 1, 1) := by decide +kernel
theorem dX4_keepMarksOf_17 : decode cX4_keepMarksOf 17 = .ok (.iload_n 2, 1) := by decide +kernel
theorem dX4_keepMarksOf_18 : decode cX4_keepMarksOf 18 = .ok (.invokevirtual 49, 3) := by decide +kernel
theorem dX4_keepMarksOf_21 : decode cX4_keepMarksOf 21 = .ok (.ifCond .eq 16, 3) := by decide +kernel
theorem dX4_keepMarksOf_24 : decode cX4_keepMarksOf 24 = .ok (.aload_n 0, 1) := by decide +kernel
theorem dX4_keepMarksOf_25 : decode cX4_keepMarksOf 25 = .ok (.getfield 18, 3) := by decide +kernel
theorem dX4_keepMarksOf_28 : decode cX4_keepMarksOf 28 = .ok (.iload_n 2, 1) := by decide +kernel
theorem dX4_keepMarksOf_29 : decode cX4_keepMarksOf 29 = .ok (.iconst 1, 1) := by decide +kernel
theorem dX4_keepMarksOf_30 : decode cX4_keepMarksOf 30 = .ok (.aload_n 1, 1) := by decide +kernel
theorem dX4_keepMarksOf_31 : decode cX4_keepMarksOf 31 = .ok (.iload_n 2, 1) := by decide +kernel
theorem dX4_keepMarksOf_32 : decode cX4_keepMarksOf 32 = .ok (.invokevirtual 55, 3) := by decide +kernel
theorem dX4_keepMarksOf_35 : decode cX4_keepMarksOf 35 = .ok (.ishl, 1) := by decide +kernel
theorem dX4_keepMarksOf_36 : decode cX4_keepMarksOf 36 = .ok (.iastore, 1) := by decide +kernel
theorem dX4_keepMarksOf_37 : decode cX4_keepMarksOf 37 = .ok (.iinc 2 1, 3) := by decide +kernel
theorem dX4_keepMarksOf_40 : decode cX4_keepMarksOf 40 = .ok (.goto (-38), 3) := by decide +kernel
theorem dX4_keepMarksOf_43 : decode cX4_keepMarksOf 43 = .ok (.return_, 1) := by decide +kernel
theorem dX4_countAll_0 : decode cX4_countAll 0 = .ok (.aload_n 0, 1) := by decide +kernel
theorem dX4_countAll_1 : decode cX4_countAll 1 = .ok (.iconst (-1), 1) := by decide +kernel
theorem dX4_countAll_2 : decode cX4_countAll 2 = .ok (.invokevirtual 59, 3) := by decide +kernel
theorem dX4_countAll_5 : decode cX4_countAll 5 = .ok (.aload_n 0, 1) := by decide +kernel
theorem dX4_countAll_6 : decode cX4_countAll 6 = .ok (.iconst 0, 1) := by decide +kernel
theorem dX4_countAll_7 : decode cX4_countAll 7 = .ok (.iconst 0, 1) := by decide +kernel
theorem dX4_countAll_8 : decode cX4_countAll 8 = .ok (.invokevirtual 63, 3) := by decide +kernel
theorem dX4_countAll_11 : decode cX4_countAll 11 = .ok (.pop, 1) := by decide +kernel
theorem dX4_countAll_12 : decode cX4_countAll 12 = .ok (.aload_n 0, 1) := by decide +kernel
theorem dX4_countAll_13 : decode cX4_countAll 13 = .ok (.getfield 67, 3) := by decide +kernel
theorem dX4_countAll_16 : decode cX4_countAll 16 = .ok (.ireturn, 1) := by decide +kernel
theorem dX4_reach_0 : decode cX4_reach 0 = .ok (.aload_n 0, 1) := by decide +kernel
theorem dX4_reach_1 : decode cX4_reach 1 = .ok (.iload_n 1, 1) := by decide +kernel
theorem dX4_reach_2 : decode cX4_reach 2 = .ok (.invokevirtual 59, 3) := by decide +kernel
theorem dX4_reach_5 : decode cX4_reach 5 = .ok (.aload_n 0, 1) := by decide +kernel
theorem dX4_reach_6 : decode cX4_reach 6 = .ok (.iconst 0, 1) := by decide +kernel
theorem dX4_reach_7 : decode cX4_reach 7 = .ok (.iconst 0, 1) := by decide +kernel
theorem dX4_reach_8 : decode cX4_reach 8 = .ok (.invokevirtual 63, 3) := by decide +kernel
theorem dX4_reach_11 : decode cX4_reach 11 = .ok (.ireturn, 1) := by decide +kernel
theorem dX4_giveTo_0 : decode cX4_giveTo 0 = .ok (.aload_n 1, 1) := by decide +kernel
theorem dX4_giveTo_1 : decode cX4_giveTo 1 = .ok (.aload_n 0, 1) := by decide +kernel
theorem dX4_giveTo_2 : decode cX4_giveTo 2 = .ok (.getfield 21, 3) := by decide +kernel
theorem dX4_giveTo_5 : decode cX4_giveTo 5 = .ok (.aload_n 0, 1) := by decide +kernel
theorem dX4_giveTo_6 : decode cX4_giveTo 6 = .ok (.getfield 25, 3) := by decide +kernel
theorem dX4_giveTo_9 : decode cX4_giveTo 9 = .ok (.invokevirtual 70, 3) := by decide +kernel
theorem dX4_giveTo_12 : decode cX4_giveTo 12 = .ok (.iconst 0, 1) := by decide +kernel
theorem dX4_giveTo_13 : decode cX4_giveTo 13 = .ok (.istore_n 2, 1) := by decide +kernel
theorem dX4_giveTo_14 : decode cX4_giveTo 14 = .ok (.iload_n 2, 1) := by decide +kernel
theorem dX4_giveTo_15 : decode cX4_giveTo 15 = .ok (.aload_n 0, 1) := by decide +kernel
theorem dX4_giveTo_16 : decode cX4_giveTo 16 = .ok (.getfield 21, 3) := by decide +kernel
theorem dX4_giveTo_19 : decode cX4_giveTo 19 = .ok (.if_icmp .ge 26, 3) := by decide +kernel
theorem dX4_giveTo_22 : decode cX4_giveTo 22 = .ok (.iload_n 2, 1) := by decide +kernel
theorem dX4_giveTo_23 : decode cX4_giveTo 23 = .ok (.bipush 12, 2) := by decide +kernel
theorem dX4_giveTo_25 : decode cX4_giveTo 25 = .ok (.if_icmp .ge 20, 3) := by decide +kernel
theorem dX4_giveTo_28 : decode cX4_giveTo 28 = .ok (.aload_n 1, 1) := by decide +kernel
theorem dX4_giveTo_29 : decode cX4_giveTo 29 = .ok (.iload_n 2, 1) := by decide +kernel
theorem dX4_giveTo_30 : decode cX4_giveTo 30 = .ok (.aload_n 0, 1) := by decide +kernel
theorem dX4_giveTo_31 : decode cX4_giveTo 31 = .ok (.getfield 9, 3) := by decide +kernel
theorem dX4_giveTo_34 : decode cX4_giveTo 34 = .ok (.iload_n 2, 1) := by decide +kernel
theorem dX4_giveTo_35 : decode cX4_giveTo 35 = .ok (.iaload, 1) := by decide +kernel
theorem dX4_giveTo_36 : decode cX4_giveTo 36 = .ok (.invokevirtual 74, 3) := by decide +kernel
theorem dX4_giveTo_39 : decode cX4_giveTo 39 = .ok (.iinc 2 1, 3) := by decide +kernel
theorem dX4_giveTo_42 : decode cX4_giveTo 42 = .ok (.goto (-28), 3) := by decide +kernel
theorem dX4_giveTo_45 : decode cX4_giveTo 45 = .ok (.return_, 1) := by decide +kernel
theorem dX4_begin_0 : decode cX4_begin 0 = .ok (.aload_n 0, 1) := by decide +kernel
theorem dX4_begin_1 : decode cX4_begin 1 = .ok (.iload_n 1, 1) := by decide +kernel
theorem dX4_begin_2 : decode cX4_begin 2 = .ok (.putfield 77, 3) := by decide +kernel
theorem dX4_begin_5 : decode cX4_begin 5 = .ok (.aload_n 0, 1) := by decide +kernel
theorem dX4_begin_6 : decode cX4_begin 6 = .ok (.iconst 0, 1) := by decide +kernel
theorem dX4_begin_7 : decode cX4_begin 7 = .ok (.putfield 67, 3) := by decide +kernel
theorem dX4_begin_10 : decode cX4_begin 10 = .ok (.aload_n 0, 1) := by decide +kernel
theorem dX4_begin_11 : decode cX4_begin 11 = .ok (.getfield 15, 3) := by decide +kernel
theorem dX4_begin_14 : decode cX4_begin 14 = .ok (.iconst 0, 1) := by decide +kernel
theorem dX4_begin_15 : decode cX4_begin 15 = .ok (.invokestatic 39, 3) := by decide +kernel
theorem dX4_begin_18 : decode cX4_begin 18 = .ok (.return_, 1) := by decide +kernel
theorem dX4_walk_0 : decode cX4_walk 0 = .ok (.iload_n 1, 1) := by decide +kernel
theorem dX4_walk_1 : decode cX4_walk 1 = .ok (.iconst 0, 1) := by decide +kernel
theorem dX4_walk_2 : decode cX4_walk 2 = .ok (.aload_n 0, 1) := by decide +kernel
theorem dX4_walk_3 : decode cX4_walk 3 = .ok (.getfield 21, 3) := by decide +kernel
theorem dX4_walk_6 : decode cX4_walk 6 = .ok (.iconst 1, 1) := by decide +kernel
theorem dX4_walk_7 : decode cX4_walk 7 = .ok (.isub, 1) := by decide +kernel
theorem dX4_walk_8 : decode cX4_walk 8 = .ok (.invokestatic 28, 3) := by decide +kernel
theorem dX4_walk_11 : decode cX4_walk 11 = .ok (.ifCond .eq 9, 3) := by decide +kernel
theorem dX4_walk_14 : decode cX4_walk 14 = .ok (.iload_n 1, 1) := by decide +kernel
theorem dX4_walk_15 : decode cX4_walk 15 = .ok (.bipush 12, 2) := by decide +kernel
theorem dX4_walk_17 : decode cX4_walk 17 = .ok (.if_icmp .lt 5, 3) := by decide +kernel
theorem dX4_walk_20 : decode cX4_walk 20 = .ok (.iconst 0, 1) := by decide +kernel
theorem dX4_walk_21 : decode cX4_walk 21 = .ok (.ireturn, 1) := by decide +kernel
theorem dX4_walk_22 : decode cX4_walk 22 = .ok (.aload_n 0, 1) := by decide +kernel
theorem dX4_walk_23 : decode cX4_walk 23 = .ok (.iload_n 1, 1) := by decide +kernel
theorem dX4_walk_24 : decode cX4_walk 24 = .ok (.iload_n 2, 1) := by decide +kernel
theorem dX4_walk_25 : decode cX4_walk 25 = .ok (.invokevirtual 80, 3) := by decide +kernel
theorem dX4_walk_28 : decode cX4_walk 28 = .ok (.istore_n 3, 1) := by decide +kernel
theorem dX4_walk_29 : decode cX4_walk 29 = .ok (.iload_n 1, 1) := by decide +kernel
theorem dX4_walk_30 : decode cX4_walk 30 = .ok (.aload_n 0, 1) := by decide +kernel
theorem dX4_walk_31 : decode cX4_walk 31 = .ok (.getfield 21, 3) := by decide +kernel
theorem dX4_walk_34 : decode cX4_walk 34 = .ok (.iconst 1, 1) := by decide +kernel
theorem dX4_walk_35 : decode cX4_walk 35 = .ok (.isub, 1) := by decide +kernel
theorem dX4_walk_36 : decode cX4_walk 36 = .ok (.if_icmp .ne 10, 3) := by decide +kernel
theorem dX4_walk_39 : decode cX4_walk 39 = .ok (.aload_n 0, 1) := by decide +kernel
theorem dX4_walk_40 : decode cX4_walk 40 = .ok (.iload_n 1, 1) := by decide +kernel
theorem dX4_walk_41 : decode cX4_walk 41 = .ok (.iload_n 3, 1) := by decide +kernel
theorem dX4_walk_42 : decode cX4_walk 42 = .ok (.invokevirtual 84, 3) := by decide +kernel
theorem dX4_walk_45 : decode cX4_walk 45 = .ok (.ireturn, 1) := by decide +kernel
theorem dX4_walk_46 : decode cX4_walk 46 = .ok (.iconst 0, 1) := by decide +kernel
theorem dX4_walk_47 : decode cX4_walk 47 = .ok (.istore 4, 2) := by decide +kernel
theorem dX4_walk_49 : decode cX4_walk 49 = .ok (.iload 4, 2) := by decide +kernel
theorem dX4_walk_51 : decode cX4_walk 51 = .ok (.aload_n 0, 1) := by decide +kernel
theorem dX4_walk_52 : decode cX4_walk 52 = .ok (.getfield 25, 3) := by decide +kernel
theorem dX4_walk_55 : decode cX4_walk 55 = .ok (.if_icmp .ge 65, 3) := by decide +kernel
theorem dX4_walk_58 : decode cX4_walk 58 = .ok (.iload_n 3, 1) := by decide +kernel
theorem dX4_walk_59 : decode cX4_walk 59 = .ok (.iload 4, 2) := by decide +kernel
theorem dX4_walk_61 : decode cX4_walk 61 = .ok (.ishr, 1) := by decide +kernel
theorem dX4_walk_62 : decode cX4_walk 62 = .ok (.iconst 1, 1) := by decide +kernel
theorem dX4_walk_63 : decode cX4_walk 63 = .ok (.iand, 1) := by decide +kernel
theorem dX4_walk_64 : decode cX4_walk 64 = .ok (.ifCond .eq 50, 3) := by decide +kernel
theorem dX4_walk_67 : decode cX4_walk 67 = .ok (.aload_n 0, 1) := by decide +kernel
theorem dX4_walk_68 : decode cX4_walk 68 = .ok (.getfield 9, 3) := by decide +kernel
theorem dX4_walk_71 : decode cX4_walk 71 = .ok (.iload_n 1, 1) := by decide +kernel
theorem dX4_walk_72 : decode cX4_walk 72 = .ok (.iload 4, 2) := by decide +kernel
theorem dX4_walk_74 : decode cX4_walk 74 = .ok (.iastore, 1) := by decide +kernel
theorem dX4_walk_75 : decode cX4_walk 75 = .ok (.aload_n 0, 1) := by decide +kernel
theorem dX4_walk_76 : decode cX4_walk 76 = .ok (.iload_n 1, 1) := by decide +kernel
theorem dX4_walk_77 : decode cX4_walk 77 = .ok (.invokevirtual 87, 3) := by decide +kernel
theorem dX4_walk_80 : decode cX4_walk 80 = .ok (.aload_n 0, 1) := by decide +kernel
theorem dX4_walk_81 : decode cX4_walk 81 = .ok (.iload_n 1, 1) := by decide +kernel
theorem dX4_walk_82 : decode cX4_walk 82 = .ok (.iconst 1, 1) := by decide +kernel
theorem dX4_walk_83 : decode cX4_walk 83 = .ok (.iadd, 1) := by decide +kernel
theorem dX4_walk_84 : decode cX4_walk 84 = .ok (.aload_n 0, 1) := by decide +kernel
theorem dX4_walk_85 : decode cX4_walk 85 = .ok (.getfield 35, 3) := by decide +kernel
theorem dX4_walk_88 : decode cX4_walk 88 = .ok (.ifCond .eq 12, 3) := by decide +kernel
theorem dX4_walk_91 : decode cX4_walk 91 = .ok (.iload_n 2, 1) := by decide +kernel
theorem dX4_walk_92 : decode cX4_walk 92 = .ok (.iconst 1, 1) := by decide +kernel
theorem dX4_walk_93 : decode cX4_walk 93 = .ok (.iload 4, 2) := by decide +kernel
theorem dX4_walk_95 : decode cX4_walk 95 = .ok (.ishl, 1) := by decide +kernel
theorem dX4_walk_96 : decode cX4_walk 96 = .ok (.ior, 1) := by decide +kernel
theorem dX4_walk_97 : decode cX4_walk 97 = .ok (.goto 4, 3) := by decide +kernel
theorem dX4_walk_100 : decode cX4_walk 100 = .ok (.iconst 0, 1) := by decide +kernel
theorem dX4_walk_101 : decode cX4_walk 101 = .ok (.invokevirtual 63, 3) := by decide +kernel
theorem dX4_walk_104 : decode cX4_walk 104 = .ok (.ifCond .eq 5, 3) := by decide +kernel
theorem dX4_walk_107 : decode cX4_walk 107 = .ok (.iconst 1, 1) := by decide +kernel
theorem dX4_walk_108 : decode cX4_walk 108 = .ok (.ireturn, 1) := by decide +kernel
theorem dX4_walk_109 : decode cX4_walk 109 = .ok (.aload_n 0, 1) := by decide +kernel
theorem dX4_walk_110 : decode cX4_walk 110 = .ok (.iload_n 1, 1) := by decide +kernel
theorem dX4_walk_111 : decode cX4_walk 111 = .ok (.invokevirtual 87, 3) := by decide +kernel
theorem dX4_walk_114 : decode cX4_walk 114 = .ok (.iinc 4 1, 3) := by decide +kernel
theorem dX4_walk_117 : decode cX4_walk 117 = .ok (.goto (-68), 3) := by decide +kernel
theorem dX4_walk_120 : decode cX4_walk 120 = .ok (.iconst 0, 1) := by decide +kernel
theorem dX4_walk_121 : decode cX4_walk 121 = .ok (.ireturn, 1) := by decide +kernel
theorem dX4_freeLines_0 : decode cX4_freeLines 0 = .ok (.aload_n 0, 1) := by decide +kernel
theorem dX4_freeLines_1 : decode cX4_freeLines 1 = .ok (.getfield 18, 3) := by decide +kernel
theorem dX4_freeLines_4 : decode cX4_freeLines 4 = .ok (.iload_n 1, 1) := by decide +kernel
theorem dX4_freeLines_5 : decode cX4_freeLines 5 = .ok (.iaload, 1) := by decide +kernel
theorem dX4_freeLines_6 : decode cX4_freeLines 6 = .ok (.iload_n 2, 1) := by decide +kernel
theorem dX4_freeLines_7 : decode cX4_freeLines 7 = .ok (.iconst (-1), 1) := by decide +kernel
theorem dX4_freeLines_8 : decode cX4_freeLines 8 = .ok (.ixor, 1) := by decide +kernel
theorem dX4_freeLines_9 : decode cX4_freeLines 9 = .ok (.iand, 1) := by decide +kernel
theorem dX4_freeLines_10 : decode cX4_freeLines 10 = .ok (.istore_n 3, 1) := by decide +kernel
theorem dX4_freeLines_11 : decode cX4_freeLines 11 = .ok (.iconst 1, 1) := by decide +kernel
theorem dX4_freeLines_12 : decode cX4_freeLines 12 = .ok (.istore 4, 2) := by decide +kernel
theorem dX4_freeLines_14 : decode cX4_freeLines 14 = .ok (.iload 4, 2) := by decide +kernel
theorem dX4_freeLines_16 : decode cX4_freeLines 16 = .ok (.iload_n 1, 1) := by decide +kernel
theorem dX4_freeLines_17 : decode cX4_freeLines 17 = .ok (.if_icmp .gt 38, 3) := by decide +kernel
theorem dX4_freeLines_20 : decode cX4_freeLines 20 = .ok (.iload_n 3, 1) := by decide +kernel
theorem dX4_freeLines_21 : decode cX4_freeLines 21 = .ok (.ifCond .eq 34, 3) := by decide +kernel
theorem dX4_freeLines_24 : decode cX4_freeLines 24 = .ok (.iload_n 3, 1) := by decide +kernel
theorem dX4_freeLines_25 : decode cX4_freeLines 25 = .ok (.aload_n 0, 1) := by decide +kernel
theorem dX4_freeLines_26 : decode cX4_freeLines 26 = .ok (.getfield 15, 3) := by decide +kernel
theorem dX4_freeLines_29 : decode cX4_freeLines 29 = .ok (.iload 4, 2) := by decide +kernel
theorem dX4_freeLines_31 : decode cX4_freeLines 31 = .ok (.iaload, 1) := by decide +kernel
theorem dX4_freeLines_32 : decode cX4_freeLines 32 = .ok (.bipush 12, 2) := by decide +kernel
theorem dX4_freeLines_34 : decode cX4_freeLines 34 = .ok (.aload_n 0, 1) := by decide +kernel
theorem dX4_freeLines_35 : decode cX4_freeLines 35 = .ok (.getfield 9, 3) := by decide +kernel
theorem dX4_freeLines_38 : decode cX4_freeLines 38 = .ok (.iload_n 1, 1) := by decide +kernel
theorem dX4_freeLines_39 : decode cX4_freeLines 39 = .ok (.iload 4, 2) := by decide +kernel
theorem dX4_freeLines_41 : decode cX4_freeLines 41 = .ok (.isub, 1) := by decide +kernel
theorem dX4_freeLines_42 : decode cX4_freeLines 42 = .ok (.iaload, 1) := by decide +kernel
theorem dX4_freeLines_43 : decode cX4_freeLines 43 = .ok (.isub, 1) := by decide +kernel
theorem dX4_freeLines_44 : decode cX4_freeLines 44 = .ok (.iushr, 1) := by decide +kernel
theorem dX4_freeLines_45 : decode cX4_freeLines 45 = .ok (.iconst (-1), 1) := by decide +kernel
theorem dX4_freeLines_46 : decode cX4_freeLines 46 = .ok (.ixor, 1) := by decide +kernel
theorem dX4_freeLines_47 : decode cX4_freeLines 47 = .ok (.iand, 1) := by decide +kernel
theorem dX4_freeLines_48 : decode cX4_freeLines 48 = .ok (.istore_n 3, 1) := by decide +kernel
theorem dX4_freeLines_49 : decode cX4_freeLines 49 = .ok (.iinc 4 1, 3) := by decide +kernel
theorem dX4_freeLines_52 : decode cX4_freeLines 52 = .ok (.goto (-38), 3) := by decide +kernel
theorem dX4_freeLines_55 : decode cX4_freeLines 55 = .ok (.iload_n 3, 1) := by decide +kernel
theorem dX4_freeLines_56 : decode cX4_freeLines 56 = .ok (.ireturn, 1) := by decide +kernel
theorem dX4_flipSteps_0 : decode cX4_flipSteps 0 = .ok (.iconst 1, 1) := by decide +kernel
theorem dX4_flipSteps_1 : decode cX4_flipSteps 1 = .ok (.istore_n 2, 1) := by decide +kernel
theorem dX4_flipSteps_2 : decode cX4_flipSteps 2 = .ok (.iload_n 2, 1) := by decide +kernel
theorem dX4_flipSteps_3 : decode cX4_flipSteps 3 = .ok (.iload_n 1, 1) := by decide +kernel
theorem dX4_flipSteps_4 : decode cX4_flipSteps 4 = .ok (.if_icmp .gt 37, 3) := by decide +kernel
theorem dX4_flipSteps_7 : decode cX4_flipSteps 7 = .ok (.aload_n 0, 1) := by decide +kernel
theorem dX4_flipSteps_8 : decode cX4_flipSteps 8 = .ok (.getfield 15, 3) := by decide +kernel
theorem dX4_flipSteps_11 : decode cX4_flipSteps 11 = .ok (.iload_n 2, 1) := by decide +kernel
theorem dX4_flipSteps_12 : decode cX4_flipSteps 12 = .ok (.dup2, 1) := by decide +kernel
theorem dX4_flipSteps_13 : decode cX4_flipSteps 13 = .ok (.iaload, 1) := by decide +kernel
theorem dX4_flipSteps_14 : decode cX4_flipSteps 14 = .ok (.aload_n 0, 1) := by decide +kernel
theorem dX4_flipSteps_15 : decode cX4_flipSteps 15 = .ok (.aload_n 0, 1) := by decide +kernel
theorem dX4_flipSteps_16 : decode cX4_flipSteps 16 = .ok (.getfield 9, 3) := by decide +kernel
theorem dX4_flipSteps_19 : decode cX4_flipSteps 19 = .ok (.iload_n 1, 1) := by decide +kernel
theorem dX4_flipSteps_20 : decode cX4_flipSteps 20 = .ok (.iaload, 1) := by decide +kernel
theorem dX4_flipSteps_21 : decode cX4_flipSteps 21 = .ok (.aload_n 0, 1) := by decide +kernel
theorem dX4_flipSteps_22 : decode cX4_flipSteps 22 = .ok (.getfield 9, 3) := by decide +kernel
theorem dX4_flipSteps_25 : decode cX4_flipSteps 25 = .ok (.iload_n 1, 1) := by decide +kernel
theorem dX4_flipSteps_26 : decode cX4_flipSteps 26 = .ok (.iload_n 2, 1) := by decide +kernel
theorem dX4_flipSteps_27 : decode cX4_flipSteps 27 = .ok (.isub, 1) := by decide +kernel
theorem dX4_flipSteps_28 : decode cX4_flipSteps 28 = .ok (.iaload, 1) := by decide +kernel
theorem dX4_flipSteps_29 : decode cX4_flipSteps 29 = .ok (.isub, 1) := by decide +kernel
theorem dX4_flipSteps_30 : decode cX4_flipSteps 30 = .ok (.invokevirtual 90, 3) := by decide +kernel
theorem dX4_flipSteps_33 : decode cX4_flipSteps 33 = .ok (.ixor, 1) := by decide +kernel
theorem dX4_flipSteps_34 : decode cX4_flipSteps 34 = .ok (.iastore, 1) := by decide +kernel
theorem dX4_flipSteps_35 : decode cX4_flipSteps 35 = .ok (.iinc 2 1, 3) := by decide +kernel
theorem dX4_flipSteps_38 : decode cX4_flipSteps 38 = .ok (.goto (-36), 3) := by decide +kernel
theorem dX4_flipSteps_41 : decode cX4_flipSteps 41 = .ok (.return_, 1) := by decide +kernel
theorem dX4_stepBits_0 : decode cX4_stepBits 0 = .ok (.aload_n 0, 1) := by decide +kernel
theorem dX4_stepBits_1 : decode cX4_stepBits 1 = .ok (.getfield 32, 3) := by decide +kernel
theorem dX4_stepBits_4 : decode cX4_stepBits 4 = .ok (.ifCond .ne 10, 3) := by decide +kernel
theorem dX4_stepBits_7 : decode cX4_stepBits 7 = .ok (.iconst 1, 1) := by decide +kernel
theorem dX4_stepBits_8 : decode cX4_stepBits 8 = .ok (.bipush 12, 2) := by decide +kernel
theorem dX4_stepBits_10 : decode cX4_stepBits 10 = .ok (.iload_n 1, 1) := by decide +kernel
theorem dX4_stepBits_11 : decode cX4_stepBits 11 = .ok (.iadd, 1) := by decide +kernel
theorem dX4_stepBits_12 : decode cX4_stepBits 12 = .ok (.ishl, 1) := by decide +kernel
theorem dX4_stepBits_13 : decode cX4_stepBits 13 = .ok (.ireturn, 1) := by decide +kernel
theorem dX4_stepBits_14 : decode cX4_stepBits 14 = .ok (.iload_n 1, 1) := by decide +kernel
theorem dX4_stepBits_15 : decode cX4_stepBits 15 = .ok (.aload_n 0, 1) := by decide +kernel
theorem dX4_stepBits_16 : decode cX4_stepBits 16 = .ok (.getfield 25, 3) := by decide +kernel
theorem dX4_stepBits_19 : decode cX4_stepBits 19 = .ok (.invokestatic 93, 3) := by decide +kernel
theorem dX4_stepBits_22 : decode cX4_stepBits 22 = .ok (.istore_n 2, 1) := by decide +kernel
theorem dX4_stepBits_23 : decode cX4_stepBits 23 = .ok (.iconst 1, 1) := by decide +kernel
theorem dX4_stepBits_24 : decode cX4_stepBits 24 = .ok (.bipush 12, 2) := by decide +kernel
theorem dX4_stepBits_26 : decode cX4_stepBits 26 = .ok (.iload_n 2, 1) := by decide +kernel
theorem dX4_stepBits_27 : decode cX4_stepBits 27 = .ok (.iadd, 1) := by decide +kernel
theorem dX4_stepBits_28 : decode cX4_stepBits 28 = .ok (.ishl, 1) := by decide +kernel
theorem dX4_stepBits_29 : decode cX4_stepBits 29 = .ok (.iconst 1, 1) := by decide +kernel
theorem dX4_stepBits_30 : decode cX4_stepBits 30 = .ok (.bipush 12, 2) := by decide +kernel
theorem dX4_stepBits_32 : decode cX4_stepBits 32 = .ok (.iload_n 2, 1) := by decide +kernel
theorem dX4_stepBits_33 : decode cX4_stepBits 33 = .ok (.iadd, 1) := by decide +kernel
theorem dX4_stepBits_34 : decode cX4_stepBits 34 = .ok (.aload_n 0, 1) := by decide +kernel
theorem dX4_stepBits_35 : decode cX4_stepBits 35 = .ok (.getfield 25, 3) := by decide +kernel
theorem dX4_stepBits_38 : decode cX4_stepBits 38 = .ok (.isub, 1) := by decide +kernel
theorem dX4_stepBits_39 : decode cX4_stepBits 39 = .ok (.ishl, 1) := by decide +kernel
theorem dX4_stepBits_40 : decode cX4_stepBits 40 = .ok (.ior, 1) := by decide +kernel
theorem dX4_stepBits_41 : decode cX4_stepBits 41 = .ok (.ireturn, 1) := by decide +kernel
theorem dX4_endIn_0 : decode cX4_endIn 0 = .ok (.iload_n 2, 1) := by decide +kernel
theorem dX4_endIn_1 : decode cX4_endIn 1 = .ok (.invokestatic 96, 3) := by decide +kernel
theorem dX4_endIn_4 : decode cX4_endIn 4 = .ok (.istore_n 3, 1) := by decide +kernel
theorem dX4_endIn_5 : decode cX4_endIn 5 = .ok (.aload_n 0, 1) := by decide +kernel
theorem dX4_endIn_6 : decode cX4_endIn 6 = .ok (.getfield 77, 3) := by decide +kernel
theorem dX4_endIn_9 : decode cX4_endIn 9 = .ok (.ifCond .lt 16, 3) := by decide +kernel
theorem dX4_endIn_12 : decode cX4_endIn 12 = .ok (.aload_n 0, 1) := by decide +kernel
theorem dX4_endIn_13 : decode cX4_endIn 13 = .ok (.getfield 77, 3) := by decide +kernel
theorem dX4_endIn_16 : decode cX4_endIn 16 = .ok (.aload_n 0, 1) := by decide +kernel
theorem dX4_endIn_17 : decode cX4_endIn 17 = .ok (.getfield 67, 3) := by decide +kernel
theorem dX4_endIn_20 : decode cX4_endIn 20 = .ok (.isub, 1) := by decide +kernel
theorem dX4_endIn_21 : decode cX4_endIn 21 = .ok (.iload_n 3, 1) := by decide +kernel
theorem dX4_endIn_22 : decode cX4_endIn 22 = .ok (.if_icmp .lt 15, 3) := by decide +kernel
theorem dX4_endIn_25 : decode cX4_endIn 25 = .ok (.aload_n 0, 1) := by decide +kernel
theorem dX4_endIn_26 : decode cX4_endIn 26 = .ok (.dup, 1) := by decide +kernel
theorem dX4_endIn_27 : decode cX4_endIn 27 = .ok (.getfield 67, 3) := by decide +kernel
theorem dX4_endIn_30 : decode cX4_endIn 30 = .ok (.iload_n 3, 1) := by decide +kernel
theorem dX4_endIn_31 : decode cX4_endIn 31 = .ok (.iadd, 1) := by decide +kernel
theorem dX4_endIn_32 : decode cX4_endIn 32 = .ok (.putfield 67, 3) := by decide +kernel
theorem dX4_endIn_35 : decode cX4_endIn 35 = .ok (.iconst 0, 1) := by decide +kernel
theorem dX4_endIn_36 : decode cX4_endIn 36 = .ok (.ireturn, 1) := by decide +kernel
theorem dX4_endIn_37 : decode cX4_endIn 37 = .ok (.iconst 0, 1) := by decide +kernel
theorem dX4_endIn_38 : decode cX4_endIn 38 = .ok (.istore 4, 2) := by decide +kernel
theorem dX4_endIn_40 : decode cX4_endIn 40 = .ok (.iload 4, 2) := by decide +kernel
theorem dX4_endIn_42 : decode cX4_endIn 42 = .ok (.aload_n 0, 1) := by decide +kernel
theorem dX4_endIn_43 : decode cX4_endIn 43 = .ok (.getfield 25, 3) := by decide +kernel
theorem dX4_endIn_46 : decode cX4_endIn 46 = .ok (.if_icmp .ge 49, 3) := by decide +kernel
theorem dX4_endIn_49 : decode cX4_endIn 49 = .ok (.iload_n 2, 1) := by decide +kernel
theorem dX4_endIn_50 : decode cX4_endIn 50 = .ok (.iload 4, 2) := by decide +kernel
theorem dX4_endIn_52 : decode cX4_endIn 52 = .ok (.ishr, 1) := by decide +kernel
theorem dX4_endIn_53 : decode cX4_endIn 53 = .ok (.iconst 1, 1) := by decide +kernel
theorem dX4_endIn_54 : decode cX4_endIn 54 = .ok (.iand, 1) := by decide +kernel
theorem dX4_endIn_55 : decode cX4_endIn 55 = .ok (.ifCond .eq 34, 3) := by decide +kernel
theorem dX4_endIn_58 : decode cX4_endIn 58 = .ok (.aload_n 0, 1) := by decide +kernel
theorem dX4_endIn_59 : decode cX4_endIn 59 = .ok (.getfield 67, 3) := by decide +kernel
theorem dX4_endIn_62 : decode cX4_endIn 62 = .ok (.aload_n 0, 1) := by decide +kernel
theorem dX4_endIn_63 : decode cX4_endIn 63 = .ok (.getfield 77, 3) := by decide +kernel
theorem dX4_endIn_66 : decode cX4_endIn 66 = .ok (.if_icmp .ne 13, 3) := by decide +kernel
theorem dX4_endIn_69 : decode cX4_endIn 69 = .ok (.aload_n 0, 1) := by decide +kernel
theorem dX4_endIn_70 : decode cX4_endIn 70 = .ok (.getfield 9, 3) := by decide +kernel
theorem dX4_endIn_73 : decode cX4_endIn 73 = .ok (.iload_n 1, 1) := by decide +kernel
theorem dX4_endIn_74 : decode cX4_endIn 74 = .ok (.iload 4, 2) := by decide +kernel
theorem dX4_endIn_76 : decode cX4_endIn 76 = .ok (.iastore, 1) := by decide +kernel
theorem dX4_endIn_77 : decode cX4_endIn 77 = .ok (.iconst 1, 1) := by decide +kernel
theorem dX4_endIn_78 : decode cX4_endIn 78 = .ok (.ireturn, 1) := by decide +kernel
theorem dX4_endIn_79 : decode cX4_endIn 79 = .ok (.aload_n 0, 1) := by decide +kernel
theorem dX4_endIn_80 : decode cX4_endIn 80 = .ok (.dup, 1) := by decide +kernel
theorem dX4_endIn_81 : decode cX4_endIn 81 = .ok (.getfield 67, 3) := by decide +kernel
theorem dX4_endIn_84 : decode cX4_endIn 84 = .ok (.iconst 1, 1) := by decide +kernel
theorem dX4_endIn_85 : decode cX4_endIn 85 = .ok (.iadd, 1) := by decide +kernel
theorem dX4_endIn_86 : decode cX4_endIn 86 = .ok (.putfield 67, 3) := by decide +kernel
theorem dX4_endIn_89 : decode cX4_endIn 89 = .ok (.iinc 4 1, 3) := by decide +kernel
theorem dX4_endIn_92 : decode cX4_endIn 92 = .ok (.goto (-52), 3) := by decide +kernel
theorem dX4_endIn_95 : decode cX4_endIn 95 = .ok (.iconst 0, 1) := by decide +kernel
theorem dX4_endIn_96 : decode cX4_endIn 96 = .ok (.ireturn, 1) := by decide +kernel
theorem dX5_init_0 : decode cX5_init 0 = .ok (.aload_n 0, 1) := by decide +kernel
theorem dX5_init_1 : decode cX5_init 1 = .ok (.invokespecial 3, 3) := by decide +kernel
theorem dX5_init_4 : decode cX5_init 4 = .ok (.aload_n 0, 1) := by decide +kernel
theorem dX5_init_5 : decode cX5_init 5 = .ok (.bipush 60, 2) := by decide +kernel
theorem dX5_init_7 : decode cX5_init 7 = .ok (.newarray .int, 2) := by decide +kernel
theorem dX5_init_9 : decode cX5_init 9 = .ok (.putfield 11, 3) := by decide +kernel
theorem dX5_init_12 : decode cX5_init 12 = .ok (.aload_n 0, 1) := by decide +kernel
theorem dX5_init_13 : decode cX5_init 13 = .ok (.iconst 0, 1) := by decide +kernel
theorem dX5_init_14 : decode cX5_init 14 = .ok (.putfield 15, 3) := by decide +kernel
theorem dX5_init_17 : decode cX5_init 17 = .ok (.return_, 1) := by decide +kernel
theorem dX5_length_0 : decode cX5_length 0 = .ok (.aload_n 0, 1) := by decide +kernel
theorem dX5_length_1 : decode cX5_length 1 = .ok (.getfield 15, 3) := by decide +kernel
theorem dX5_length_4 : decode cX5_length 4 = .ok (.ireturn, 1) := by decide +kernel
theorem dX5_clear_0 : decode cX5_clear 0 = .ok (.aload_n 0, 1) := by decide +kernel
theorem dX5_clear_1 : decode cX5_clear 1 = .ok (.iconst 0, 1) := by decide +kernel
theorem dX5_clear_2 : decode cX5_clear 2 = .ok (.putfield 15, 3) := by decide +kernel
theorem dX5_clear_5 : decode cX5_clear 5 = .ok (.return_, 1) := by decide +kernel
theorem dX5_hasRoomFor_0 : decode cX5_hasRoomFor 0 = .ok (.iload_n 1, 1) := by decide +kernel
theorem dX5_hasRoomFor_1 : decode cX5_hasRoomFor 1 = .ok (.bipush 60, 2) := by decide +kernel
theorem dX5_hasRoomFor_3 : decode cX5_hasRoomFor 3 = .ok (.aload_n 0, 1) := by decide +kernel
theorem dX5_hasRoomFor_4 : decode cX5_hasRoomFor 4 = .ok (.getfield 15, 3) := by decide +kernel
theorem dX5_hasRoomFor_7 : decode cX5_hasRoomFor 7 = .ok (.isub, 1) := by decide +kernel
theorem dX5_hasRoomFor_8 : decode cX5_hasRoomFor 8 = .ok (.if_icmp .gt 7, 3) := by decide +kernel
theorem dX5_hasRoomFor_11 : decode cX5_hasRoomFor 11 = .ok (.iconst 1, 1) := by decide +kernel
theorem dX5_hasRoomFor_12 : decode cX5_hasRoomFor 12 = .ok (.goto 4, 3) := by decide +kernel
theorem dX5_hasRoomFor_15 : decode cX5_hasRoomFor 15 = .ok (.iconst 0, 1) := by decide +kernel
theorem dX5_hasRoomFor_16 : decode cX5_hasRoomFor 16 = .ok (.ireturn, 1) := by decide +kernel
theorem dX5_add_0 : decode cX5_add 0 = .ok (.aload_n 0, 1) := by decide +kernel
theorem dX5_add_1 : decode cX5_add 1 = .ok (.getfield 15, 3) := by decide +kernel
theorem dX5_add_4 : decode cX5_add 4 = .ok (.iconst 0, 1) := by decide +kernel
theorem dX5_add_5 : decode cX5_add 5 = .ok (.bipush 59, 2) := by decide +kernel
theorem dX5_add_7 : decode cX5_add 7 = .ok (.invokestatic 19, 3) := by decide +kernel
theorem dX5_add_10 : decode cX5_add 10 = .ok (.ifCond .eq 23, 3) := by decide +kernel
theorem dX5_add_13 : decode cX5_add 13 = .ok (.aload_n 0, 1) := by decide +kernel
theorem dX5_add_14 : decode cX5_add 14 = .ok (.getfield 11, 3) := by decide +kernel
theorem dX5_add_17 : decode cX5_add 17 = .ok (.aload_n 0, 1) := by decide +kernel
theorem dX5_add_18 : decode cX5_add 18 = .ok (.getfield 15, 3) := by decide +kernel
theorem dX5_add_21 : decode cX5_add 21 = .ok (.iload_n 1, 1) := by decide +kernel
theorem dX5_add_22 : decode cX5_add 22 = .ok (.iastore, 1) := by decide +kernel
theorem dX5_add_23 : decode cX5_add 23 = .ok (.aload_n 0, 1) := by decide +kernel
theorem dX5_add_24 : decode cX5_add 24 = .ok (.dup, 1) := by decide +kernel
theorem dX5_add_25 : decode cX5_add 25 = .ok (.getfield 15, 3) := by decide +kernel
theorem dX5_add_28 : decode cX5_add 28 = .ok (.iconst 1, 1) := by decide +kernel
theorem dX5_add_29 : decode cX5_add 29 = .ok (.iadd, 1) := by decide +kernel
theorem dX5_add_30 : decode cX5_add 30 = .ok (.putfield 15, 3) := by decide +kernel
theorem dX5_add_33 : decode cX5_add 33 = .ok (.return_, 1) := by decide +kernel
theorem dX5_byteAt_0 : decode cX5_byteAt 0 = .ok (.iload_n 1, 1) := by decide +kernel
theorem dX5_byteAt_1 : decode cX5_byteAt 1 = .ok (.ifCond .lt 26, 3) := by decide +kernel
theorem dX5_byteAt_4 : decode cX5_byteAt 4 = .ok (.iload_n 1, 1) := by decide +kernel
theorem dX5_byteAt_5 : decode cX5_byteAt 5 = .ok (.aload_n 0, 1) := by decide +kernel
theorem dX5_byteAt_6 : decode cX5_byteAt 6 = .ok (.getfield 15, 3) := by decide +kernel
theorem dX5_byteAt_9 : decode cX5_byteAt 9 = .ok (.if_icmp .ge 18, 3) := by decide +kernel
theorem dX5_byteAt_12 : decode cX5_byteAt 12 = .ok (.iload_n 1, 1) := by decide +kernel
theorem dX5_byteAt_13 : decode cX5_byteAt 13 = .ok (.bipush 60, 2) := by decide +kernel
theorem dX5_byteAt_15 : decode cX5_byteAt 15 = .ok (.if_icmp .ge 12, 3) := by decide +kernel
theorem dX5_byteAt_18 : decode cX5_byteAt 18 = .ok (.aload_n 0, 1) := by decide +kernel
theorem dX5_byteAt_19 : decode cX5_byteAt 19 = .ok (.getfield 11, 3) := by decide +kernel
theorem dX5_byteAt_22 : decode cX5_byteAt 22 = .ok (.iload_n 1, 1) := by decide +kernel
theorem dX5_byteAt_23 : decode cX5_byteAt 23 = .ok (.iaload, 1) := by decide +kernel
theorem dX5_byteAt_24 : decode cX5_byteAt 24 = .ok (.goto 4, 3) := by decide +kernel
theorem dX5_byteAt_27 : decode cX5_byteAt 27 = .ok (.iconst 0, 1) := by decide +kernel
theorem dX5_byteAt_28 : decode cX5_byteAt 28 = .ok (.ireturn, 1) := by decide +kernel
theorem dX5_endsRow_0 : decode cX5_endsRow 0 = .ok (.aload_n 0, 1) := by decide +kernel
theorem dX5_endsRow_1 : decode cX5_endsRow 1 = .ok (.iload_n 1, 1) := by decide +kernel
theorem dX5_endsRow_2 : decode cX5_endsRow 2 = .ok (.invokevirtual 23, 3) := by decide +kernel
theorem dX5_endsRow_5 : decode cX5_endsRow 5 = .ok (.bipush 59, 2) := by decide +kernel
theorem dX5_endsRow_7 : decode cX5_endsRow 7 = .ok (.if_icmp .ne 7, 3) := by decide +kernel
theorem dX5_endsRow_10 : decode cX5_endsRow 10 = .ok (.iconst 1, 1) := by decide +kernel
theorem dX5_endsRow_11 : decode cX5_endsRow 11 = .ok (.goto 4, 3) := by decide +kernel
theorem dX5_endsRow_14 : decode cX5_endsRow 14 = .ok (.iconst 0, 1) := by decide +kernel
theorem dX5_endsRow_15 : decode cX5_endsRow 15 = .ok (.ireturn, 1) := by decide +kernel
theorem dX5_lineAt_0 : decode cX5_lineAt 0 = .ok (.aload_n 0, 1) := by decide +kernel
theorem dX5_lineAt_1 : decode cX5_lineAt 1 = .ok (.iload_n 1, 1) := by decide +kernel
theorem dX5_lineAt_2 : decode cX5_lineAt 2 = .ok (.invokevirtual 23, 3) := by decide +kernel
theorem dX5_lineAt_5 : decode cX5_lineAt 5 = .ok (.bipush 97, 2) := by decide +kernel
theorem dX5_lineAt_7 : decode cX5_lineAt 7 = .ok (.isub, 1) := by decide +kernel
theorem dX5_lineAt_8 : decode cX5_lineAt 8 = .ok (.istore_n 2, 1) := by decide +kernel
theorem dX5_lineAt_9 : decode cX5_lineAt 9 = .ok (.iload_n 2, 1) := by decide +kernel
theorem dX5_lineAt_10 : decode cX5_lineAt 10 = .ok (.iconst 0, 1) := by decide +kernel
theorem dX5_lineAt_11 : decode cX5_lineAt 11 = .ok (.bipush 11, 2) := by decide +kernel
theorem dX5_lineAt_13 : decode cX5_lineAt 13 = .ok (.invokestatic 19, 3) := by decide +kernel
theorem dX5_lineAt_16 : decode cX5_lineAt 16 = .ok (.ifCond .eq 7, 3) := by decide +kernel
theorem dX5_lineAt_19 : decode cX5_lineAt 19 = .ok (.iload_n 2, 1) := by decide +kernel
theorem dX5_lineAt_20 : decode cX5_lineAt 20 = .ok (.goto 5, 3) := by decide +kernel
theorem dX5_lineAt_23 : decode cX5_lineAt 23 = .ok (.bipush 15, 2) := by decide +kernel
theorem dX5_lineAt_25 : decode cX5_lineAt 25 = .ok (.ireturn, 1) := by decide +kernel
theorem dX5_isColumn_0 : decode cX5_isColumn 0 = .ok (.aload_n 0, 1) := by decide +kernel
theorem dX5_isColumn_1 : decode cX5_isColumn 1 = .ok (.iload_n 1, 1) := by decide +kernel
theorem dX5_isColumn_2 : decode cX5_isColumn 2 = .ok (.invokevirtual 23, 3) := by decide +kernel
theorem dX5_isColumn_5 : decode cX5_isColumn 5 = .ok (.bipush 46, 2) := by decide +kernel
theorem dX5_isColumn_7 : decode cX5_isColumn 7 = .ok (.if_icmp .eq 13, 3) := by decide +kernel
theorem dX5_isColumn_10 : decode cX5_isColumn 10 = .ok (.aload_n 0, 1) := by decide +kernel
theorem dX5_isColumn_11 : decode cX5_isColumn 11 = .ok (.iload_n 1, 1) := by decide +kernel
theorem dX5_isColumn_12 : decode cX5_isColumn 12 = .ok (.invokevirtual 27, 3) := by decide +kernel
theorem dX5_isColumn_15 : decode cX5_isColumn 15 = .ok (.bipush 15, 2) := by decide +kernel
theorem dX5_isColumn_17 : decode cX5_isColumn 17 = .ok (.if_icmp .eq 7, 3) := by decide +kernel
theorem dX5_isColumn_20 : decode cX5_isColumn 20 = .ok (.iconst 1, 1) := by decide +kernel
theorem dX5_isColumn_21 : decode cX5_isColumn 21 = .ok (.goto 4, 3) := by decide +kernel
theorem dX5_isColumn_24 : decode cX5_isColumn 24 = .ok (.iconst 0, 1) := by decide +kernel
theorem dX5_isColumn_25 : decode cX5_isColumn 25 = .ok (.ireturn, 1) := by decide +kernel
theorem dX5_firstFault_0 : decode cX5_firstFault 0 = .ok (.iconst 0, 1) := by decide +kernel
theorem dX5_firstFault_1 : decode cX5_firstFault 1 = .ok (.istore_n 1, 1) := by decide +kernel
theorem dX5_firstFault_2 : decode cX5_firstFault 2 = .ok (.iconst 0, 1) := by decide +kernel
theorem dX5_firstFault_3 : decode cX5_firstFault 3 = .ok (.istore_n 2, 1) := by decide +kernel
theorem dX5_firstFault_4 : decode cX5_firstFault 4 = .ok (.iconst 0, 1) := by decide +kernel
theorem dX5_firstFault_5 : decode cX5_firstFault 5 = .ok (.istore_n 3, 1) := by decide +kernel
theorem dX5_firstFault_6 : decode cX5_firstFault 6 = .ok (.iload_n 3, 1) := by decide +kernel
theorem dX5_firstFault_7 : decode cX5_firstFault 7 = .ok (.aload_n 0, 1) := by decide +kernel
theorem dX5_firstFault_8 : decode cX5_firstFault 8 = .ok (.getfield 15, 3) := by decide +kernel
theorem dX5_firstFault_11 : decode cX5_firstFault 11 = .ok (.if_icmp .ge 56, 3) := by decide +kernel
theorem dX5_firstFault_14 : decode cX5_firstFault 14 = .ok (.aload_n 0, 1) := by decide +kernel
theorem dX5_firstFault_15 : decode cX5_firstFault 15 = .ok (.iload_n 3, 1) := by decide +kernel
theorem dX5_firstFault_16 : decode cX5_firstFault 16 = .ok (.invokevirtual 30, 3) := by decide +kernel
theorem dX5_firstFault_19 : decode cX5_firstFault 19 = .ok (.ifCond .eq 17, 3) := by decide +kernel
theorem dX5_firstFault_22 : decode cX5_firstFault 22 = .ok (.iload_n 1, 1) := by decide +kernel
theorem dX5_firstFault_23 : decode cX5_firstFault 23 = .ok (.ifCond .ne 5, 3) := by decide +kernel
theorem dX5_firstFault_26 : decode cX5_firstFault 26 = .ok (.iload_n 3, 1) := by decide +kernel
theorem dX5_firstFault_27 : decode cX5_firstFault 27 = .ok (.ireturn, 1) := by decide +kernel
theorem dX5_firstFault_28 : decode cX5_firstFault 28 = .ok (.iinc 2 1, 3) := by decide +kernel
theorem dX5_firstFault_31 : decode cX5_firstFault 31 = .ok (.iconst 0, 1) := by decide +kernel
theorem dX5_firstFault_32 : decode cX5_firstFault 32 = .ok (.istore_n 1, 1) := by decide +kernel
theorem dX5_firstFault_33 : decode cX5_firstFault 33 = .ok (.goto 28, 3) := by decide +kernel
theorem dX5_firstFault_36 : decode cX5_firstFault 36 = .ok (.aload_n 0, 1) := by decide +kernel
theorem dX5_firstFault_37 : decode cX5_firstFault 37 = .ok (.iload_n 3, 1) := by decide +kernel
theorem dX5_firstFault_38 : decode cX5_firstFault 38 = .ok (.invokevirtual 34, 3) := by decide +kernel
theorem dX5_firstFault_41 : decode cX5_firstFault 41 = .ok (.ifCond .eq 15, 3) := by decide +kernel
theorem dX5_firstFault_44 : decode cX5_firstFault 44 = .ok (.iload_n 1, 1) := by decide +kernel
theorem dX5_firstFault_45 : decode cX5_firstFault 45 = .ok (.bipush 12, 2) := by decide +kernel
theorem dX5_firstFault_47 : decode cX5_firstFault 47 = .ok (.if_icmp .eq 9, 3) := by decide +kernel
theorem dX5_firstFault_50 : decode cX5_firstFault 50 = .ok (.iload_n 2, 1) := by decide +kernel
theorem dX5_firstFault_51 : decode cX5_firstFault 51 = .ok (.bipush 6, 2) := by decide +kernel
theorem dX5_firstFault_53 : decode cX5_firstFault 53 = .ok (.if_icmp .ne 5, 3) := by decide +kernel
theorem dX5_firstFault_56 : decode cX5_firstFault 56 = .ok (.iload_n 3, 1) := by decide +kernel
theorem dX5_firstFault_57 : decode cX5_firstFault 57 = .ok (.ireturn, 1) := by decide +kernel
theorem dX5_firstFault_58 : decode cX5_firstFault 58 = .ok (.iinc 1 1, 3) := by decide +kernel
theorem dX5_firstFault_61 : decode cX5_firstFault 61 = .ok (.iinc 3 1, 3) := by decide +kernel
theorem dX5_firstFault_64 : decode cX5_firstFault 64 = .ok (.goto (-58), 3) := by decide +kernel
theorem dX5_firstFault_67 : decode cX5_firstFault 67 = .ok (.iload_n 1, 1) := by decide +kernel
theorem dX5_firstFault_68 : decode cX5_firstFault 68 = .ok (.ifCond .le 10, 3) := by decide +kernel
theorem dX5_firstFault_71 : decode cX5_firstFault 71 = .ok (.aload_n 0, 1) := by decide +kernel
theorem dX5_firstFault_72 : decode cX5_firstFault 72 = .ok (.getfield 15, 3) := by decide +kernel
theorem dX5_firstFault_75 : decode cX5_firstFault 75 = .ok (.goto 5, 3) := by decide +kernel
theorem dX5_firstFault_78 : decode cX5_firstFault 78 = .ok (.bipush (-4), 2) := by decide +kernel
theorem dX5_firstFault_80 : decode cX5_firstFault 80 = .ok (.ireturn, 1) := by decide +kernel
theorem dX5_highestLine_0 : decode cX5_highestLine 0 = .ok (.iconst (-1), 1) := by decide +kernel
theorem dX5_highestLine_1 : decode cX5_highestLine 1 = .ok (.istore_n 1, 1) := by decide +kernel
theorem dX5_highestLine_2 : decode cX5_highestLine 2 = .ok (.iconst 0, 1) := by decide +kernel
theorem dX5_highestLine_3 : decode cX5_highestLine 3 = .ok (.istore_n 2, 1) := by decide +kernel
theorem dX5_highestLine_4 : decode cX5_highestLine 4 = .ok (.iload_n 2, 1) := by decide +kernel
theorem dX5_highestLine_5 : decode cX5_highestLine 5 = .ok (.aload_n 0, 1) := by decide +kernel
theorem dX5_highestLine_6 : decode cX5_highestLine 6 = .ok (.getfield 15, 3) := by decide +kernel
theorem dX5_highestLine_9 : decode cX5_highestLine 9 = .ok (.if_icmp .ge 28, 3) := by decide +kernel
theorem dX5_highestLine_12 : decode cX5_highestLine 12 = .ok (.aload_n 0, 1) := by decide +kernel
theorem dX5_highestLine_13 : decode cX5_highestLine 13 = .ok (.iload_n 2, 1) := by decide +kernel
theorem dX5_highestLine_14 : decode cX5_highestLine 14 = .ok (.invokevirtual 27, 3) := by decide +kernel
theorem dX5_highestLine_17 : decode cX5_highestLine 17 = .ok (.istore_n 3, 1) := by decide +kernel
theorem dX5_highestLine_18 : decode cX5_highestLine 18 = .ok (.iload_n 3, 1) := by decide +kernel
theorem dX5_highestLine_19 : decode cX5_highestLine 19 = .ok (.bipush 15, 2) := by decide +kernel
theorem dX5_highestLine_21 : decode cX5_highestLine 21 = .ok (.if_icmp .eq 10, 3) := by decide +kernel
theorem dX5_highestLine_24 : decode cX5_highestLine 24 = .ok (.iload_n 3, 1) := by decide +kernel
theorem dX5_highestLine_25 : decode cX5_highestLine 25 = .ok (.iload_n 1, 1) := by decide +kernel
theorem dX5_highestLine_26 : decode cX5_highestLine 26 = .ok (.if_icmp .le 5, 3) := by decide +kernel
theorem dX5_highestLine_29 : decode cX5_highestLine 29 = .ok (.iload_n 3, 1) := by decide +kernel
theorem dX5_highestLine_30 : decode cX5_highestLine 30 = .ok (.istore_n 1, 1) := by decide +kernel
theorem dX5_highestLine_31 : decode cX5_highestLine 31 = .ok (.iinc 2 1, 3) := by decide +kernel
theorem dX5_highestLine_34 : decode cX5_highestLine 34 = .ok (.goto (-30), 3) := by decide +kernel
theorem dX5_highestLine_37 : decode cX5_highestLine 37 = .ok (.iload_n 1, 1) := by decide +kernel
theorem dX5_highestLine_38 : decode cX5_highestLine 38 = .ok (.ireturn, 1) := by decide +kernel
theorem dX6_init_0 : decode cX6_init 0 = .ok (.aload_n 0, 1) := by decide +kernel
theorem dX6_init_1 : decode cX6_init 1 = .ok (.invokespecial 1, 3) := by decide +kernel
theorem dX6_init_4 : decode cX6_init 4 = .ok (.aload_n 0, 1) := by decide +kernel
theorem dX6_init_5 : decode cX6_init 5 = .ok (.bipush 6, 2) := by decide +kernel
theorem dX6_init_7 : decode cX6_init 7 = .ok (.anewarray 9, 3) := by decide +kernel
theorem dX6_init_10 : decode cX6_init 10 = .ok (.putfield 11, 3) := by decide +kernel
theorem dX6_init_13 : decode cX6_init 13 = .ok (.aload_n 0, 1) := by decide +kernel
theorem dX6_init_14 : decode cX6_init 14 = .ok (.new 9, 3) := by decide +kernel
theorem dX6_init_17 : decode cX6_init 17 = .ok (.dup, 1) := by decide +kernel
theorem dX6_init_18 : decode cX6_init 18 = .ok (.invokespecial 15, 3) := by decide +kernel
theorem dX6_init_21 : decode cX6_init 21 = .ok (.putfield 16, 3) := by decide +kernel
theorem dX6_init_24 : decode cX6_init 24 = .ok (.aload_n 0, 1) := by decide +kernel
theorem dX6_init_25 : decode cX6_init 25 = .ok (.new 20, 3) := by decide +kernel
theorem dX6_init_28 : decode cX6_init 28 = .ok (.dup, 1) := by decide +kernel
theorem dX6_init_29 : decode cX6_init 29 = .ok (.invokespecial 22, 3) := by decide +kernel
theorem dX6_init_32 : decode cX6_init 32 = .ok (.putfield 23, 3) := by decide +kernel
theorem dX6_init_35 : decode cX6_init 35 = .ok (.aload_n 0, 1) := by decide +kernel
theorem dX6_init_36 : decode cX6_init 36 = .ok (.new 27, 3) := by decide +kernel
theorem dX6_init_39 : decode cX6_init 39 = .ok (.dup, 1) := by decide +kernel
theorem dX6_init_40 : decode cX6_init 40 = .ok (.invokespecial 29, 3) := by decide +kernel
theorem dX6_init_43 : decode cX6_init 43 = .ok (.putfield 30, 3) := by decide +kernel
theorem dX6_init_46 : decode cX6_init 46 = .ok (.aload_n 0, 1) := by decide +kernel
theorem dX6_init_47 : decode cX6_init 47 = .ok (.new 34, 3) := by decide +kernel
theorem dX6_init_50 : decode cX6_init 50 = .ok (.dup, 1) := by decide +kernel
theorem dX6_init_51 : decode cX6_init 51 = .ok (.invokespecial 36, 3) := by decide +kernel
theorem dX6_init_54 : decode cX6_init 54 = .ok (.putfield 37, 3) := by decide +kernel
theorem dX6_init_57 : decode cX6_init 57 = .ok (.aload_n 0, 1) := by decide +kernel
theorem dX6_init_58 : decode cX6_init 58 = .ok (.new 41, 3) := by decide +kernel
theorem dX6_init_61 : decode cX6_init 61 = .ok (.dup, 1) := by decide +kernel
theorem dX6_init_62 : decode cX6_init 62 = .ok (.invokespecial 43, 3) := by decide +kernel
theorem dX6_init_65 : decode cX6_init 65 = .ok (.putfield 44, 3) := by decide +kernel
theorem dX6_init_68 : decode cX6_init 68 = .ok (.aload_n 0, 1) := by decide +kernel
theorem dX6_init_69 : decode cX6_init 69 = .ok (.new 48, 3) := by decide +kernel
theorem dX6_init_72 : decode cX6_init 72 = .ok (.dup, 1) := by decide +kernel
theorem dX6_init_73 : decode cX6_init 73 = .ok (.invokespecial 50, 3) := by decide +kernel
theorem dX6_init_76 : decode cX6_init 76 = .ok (.putfield 51, 3) := by decide +kernel
theorem dX6_init_79 : decode cX6_init 79 = .ok (.aload_n 0, 1) := by decide +kernel
theorem dX6_init_80 : decode cX6_init 80 = .ok (.bipush 8, 2) := by decide +kernel
theorem dX6_init_82 : decode cX6_init 82 = .ok (.newarray .long, 2) := by decide +kernel
theorem dX6_init_84 : decode cX6_init 84 = .ok (.putfield 55, 3) := by decide +kernel
theorem dX6_init_87 : decode cX6_init 87 = .ok (.iconst 0, 1) := by decide +kernel
theorem dX6_init_88 : decode cX6_init 88 = .ok (.istore_n 1, 1) := by decide +kernel
theorem dX6_init_89 : decode cX6_init 89 = .ok (.iload_n 1, 1) := by decide +kernel
theorem dX6_init_90 : decode cX6_init 90 = .ok (.bipush 6, 2) := by decide +kernel
theorem dX6_init_92 : decode cX6_init 92 = .ok (.if_icmp .ge 22, 3) := by decide +kernel
theorem dX6_init_95 : decode cX6_init 95 = .ok (.aload_n 0, 1) := by decide +kernel
theorem dX6_init_96 : decode cX6_init 96 = .ok (.getfield 11, 3) := by decide +kernel
theorem dX6_init_99 : decode cX6_init 99 = .ok (.iload_n 1, 1) := by decide +kernel
theorem dX6_init_100 : decode cX6_init 100 = .ok (.new 9, 3) := by decide +kernel
theorem dX6_init_103 : decode cX6_init 103 = .ok (.dup, 1) := by decide +kernel
theorem dX6_init_104 : decode cX6_init 104 = .ok (.invokespecial 15, 3) := by decide +kernel
theorem dX6_init_107 : decode cX6_init 107 = .ok (.aastore, 1) := by decide +kernel
theorem dX6_init_108 : decode cX6_init 108 = .ok (.iinc 1 1, 3) := by decide +kernel
theorem dX6_init_111 : decode cX6_init 111 = .ok (.goto (-22), 3) := by decide +kernel
theorem dX6_init_114 : decode cX6_init 114 = .ok (.return_, 1) := by decide +kernel
theorem dX6_row_0 : decode cX6_row 0 = .ok (.aload_n 0, 1) := by decide +kernel
theorem dX6_row_1 : decode cX6_row 1 = .ok (.iload_n 1, 1) := by decide +kernel
theorem dX6_row_2 : decode cX6_row 2 = .ok (.invokevirtual 59, 3) := by decide +kernel
theorem dX6_row_5 : decode cX6_row 5 = .ok (.astore 6, 2) := by decide +kernel
theorem dX6_row_7 : decode cX6_row 7 = .ok (.aload 6, 2) := by decide +kernel
theorem dX6_row_9 : decode cX6_row 9 = .ok (.ifnull 33, 3) := by decide +kernel
theorem dX6_row_12 : decode cX6_row 12 = .ok (.iload_n 2, 1) := by decide +kernel
theorem dX6_row_13 : decode cX6_row 13 = .ok (.iconst 1, 1) := by decide +kernel
theorem dX6_row_14 : decode cX6_row 14 = .ok (.bipush 12, 2) := by decide +kernel
theorem dX6_row_16 : decode cX6_row 16 = .ok (.invokestatic 63, 3) := by decide +kernel
theorem dX6_row_19 : decode cX6_row 19 = .ok (.ifCond .eq 23, 3) := by decide +kernel
theorem dX6_row_22 : decode cX6_row 22 = .ok (.iload_n 3, 1) := by decide +kernel
theorem dX6_row_23 : decode cX6_row 23 = .ok (.iconst 1, 1) := by decide +kernel
theorem dX6_row_24 : decode cX6_row 24 = .ok (.bipush 12, 2) := by decide +kernel
theorem dX6_row_26 : decode cX6_row 26 = .ok (.invokestatic 63, 3) := by decide +kernel
theorem dX6_row_29 : decode cX6_row 29 = .ok (.ifCond .eq 13, 3) := by decide +kernel
theorem dX6_row_32 : decode cX6_row 32 = .ok (.iload_n 2, 1) := by decide +kernel
theorem dX6_row_33 : decode cX6_row 33 = .ok (.iload_n 3, 1) := by decide +kernel
theorem dX6_row_34 : decode cX6_row 34 = .ok (.lload 4, 2) := by decide +kernel
theorem dX6_row_36 : decode cX6_row 36 = .ok (.invokestatic 67, 3) := by decide +kernel
theorem dX6_row_39 : decode cX6_row 39 = .ok (.ifCond .ne 5, 3) := by decide +kernel
theorem dX6_row_42 : decode cX6_row 42 = .ok (.iconst (-1), 1) := by decide +kernel
theorem dX6_row_43 : decode cX6_row 43 = .ok (.ireturn, 1) := by decide +kernel
theorem dX6_row_44 : decode cX6_row 44 = .ok (.aload 6, 2) := by decide +kernel
theorem dX6_row_46 : decode cX6_row 46 = .ok (.invokevirtual 71, 3) := by decide +kernel
theorem dX6_row_49 : decode cX6_row 49 = .ok (.istore 7, 2) := by decide +kernel
theorem dX6_row_51 : decode cX6_row 51 = .ok (.aload 6, 2) := by decide +kernel
theorem dX6_row_53 : decode cX6_row 53 = .ok (.iload_n 2, 1) := by decide +kernel
theorem dX6_row_54 : decode cX6_row 54 = .ok (.iload_n 3, 1) := by decide +kernel
theorem dX6_row_55 : decode cX6_row 55 = .ok (.invokevirtual 75, 3) := by decide +kernel
theorem dX6_row_58 : decode cX6_row 58 = .ok (.iconst 0, 1) := by decide +kernel
theorem dX6_row_59 : decode cX6_row 59 = .ok (.istore 8, 2) := by decide +kernel
theorem dX6_row_61 : decode cX6_row 61 = .ok (.iload 8, 2) := by decide +kernel
theorem dX6_row_63 : decode cX6_row 63 = .ok (.iload_n 2, 1) := by decide +kernel
theorem dX6_row_64 : decode cX6_row 64 = .ok (.if_icmp .ge 27, 3) := by decide +kernel
theorem dX6_row_67 : decode cX6_row 67 = .ok (.aload 6, 2) := by decide +kernel
theorem dX6_row_69 : decode cX6_row 69 = .ok (.iload 8, 2) := by decide +kernel
theorem dX6_row_71 : decode cX6_row 71 = .ok (.lload 4, 2) := by decide +kernel
theorem dX6_row_73 : decode cX6_row 73 = .ok (.iload_n 2, 1) := by decide +kernel
theorem dX6_row_74 : decode cX6_row 74 = .ok (.iconst 1, 1) := by decide +kernel
theorem dX6_row_75 : decode cX6_row 75 = .ok (.isub, 1) := by decide +kernel
theorem dX6_row_76 : decode cX6_row 76 = .ok (.iload 8, 2) := by decide +kernel
theorem dX6_row_78 : decode cX6_row 78 = .ok (.isub, 1) := by decide +kernel
theorem dX6_row_79 : decode cX6_row 79 = .ok (.invokestatic 79, 3) := by decide +kernel
theorem dX6_row_82 : decode cX6_row 82 = .ok (.invokevirtual 83, 3) := by decide +kernel
theorem dX6_row_85 : decode cX6_row 85 = .ok (.iinc 8 1, 3) := by decide +kernel
theorem dX6_row_88 : decode cX6_row 88 = .ok (.goto (-27), 3) := by decide +kernel
theorem dX6_row_91 : decode cX6_row 91 = .ok (.iload 7, 2) := by decide +kernel
theorem dX6_row_93 : decode cX6_row 93 = .ok (.ireturn, 1) := by decide +kernel
theorem dX6_write_0 : decode cX6_write 0 = .ok (.iload_n 1, 1) := by decide +kernel
theorem dX6_write_1 : decode cX6_write 1 = .ok (.iconst 1, 1) := by decide +kernel
theorem dX6_write_2 : decode cX6_write 2 = .ok (.bipush 8, 2) := by decide +kernel
theorem dX6_write_4 : decode cX6_write 4 = .ok (.invokestatic 63, 3) := by decide +kernel
theorem dX6_write_7 : decode cX6_write 7 = .ok (.ifCond .ne 5, 3) := by decide +kernel
theorem dX6_write_10 : decode cX6_write 10 = .ok (.iconst (-1), 1) := by decide +kernel
theorem dX6_write_11 : decode cX6_write 11 = .ok (.ireturn, 1) := by decide +kernel
theorem dX6_write_12 : decode cX6_write 12 = .ok (.aload_n 0, 1) := by decide +kernel
theorem dX6_write_13 : decode cX6_write 13 = .ok (.getfield 23, 3) := by decide +kernel
theorem dX6_write_16 : decode cX6_write 16 = .ok (.iload_n 1, 1) := by decide +kernel
theorem dX6_write_17 : decode cX6_write 17 = .ok (.invokevirtual 86, 3) := by decide +kernel
theorem dX6_write_20 : decode cX6_write 20 = .ok (.ifCond .ne 6, 3) := by decide +kernel
theorem dX6_write_23 : decode cX6_write 23 = .ok (.bipush (-3), 2) := by decide +kernel
theorem dX6_write_25 : decode cX6_write 25 = .ok (.ireturn, 1) := by decide +kernel
theorem dX6_write_26 : decode cX6_write 26 = .ok (.iload_n 1, 1) := by decide +kernel
theorem dX6_write_27 : decode cX6_write 27 = .ok (.iconst 1, 1) := by decide +kernel
theorem dX6_write_28 : decode cX6_write 28 = .ok (.isub, 1) := by decide +kernel
theorem dX6_write_29 : decode cX6_write 29 = .ok (.istore 4, 2) := by decide +kernel
theorem dX6_write_31 : decode cX6_write 31 = .ok (.iload 4, 2) := by decide +kernel
theorem dX6_write_33 : decode cX6_write 33 = .ok (.ifCond .lt 28, 3) := by decide +kernel
theorem dX6_write_36 : decode cX6_write 36 = .ok (.aload_n 0, 1) := by decide +kernel
theorem dX6_write_37 : decode cX6_write 37 = .ok (.getfield 23, 3) := by decide +kernel
theorem dX6_write_40 : decode cX6_write 40 = .ok (.lload_n 2, 1) := by decide +kernel
theorem dX6_write_41 : decode cX6_write 41 = .ok (.bipush 8, 2) := by decide +kernel
theorem dX6_write_43 : decode cX6_write 43 = .ok (.iload 4, 2) := by decide +kernel
theorem dX6_write_45 : decode cX6_write 45 = .ok (.imul, 1) := by decide +kernel
theorem dX6_write_46 : decode cX6_write 46 = .ok (.lushr, 1) := by decide +kernel
theorem dX6_write_47 : decode cX6_write 47 = .ok (.l2i, 1) := by decide +kernel
theorem dX6_write_48 : decode cX6_write 48 = .ok (.sipush 255, 3) := by decide +kernel
theorem dX6_write_51 : decode cX6_write 51 = .ok (.iand, 1) := by decide +kernel
theorem dX6_write_52 : decode cX6_write 52 = .ok (.invokevirtual 90, 3) := by decide +kernel
theorem dX6_write_55 : decode cX6_write 55 = .ok (.iinc 4 (-1), 3) := by decide +kernel
theorem dX6_write_58 : decode cX6_write 58 = .ok (.goto (-27), 3) := by decide +kernel
theorem dX6_write_61 : decode cX6_write 61 = .ok (.aload_n 0, 1) := by decide +kernel
theorem dX6_write_62 : decode cX6_write 62 = .ok (.getfield 23, 3) := by decide +kernel
theorem dX6_write_65 : decode cX6_write 65 = .ok (.invokevirtual 94, 3) := by decide +kernel
theorem dX6_write_68 : decode cX6_write 68 = .ok (.ireturn, 1) := by decide +kernel
theorem dX6_wipe_0 : decode cX6_wipe 0 = .ok (.aload_n 0, 1) := by decide +kernel
theorem dX6_wipe_1 : decode cX6_wipe 1 = .ok (.getfield 23, 3) := by decide +kernel
theorem dX6_wipe_4 : decode cX6_wipe 4 = .ok (.invokevirtual 94, 3) := by decide +kernel
theorem dX6_wipe_7 : decode cX6_wipe 7 = .ok (.istore_n 1, 1) := by decide +kernel
theorem dX6_wipe_8 : decode cX6_wipe 8 = .ok (.aload_n 0, 1) := by decide +kernel
theorem dX6_wipe_9 : decode cX6_wipe 9 = .ok (.getfield 23, 3) := by decide +kernel
theorem dX6_wipe_12 : decode cX6_wipe 12 = .ok (.invokevirtual 97, 3) := by decide +kernel
theorem dX6_wipe_15 : decode cX6_wipe 15 = .ok (.iload_n 1, 1) := by decide +kernel
theorem dX6_wipe_16 : decode cX6_wipe 16 = .ok (.ireturn, 1) := by decide +kernel
theorem dX6_fault_0 : decode cX6_fault 0 = .ok (.aload_n 0, 1) := by decide +kernel
theorem dX6_fault_1 : decode cX6_fault 1 = .ok (.getfield 23, 3) := by decide +kernel
theorem dX6_fault_4 : decode cX6_fault 4 = .ok (.invokevirtual 100, 3) := by decide +kernel
theorem dX6_fault_7 : decode cX6_fault 7 = .ok (.ireturn, 1) := by decide +kernel
theorem dX6_lay_0 : decode cX6_lay 0 = .ok (.iload_n 1, 1) := by decide +kernel
theorem dX6_lay_1 : decode cX6_lay 1 = .ok (.iconst 1, 1) := by decide +kernel
theorem dX6_lay_2 : decode cX6_lay 2 = .ok (.bipush 12, 2) := by decide +kernel
theorem dX6_lay_4 : decode cX6_lay 4 = .ok (.invokestatic 63, 3) := by decide +kernel
theorem dX6_lay_7 : decode cX6_lay 7 = .ok (.ifCond .ne 5, 3) := by decide +kernel
theorem dX6_lay_10 : decode cX6_lay 10 = .ok (.iconst (-1), 1) := by decide +kernel
theorem dX6_lay_11 : decode cX6_lay 11 = .ok (.ireturn, 1) := by decide +kernel
theorem dX6_lay_12 : decode cX6_lay 12 = .ok (.aload_n 0, 1) := by decide +kernel
theorem dX6_lay_13 : decode cX6_lay 13 = .ok (.getfield 23, 3) := by decide +kernel
theorem dX6_lay_16 : decode cX6_lay 16 = .ok (.invokevirtual 100, 3) := by decide +kernel
theorem dX6_lay_19 : decode cX6_lay 19 = .ok (.bipush (-4), 2) := by decide +kernel
theorem dX6_lay_21 : decode cX6_lay 21 = .ok (.if_icmp .ne 14, 3) := by decide +kernel
theorem dX6_lay_24 : decode cX6_lay 24 = .ok (.aload_n 0, 1) := by decide +kernel
theorem dX6_lay_25 : decode cX6_lay 25 = .ok (.getfield 23, 3) := by decide +kernel
theorem dX6_lay_28 : decode cX6_lay 28 = .ok (.invokevirtual 103, 3) := by decide +kernel
theorem dX6_lay_31 : decode cX6_lay 31 = .ok (.iload_n 1, 1) := by decide +kernel
theorem dX6_lay_32 : decode cX6_lay 32 = .ok (.if_icmp .lt 6, 3) := by decide +kernel
theorem dX6_lay_35 : decode cX6_lay 35 = .ok (.bipush (-2), 2) := by decide +kernel
theorem dX6_lay_37 : decode cX6_lay 37 = .ok (.ireturn, 1) := by decide +kernel
theorem dX6_lay_38 : decode cX6_lay 38 = .ok (.iconst 0, 1) := by decide +kernel
theorem dX6_lay_39 : decode cX6_lay 39 = .ok (.istore_n 2, 1) := by decide +kernel
theorem dX6_lay_40 : decode cX6_lay 40 = .ok (.iconst 0, 1) := by decide +kernel
theorem dX6_lay_41 : decode cX6_lay 41 = .ok (.istore_n 3, 1) := by decide +kernel
theorem dX6_lay_42 : decode cX6_lay 42 = .ok (.iconst 0, 1) := by decide +kernel
theorem dX6_lay_43 : decode cX6_lay 43 = .ok (.istore 4, 2) := by decide +kernel
theorem dX6_lay_45 : decode cX6_lay 45 = .ok (.iload 4, 2) := by decide +kernel
theorem dX6_lay_47 : decode cX6_lay 47 = .ok (.aload_n 0, 1) := by decide +kernel
theorem dX6_lay_48 : decode cX6_lay 48 = .ok (.getfield 23, 3) := by decide +kernel
theorem dX6_lay_51 : decode cX6_lay 51 = .ok (.invokevirtual 94, 3) := by decide +kernel
theorem dX6_lay_54 : decode cX6_lay 54 = .ok (.if_icmp .ge 38, 3) := by decide +kernel
theorem dX6_lay_57 : decode cX6_lay 57 = .ok (.aload_n 0, 1) := by decide +kernel
theorem dX6_lay_58 : decode cX6_lay 58 = .ok (.getfield 23, 3) := by decide +kernel
theorem dX6_lay_61 : decode cX6_lay 61 = .ok (.iload 4, 2) := by decide +kernel
theorem dX6_lay_63 : decode cX6_lay 63 = .ok (.invokevirtual 106, 3) := by decide +kernel
theorem dX6_lay_66 : decode cX6_lay 66 = .ok (.ifCond .eq 20, 3) := by decide +kernel
theorem dX6_lay_69 : decode cX6_lay 69 = .ok (.aload_n 0, 1) := by decide +kernel
theorem dX6_lay_70 : decode cX6_lay 70 = .ok (.iload_n 3, 1) := by decide +kernel
theorem dX6_lay_71 : decode cX6_lay 71 = .ok (.iload_n 1, 1) := by decide +kernel
theorem dX6_lay_72 : decode cX6_lay 72 = .ok (.iload_n 2, 1) := by decide +kernel
theorem dX6_lay_73 : decode cX6_lay 73 = .ok (.iload 4, 2) := by decide +kernel
theorem dX6_lay_75 : decode cX6_lay 75 = .ok (.invokevirtual 109, 3) := by decide +kernel
theorem dX6_lay_78 : decode cX6_lay 78 = .ok (.iinc 3 1, 3) := by decide +kernel
theorem dX6_lay_81 : decode cX6_lay 81 = .ok (.iload 4, 2) := by decide +kernel
theorem dX6_lay_83 : decode cX6_lay 83 = .ok (.iconst 1, 1) := by decide +kernel
theorem dX6_lay_84 : decode cX6_lay 84 = .ok (.iadd, 1) := by decide +kernel
theorem dX6_lay_85 : decode cX6_lay 85 = .ok (.istore_n 2, 1) := by decide +kernel
theorem dX6_lay_86 : decode cX6_lay 86 = .ok (.iinc 4 1, 3) := by decide +kernel
theorem dX6_lay_89 : decode cX6_lay 89 = .ok (.goto (-44), 3) := by decide +kernel
theorem dX6_lay_92 : decode cX6_lay 92 = .ok (.iload_n 3, 1) := by decide +kernel
theorem dX6_lay_93 : decode cX6_lay 93 = .ok (.ireturn, 1) := by decide +kernel
theorem dX6_told_0 : decode cX6_told 0 = .ok (.aload_n 0, 1) := by decide +kernel
theorem dX6_told_1 : decode cX6_told 1 = .ok (.iload_n 1, 1) := by decide +kernel
theorem dX6_told_2 : decode cX6_told 2 = .ok (.invokevirtual 59, 3) := by decide +kernel
theorem dX6_told_5 : decode cX6_told 5 = .ok (.astore_n 3, 1) := by decide +kernel
theorem dX6_told_6 : decode cX6_told 6 = .ok (.aload_n 3, 1) := by decide +kernel
theorem dX6_told_7 : decode cX6_told 7 = .ok (.ifnull 13, 3) := by decide +kernel
theorem dX6_told_10 : decode cX6_told 10 = .ok (.iload_n 2, 1) := by decide +kernel
theorem dX6_told_11 : decode cX6_told 11 = .ok (.iconst 0, 1) := by decide +kernel
theorem dX6_told_12 : decode cX6_told 12 = .ok (.bipush 13, 2) := by decide +kernel
theorem dX6_told_14 : decode cX6_told 14 = .ok (.invokestatic 63, 3) := by decide +kernel
theorem dX6_told_17 : decode cX6_told 17 = .ok (.ifCond .ne 5, 3) := by decide +kernel
theorem dX6_told_20 : decode cX6_told 20 = .ok (.iconst (-1), 1) := by decide +kernel
theorem dX6_told_21 : decode cX6_told 21 = .ok (.ireturn, 1) := by decide +kernel
theorem dX6_told_22 : decode cX6_told 22 = .ok (.iload_n 2, 1) := by decide +kernel
theorem dX6_told_23 : decode cX6_told 23 = .ok (.ifCond .ne 8, 3) := by decide +kernel
theorem dX6_told_26 : decode cX6_told 26 = .ok (.aload_n 3, 1) := by decide +kernel
theorem dX6_told_27 : decode cX6_told 27 = .ok (.invokevirtual 71, 3) := by decide +kernel
theorem dX6_told_30 : decode cX6_told 30 = .ok (.ireturn, 1) := by decide +kernel
theorem dX6_told_31 : decode cX6_told 31 = .ok (.iload_n 2, 1) := by decide +kernel
theorem dX6_told_32 : decode cX6_told 32 = .ok (.iconst 1, 1) := by decide +kernel
theorem dX6_told_33 : decode cX6_told 33 = .ok (.if_icmp .ne 8, 3) := by decide +kernel
theorem dX6_told_36 : decode cX6_told 36 = .ok (.aload_n 3, 1) := by decide +kernel
theorem dX6_told_37 : decode cX6_told 37 = .ok (.invokevirtual 113, 3) := by decide +kernel
theorem dX6_told_40 : decode cX6_told 40 = .ok (.ireturn, 1) := by decide +kernel
theorem dX6_told_41 : decode cX6_told 41 = .ok (.iload_n 2, 1) := by decide +kernel
theorem dX6_told_42 : decode cX6_told 42 = .ok (.iconst 2, 1) := by decide +kernel
theorem dX6_told_43 : decode cX6_told 43 = .ok (.isub, 1) := by decide +kernel
theorem dX6_told_44 : decode cX6_told 44 = .ok (.istore 4, 2) := by decide +kernel
theorem dX6_told_46 : decode cX6_told 46 = .ok (.aload_n 3, 1) := by decide +kernel
theorem dX6_told_47 : decode cX6_told 47 = .ok (.iload 4, 2) := by decide +kernel
theorem dX6_told_49 : decode cX6_told 49 = .ok (.invokevirtual 116, 3) := by decide +kernel
theorem dX6_told_52 : decode cX6_told 52 = .ok (.ifCond .eq 12, 3) := by decide +kernel
theorem dX6_told_55 : decode cX6_told 55 = .ok (.aload_n 3, 1) := by decide +kernel
theorem dX6_told_56 : decode cX6_told 56 = .ok (.iload 4, 2) := by decide +kernel
theorem dX6_told_58 : decode cX6_told 58 = .ok (.invokevirtual 119, 3) := by decide +kernel
theorem dX6_told_61 : decode cX6_told 61 = .ok (.goto 5, 3) := by decide +kernel
theorem dX6_told_64 : decode cX6_told 64 = .ok (.bipush (-4), 2) := by decide +kernel
theorem dX6_told_66 : decode cX6_told 66 = .ok (.ireturn, 1) := by decide +kernel
theorem dX6_marks_0 : decode cX6_marks 0 = .ok (.aload_n 0, 1) := by decide +kernel
theorem dX6_marks_1 : decode cX6_marks 1 = .ok (.iload_n 1, 1) := by decide +kernel
theorem dX6_marks_2 : decode cX6_marks 2 = .ok (.invokevirtual 59, 3) := by decide +kernel
theorem dX6_marks_5 : decode cX6_marks 5 = .ok (.astore_n 2, 1) := by decide +kernel
theorem dX6_marks_6 : decode cX6_marks 6 = .ok (.aload_n 2, 1) := by decide +kernel
theorem dX6_marks_7 : decode cX6_marks 7 = .ok (.ifnonnull 9, 3) := by decide +kernel
theorem dX6_marks_10 : decode cX6_marks 10 = .ok (.ldc2_w 123, 3) := by decide +kernel
theorem dX6_marks_13 : decode cX6_marks 13 = .ok (.goto 7, 3) := by decide +kernel
theorem dX6_marks_16 : decode cX6_marks 16 = .ok (.aload_n 2, 1) := by decide +kernel
theorem dX6_marks_17 : decode cX6_marks 17 = .ok (.invokevirtual 125, 3) := by decide +kernel
theorem dX6_marks_20 : decode cX6_marks 20 = .ok (.lreturn, 1) := by decide +kernel
theorem dX6_difference_0 : decode cX6_difference 0 = .ok (.aload_n 0, 1) := by decide +kernel
theorem dX6_difference_1 : decode cX6_difference 1 = .ok (.iload_n 1, 1) := by decide +kernel
theorem dX6_difference_2 : decode cX6_difference 2 = .ok (.invokevirtual 59, 3) := by decide +kernel
theorem dX6_difference_5 : decode cX6_difference 5 = .ok (.astore 5, 2) := by decide +kernel
theorem dX6_difference_7 : decode cX6_difference 7 = .ok (.aload 5, 2) := by decide +kernel
theorem dX6_difference_9 : decode cX6_difference 9 = .ok (.ifnull 31, 3) := by decide +kernel
theorem dX6_difference_12 : decode cX6_difference 12 = .ok (.iload_n 2, 1) := by decide +kernel
theorem dX6_difference_13 : decode cX6_difference 13 = .ok (.iconst 0, 1) := by decide +kernel
theorem dX6_difference_14 : decode cX6_difference 14 = .ok (.bipush 11, 2) := by decide +kernel
theorem dX6_difference_16 : decode cX6_difference 16 = .ok (.invokestatic 63, 3) := by decide +kernel
theorem dX6_difference_19 : decode cX6_difference 19 = .ok (.ifCond .eq 21, 3) := by decide +kernel
theorem dX6_difference_22 : decode cX6_difference 22 = .ok (.iload_n 3, 1) := by decide +kernel
theorem dX6_difference_23 : decode cX6_difference 23 = .ok (.iconst 1, 1) := by decide +kernel
theorem dX6_difference_24 : decode cX6_difference 24 = .ok (.bipush 11, 2) := by decide +kernel
theorem dX6_difference_26 : decode cX6_difference 26 = .ok (.invokestatic 63, 3) := by decide +kernel
theorem dX6_difference_29 : decode cX6_difference 29 = .ok (.ifCond .eq 11, 3) := by decide +kernel
theorem dX6_difference_32 : decode cX6_difference 32 = .ok (.iload 4, 2) := by decide +kernel
theorem dX6_difference_34 : decode cX6_difference 34 = .ok (.invokestatic 129, 3) := by decide +kernel
theorem dX6_difference_37 : decode cX6_difference 37 = .ok (.ifCond .ne 6, 3) := by decide +kernel
theorem dX6_difference_40 : decode cX6_difference 40 = .ok (.bipush (-100), 2) := by decide +kernel
theorem dX6_difference_42 : decode cX6_difference 42 = .ok (.ireturn, 1) := by decide +kernel
theorem dX6_difference_43 : decode cX6_difference 43 = .ok (.aload 5, 2) := by decide +kernel
theorem dX6_difference_45 : decode cX6_difference 45 = .ok (.iload_n 2, 1) := by decide +kernel
theorem dX6_difference_46 : decode cX6_difference 46 = .ok (.invokevirtual 116, 3) := by decide +kernel
theorem dX6_difference_49 : decode cX6_difference 49 = .ok (.ifCond .eq 28, 3) := by decide +kernel
theorem dX6_difference_52 : decode cX6_difference 52 = .ok (.aload 5, 2) := by decide +kernel
theorem dX6_difference_54 : decode cX6_difference 54 = .ok (.iload_n 2, 1) := by decide +kernel
theorem dX6_difference_55 : decode cX6_difference 55 = .ok (.iload_n 3, 1) := by decide +kernel
theorem dX6_difference_56 : decode cX6_difference 56 = .ok (.iadd, 1) := by decide +kernel
theorem dX6_difference_57 : decode cX6_difference 57 = .ok (.invokevirtual 116, 3) := by decide +kernel
theorem dX6_difference_60 : decode cX6_difference 60 = .ok (.ifCond .eq 17, 3) := by decide +kernel
theorem dX6_difference_63 : decode cX6_difference 63 = .ok (.aload 5, 2) := by decide +kernel
theorem dX6_difference_65 : decode cX6_difference 65 = .ok (.iload_n 2, 1) := by decide +kernel
theorem dX6_difference_66 : decode cX6_difference 66 = .ok (.iload_n 2, 1) := by decide +kernel
theorem dX6_difference_67 : decode cX6_difference 67 = .ok (.iload_n 3, 1) := by decide +kernel
theorem dX6_difference_68 : decode cX6_difference 68 = .ok (.iadd, 1) := by decide +kernel
theorem dX6_difference_69 : decode cX6_difference 69 = .ok (.iload 4, 2) := by decide +kernel
theorem dX6_difference_71 : decode cX6_difference 71 = .ok (.invokevirtual 132, 3) := by decide +kernel
theorem dX6_difference_74 : decode cX6_difference 74 = .ok (.goto 5, 3) := by decide +kernel
theorem dX6_difference_77 : decode cX6_difference 77 = .ok (.bipush (-50), 2) := by decide +kernel
theorem dX6_difference_79 : decode cX6_difference 79 = .ok (.ireturn, 1) := by decide +kernel
theorem dX6_quarrels_0 : decode cX6_quarrels 0 = .ok (.aload_n 0, 1) := by decide +kernel
theorem dX6_quarrels_1 : decode cX6_quarrels 1 = .ok (.iload_n 1, 1) := by decide +kernel
theorem dX6_quarrels_2 : decode cX6_quarrels 2 = .ok (.invokevirtual 59, 3) := by decide +kernel
theorem dX6_quarrels_5 : decode cX6_quarrels 5 = .ok (.astore 4, 2) := by decide +kernel
theorem dX6_quarrels_7 : decode cX6_quarrels 7 = .ok (.aload 4, 2) := by decide +kernel
theorem dX6_quarrels_9 : decode cX6_quarrels 9 = .ok (.ifnull 19, 3) := by decide +kernel
theorem dX6_quarrels_12 : decode cX6_quarrels 12 = .ok (.iload_n 2, 1) := by decide +kernel
theorem dX6_quarrels_13 : decode cX6_quarrels 13 = .ok (.invokestatic 129, 3) := by decide +kernel
theorem dX6_quarrels_16 : decode cX6_quarrels 16 = .ok (.ifCond .eq 12, 3) := by decide +kernel
theorem dX6_quarrels_19 : decode cX6_quarrels 19 = .ok (.iload_n 3, 1) := by decide +kernel
theorem dX6_quarrels_20 : decode cX6_quarrels 20 = .ok (.iconst 0, 1) := by decide +kernel
theorem dX6_quarrels_21 : decode cX6_quarrels 21 = .ok (.iconst 2, 1) := by decide +kernel
theorem dX6_quarrels_22 : decode cX6_quarrels 22 = .ok (.invokestatic 63, 3) := by decide +kernel
theorem dX6_quarrels_25 : decode cX6_quarrels 25 = .ok (.ifCond .ne 5, 3) := by decide +kernel
theorem dX6_quarrels_28 : decode cX6_quarrels 28 = .ok (.iconst (-1), 1) := by decide +kernel
theorem dX6_quarrels_29 : decode cX6_quarrels 29 = .ok (.ireturn, 1) := by decide +kernel
theorem dX6_quarrels_30 : decode cX6_quarrels 30 = .ok (.iload_n 3, 1) := by decide +kernel
theorem dX6_quarrels_31 : decode cX6_quarrels 31 = .ok (.ifCond .ne 10, 3) := by decide +kernel
theorem dX6_quarrels_34 : decode cX6_quarrels 34 = .ok (.aload 4, 2) := by decide +kernel
theorem dX6_quarrels_36 : decode cX6_quarrels 36 = .ok (.iload_n 2, 1) := by decide +kernel
theorem dX6_quarrels_37 : decode cX6_quarrels 37 = .ok (.invokestatic 136, 3) := by decide +kernel
theorem dX6_quarrels_40 : decode cX6_quarrels 40 = .ok (.ireturn, 1) := by decide +kernel
theorem dX6_quarrels_41 : decode cX6_quarrels 41 = .ok (.aload 4, 2) := by decide +kernel
theorem dX6_quarrels_43 : decode cX6_quarrels 43 = .ok (.iload_n 2, 1) := by decide +kernel
theorem dX6_quarrels_44 : decode cX6_quarrels 44 = .ok (.invokestatic 140, 3) := by decide +kernel
theorem dX6_quarrels_47 : decode cX6_quarrels 47 = .ok (.istore 5, 2) := by decide +kernel
theorem dX6_quarrels_49 : decode cX6_quarrels 49 = .ok (.iload_n 3, 1) := by decide +kernel
theorem dX6_quarrels_50 : decode cX6_quarrels 50 = .ok (.iconst 1, 1) := by decide +kernel
theorem dX6_quarrels_51 : decode cX6_quarrels 51 = .ok (.if_icmp .ne 6, 3) := by decide +kernel
theorem dX6_quarrels_54 : decode cX6_quarrels 54 = .ok (.iload 5, 2) := by decide +kernel
theorem dX6_quarrels_56 : decode cX6_quarrels 56 = .ok (.ireturn, 1) := by decide +kernel
theorem dX6_quarrels_57 : decode cX6_quarrels 57 = .ok (.iload 5, 2) := by decide +kernel
theorem dX6_quarrels_59 : decode cX6_quarrels 59 = .ok (.ifCond .ne 7, 3) := by decide +kernel
theorem dX6_quarrels_62 : decode cX6_quarrels 62 = .ok (.iconst 1, 1) := by decide +kernel
theorem dX6_quarrels_63 : decode cX6_quarrels 63 = .ok (.goto 4, 3) := by decide +kernel
theorem dX6_quarrels_66 : decode cX6_quarrels 66 = .ok (.iconst 0, 1) := by decide +kernel
theorem dX6_quarrels_67 : decode cX6_quarrels 67 = .ok (.ireturn, 1) := by decide +kernel
theorem dX6_hits_0 : decode cX6_hits 0 = .ok (.aload_n 0, 1) := by decide +kernel
theorem dX6_hits_1 : decode cX6_hits 1 = .ok (.iload_n 1, 1) := by decide +kernel
theorem dX6_hits_2 : decode cX6_hits 2 = .ok (.invokevirtual 59, 3) := by decide +kernel
theorem dX6_hits_5 : decode cX6_hits 5 = .ok (.astore 6, 2) := by decide +kernel
theorem dX6_hits_7 : decode cX6_hits 7 = .ok (.aload_n 0, 1) := by decide +kernel
theorem dX6_hits_8 : decode cX6_hits 8 = .ok (.iload_n 2, 1) := by decide +kernel
theorem dX6_hits_9 : decode cX6_hits 9 = .ok (.invokevirtual 59, 3) := by decide +kernel
theorem dX6_hits_12 : decode cX6_hits 12 = .ok (.astore 7, 2) := by decide +kernel
theorem dX6_hits_14 : decode cX6_hits 14 = .ok (.aload 6, 2) := by decide +kernel
theorem dX6_hits_16 : decode cX6_hits 16 = .ok (.ifnull 23, 3) := by decide +kernel
theorem dX6_hits_19 : decode cX6_hits 19 = .ok (.aload 7, 2) := by decide +kernel
theorem dX6_hits_21 : decode cX6_hits 21 = .ok (.ifnull 18, 3) := by decide +kernel
theorem dX6_hits_24 : decode cX6_hits 24 = .ok (.iload_n 3, 1) := by decide +kernel
theorem dX6_hits_25 : decode cX6_hits 25 = .ok (.invokestatic 143, 3) := by decide +kernel
theorem dX6_hits_28 : decode cX6_hits 28 = .ok (.ifCond .eq 11, 3) := by decide +kernel
theorem dX6_hits_31 : decode cX6_hits 31 = .ok (.iload 4, 2) := by decide +kernel
theorem dX6_hits_33 : decode cX6_hits 33 = .ok (.invokestatic 143, 3) := by decide +kernel
theorem dX6_hits_36 : decode cX6_hits 36 = .ok (.ifCond .ne 5, 3) := by decide +kernel
theorem dX6_hits_39 : decode cX6_hits 39 = .ok (.iconst (-1), 1) := by decide +kernel
