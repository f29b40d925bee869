theorem dX0_init_0 : decode cX0_init 0 = .ok (.aload_n 0, 1) := by decide +kernel
theorem dX0_init_1 : decode cX0_init 1 = .ok (.invokespecial 3, 3) := by decide +kernel
theorem dX0_init_4 : decode cX0_init 4 = .ok (.aload_n 0, 1) := by decide +kernel
theorem dX0_init_5 : decode cX0_init 5 = .ok (.aload_n 1, 1) := by decide +kernel
theorem dX0_init_6 : decode cX0_init 6 = .ok (.putfield 9, 3) := by decide +kernel
theorem dX0_init_9 : decode cX0_init 9 = .ok (.aload_n 0, 1) := by decide +kernel
theorem dX0_init_10 : decode cX0_init 10 = .ok (.aload_n 2, 1) := by decide +kernel
theorem dX0_init_11 : decode cX0_init 11 = .ok (.putfield 15, 3) := by decide +kernel
theorem dX0_init_14 : decode cX0_init 14 = .ok (.aload_n 0, 1) := by decide +kernel
theorem dX0_init_15 : decode cX0_init 15 = .ok (.aload_n 3, 1) := by decide +kernel
theorem dX0_init_16 : decode cX0_init 16 = .ok (.putfield 19, 3) := by decide +kernel
theorem dX0_init_19 : decode cX0_init 19 = .ok (.return_, 1) := by decide +kernel
theorem dX0_find_0 : decode cX0_find 0 = .ok (.aload_n 0, 1) := by decide +kernel
theorem dX0_find_1 : decode cX0_find 1 = .ok (.getfield 23, 3) := by decide +kernel
theorem dX0_find_4 : decode cX0_find 4 = .ok (.ifCond .eq 4, 3) := by decide +kernel
theorem dX0_find_7 : decode cX0_find 7 = .ok (.return_, 1) := by decide +kernel
theorem dX0_find_8 : decode cX0_find 8 = .ok (.aload_n 0, 1) := by decide +kernel
theorem dX0_find_9 : decode cX0_find 9 = .ok (.getfield 9, 3) := by decide +kernel
theorem dX0_find_12 : decode cX0_find 12 = .ok (.invokevirtual 27, 3) := by decide +kernel
theorem dX0_find_15 : decode cX0_find 15 = .ok (.bipush 8, 2) := by decide +kernel
theorem dX0_find_17 : decode cX0_find 17 = .ok (.invokestatic 33, 3) := by decide +kernel
theorem dX0_find_20 : decode cX0_find 20 = .ok (.istore_n 1, 1) := by decide +kernel
theorem dX0_find_21 : decode cX0_find 21 = .ok (.aload_n 0, 1) := by decide +kernel
theorem dX0_find_22 : decode cX0_find 22 = .ok (.invokevirtual 39, 3) := by decide +kernel
theorem dX0_find_25 : decode cX0_find 25 = .ok (.istore_n 2, 1) := by decide +kernel
theorem dX0_find_26 : decode cX0_find 26 = .ok (.aload_n 0, 1) := by decide +kernel
theorem dX0_find_27 : decode cX0_find 27 = .ok (.bipush (-6), 2) := by decide +kernel
theorem dX0_find_29 : decode cX0_find 29 = .ok (.putfield 42, 3) := by decide +kernel
theorem dX0_find_32 : decode cX0_find 32 = .ok (.iconst 0, 1) := by decide +kernel
theorem dX0_find_33 : decode cX0_find 33 = .ok (.istore_n 3, 1) := by decide +kernel
theorem dX0_find_34 : decode cX0_find 34 = .ok (.iload_n 3, 1) := by decide +kernel
theorem dX0_find_35 : decode cX0_find 35 = .ok (.iload_n 1, 1) := by decide +kernel
theorem dX0_find_36 : decode cX0_find 36 = .ok (.if_icmp .gt 71, 3) := by decide +kernel
theorem dX0_find_39 : decode cX0_find 39 = .ok (.aload_n 0, 1) := by decide +kernel
theorem dX0_find_40 : decode cX0_find 40 = .ok (.getfield 42, 3) := by decide +kernel
theorem dX0_find_43 : decode cX0_find 43 = .ok (.ifCond .ge 64, 3) := by decide +kernel
theorem dX0_find_46 : decode cX0_find 46 = .ok (.iconst 0, 1) := by decide +kernel
theorem dX0_find_47 : decode cX0_find 47 = .ok (.istore 4, 2) := by decide +kernel
theorem dX0_find_49 : decode cX0_find 49 = .ok (.iload 4, 2) := by decide +kernel
theorem dX0_find_51 : decode cX0_find 51 = .ok (.iconst 1, 1) := by decide +kernel
theorem dX0_find_52 : decode cX0_find 52 = .ok (.iload_n 1, 1) := by decide +kernel
theorem dX0_find_53 : decode cX0_find 53 = .ok (.ishl, 1) := by decide +kernel
theorem dX0_find_54 : decode cX0_find 54 = .ok (.if_icmp .ge 47, 3) := by decide +kernel
theorem dX0_find_57 : decode cX0_find 57 = .ok (.aload_n 0, 1) := by decide +kernel
theorem dX0_find_58 : decode cX0_find 58 = .ok (.getfield 42, 3) := by decide +kernel
theorem dX0_find_61 : decode cX0_find 61 = .ok (.ifCond .ge 40, 3) := by decide +kernel
theorem dX0_find_64 : decode cX0_find 64 = .ok (.iload 4, 2) := by decide +kernel
theorem dX0_find_66 : decode cX0_find 66 = .ok (.invokestatic 46, 3) := by decide +kernel
theorem dX0_find_69 : decode cX0_find 69 = .ok (.iload_n 3, 1) := by decide +kernel
theorem dX0_find_70 : decode cX0_find 70 = .ok (.if_icmp .ne 25, 3) := by decide +kernel
theorem dX0_find_73 : decode cX0_find 73 = .ok (.iload 4, 2) := by decide +kernel
theorem dX0_find_75 : decode cX0_find 75 = .ok (.iload_n 2, 1) := by decide +kernel
theorem dX0_find_76 : decode cX0_find 76 = .ok (.iand, 1) := by decide +kernel
theorem dX0_find_77 : decode cX0_find 77 = .ok (.ifCond .ne 18, 3) := by decide +kernel
theorem dX0_find_80 : decode cX0_find 80 = .ok (.aload_n 0, 1) := by decide +kernel
theorem dX0_find_81 : decode cX0_find 81 = .ok (.iload 4, 2) := by decide +kernel
theorem dX0_find_83 : decode cX0_find 83 = .ok (.invokevirtual 52, 3) := by decide +kernel
theorem dX0_find_86 : decode cX0_find 86 = .ok (.ifCond .eq 9, 3) := by decide +kernel
theorem dX0_find_89 : decode cX0_find 89 = .ok (.aload_n 0, 1) := by decide +kernel
theorem dX0_find_90 : decode cX0_find 90 = .ok (.iload 4, 2) := by decide +kernel
theorem dX0_find_92 : decode cX0_find 92 = .ok (.putfield 42, 3) := by decide +kernel
theorem dX0_find_95 : decode cX0_find 95 = .ok (.iinc 4 1, 3) := by decide +kernel
theorem dX0_find_98 : decode cX0_find 98 = .ok (.goto (-49), 3) := by decide +kernel
theorem dX0_find_101 : decode cX0_find 101 = .ok (.iinc 3 1, 3) := by decide +kernel
theorem dX0_find_104 : decode cX0_find 104 = .ok (.goto (-70), 3) := by decide +kernel
theorem dX0_find_107 : decode cX0_find 107 = .ok (.aload_n 0, 1) := by decide +kernel
theorem dX0_find_108 : decode cX0_find 108 = .ok (.iconst 0, 1) := by decide +kernel
theorem dX0_find_109 : decode cX0_find 109 = .ok (.invokevirtual 56, 3) := by decide +kernel
theorem dX0_find_112 : decode cX0_find 112 = .ok (.aload_n 0, 1) := by decide +kernel
theorem dX0_find_113 : decode cX0_find 113 = .ok (.iconst 1, 1) := by decide +kernel
theorem dX0_find_114 : decode cX0_find 114 = .ok (.putfield 23, 3) := by decide +kernel
theorem dX0_find_117 : decode cX0_find 117 = .ok (.return_, 1) := by decide +kernel
theorem dX0_endsFair_0 : decode cX0_endsFair 0 = .ok (.aload_n 0, 1) := by decide +kernel
theorem dX0_endsFair_1 : decode cX0_endsFair 1 = .ok (.iload_n 1, 1) := by decide +kernel
theorem dX0_endsFair_2 : decode cX0_endsFair 2 = .ok (.invokevirtual 56, 3) := by decide +kernel
theorem dX0_endsFair_5 : decode cX0_endsFair 5 = .ok (.aload_n 0, 1) := by decide +kernel
theorem dX0_endsFair_6 : decode cX0_endsFair 6 = .ok (.getfield 19, 3) := by decide +kernel
theorem dX0_endsFair_9 : decode cX0_endsFair 9 = .ok (.aload_n 0, 1) := by decide +kernel
theorem dX0_endsFair_10 : decode cX0_endsFair 10 = .ok (.getfield 15, 3) := by decide +kernel
theorem dX0_endsFair_13 : decode cX0_endsFair 13 = .ok (.invokevirtual 60, 3) := by decide +kernel
theorem dX0_endsFair_16 : decode cX0_endsFair 16 = .ok (.invokevirtual 65, 3) := by decide +kernel
theorem dX0_endsFair_19 : decode cX0_endsFair 19 = .ok (.aload_n 0, 1) := by decide +kernel
theorem dX0_endsFair_20 : decode cX0_endsFair 20 = .ok (.getfield 19, 3) := by decide +kernel
theorem dX0_endsFair_23 : decode cX0_endsFair 23 = .ok (.getfield 70, 3) := by decide +kernel
theorem dX0_endsFair_26 : decode cX0_endsFair 26 = .ok (.ifCond .ne 7, 3) := by decide +kernel
theorem dX0_endsFair_29 : decode cX0_endsFair 29 = .ok (.iconst 1, 1) := by decide +kernel
theorem dX0_endsFair_30 : decode cX0_endsFair 30 = .ok (.goto 4, 3) := by decide +kernel
theorem dX0_endsFair_33 : decode cX0_endsFair 33 = .ok (.iconst 0, 1) := by decide +kernel
theorem dX0_endsFair_34 : decode cX0_endsFair 34 = .ok (.ireturn, 1) := by decide +kernel
theorem dX0_leftAlready_0 : decode cX0_leftAlready 0 = .ok (.iconst 0, 1) := by decide +kernel
theorem dX0_leftAlready_1 : decode cX0_leftAlready 1 = .ok (.istore_n 1, 1) := by decide +kernel
theorem dX0_leftAlready_2 : decode cX0_leftAlready 2 = .ok (.iconst 0, 1) := by decide +kernel
theorem dX0_leftAlready_3 : decode cX0_leftAlready 3 = .ok (.istore_n 2, 1) := by decide +kernel
theorem dX0_leftAlready_4 : decode cX0_leftAlready 4 = .ok (.iconst 0, 1) := by decide +kernel
theorem dX0_leftAlready_5 : decode cX0_leftAlready 5 = .ok (.istore_n 3, 1) := by decide +kernel
theorem dX0_leftAlready_6 : decode cX0_leftAlready 6 = .ok (.iload_n 3, 1) := by decide +kernel
theorem dX0_leftAlready_7 : decode cX0_leftAlready 7 = .ok (.aload_n 0, 1) := by decide +kernel
theorem dX0_leftAlready_8 : decode cX0_leftAlready 8 = .ok (.getfield 9, 3) := by decide +kernel
theorem dX0_leftAlready_11 : decode cX0_leftAlready 11 = .ok (.getfield 73, 3) := by decide +kernel
theorem dX0_leftAlready_14 : decode cX0_leftAlready 14 = .ok (.if_icmp .ge 41, 3) := by decide +kernel
theorem dX0_leftAlready_17 : decode cX0_leftAlready 17 = .ok (.iload_n 1, 1) := by decide +kernel
theorem dX0_leftAlready_18 : decode cX0_leftAlready 18 = .ok (.aload_n 0, 1) := by decide +kernel
theorem dX0_leftAlready_19 : decode cX0_leftAlready 19 = .ok (.getfield 9, 3) := by decide +kernel
theorem dX0_leftAlready_22 : decode cX0_leftAlready 22 = .ok (.getfield 76, 3) := by decide +kernel
theorem dX0_leftAlready_25 : decode cX0_leftAlready 25 = .ok (.iload_n 3, 1) := by decide +kernel
theorem dX0_leftAlready_26 : decode cX0_leftAlready 26 = .ok (.aaload, 1) := by decide +kernel
theorem dX0_leftAlready_27 : decode cX0_leftAlready 27 = .ok (.getfield 80, 3) := by decide +kernel
theorem dX0_leftAlready_30 : decode cX0_leftAlready 30 = .ok (.iload_n 2, 1) := by decide +kernel
theorem dX0_leftAlready_31 : decode cX0_leftAlready 31 = .ok (.ishl, 1) := by decide +kernel
theorem dX0_leftAlready_32 : decode cX0_leftAlready 32 = .ok (.ior, 1) := by decide +kernel
theorem dX0_leftAlready_33 : decode cX0_leftAlready 33 = .ok (.istore_n 1, 1) := by decide +kernel
theorem dX0_leftAlready_34 : decode cX0_leftAlready 34 = .ok (.iload_n 2, 1) := by decide +kernel
theorem dX0_leftAlready_35 : decode cX0_leftAlready 35 = .ok (.aload_n 0, 1) := by decide +kernel
theorem dX0_leftAlready_36 : decode cX0_leftAlready 36 = .ok (.getfield 9, 3) := by decide +kernel
theorem dX0_leftAlready_39 : decode cX0_leftAlready 39 = .ok (.getfield 76, 3) := by decide +kernel
theorem dX0_leftAlready_42 : decode cX0_leftAlready 42 = .ok (.iload_n 3, 1) := by decide +kernel
theorem dX0_leftAlready_43 : decode cX0_leftAlready 43 = .ok (.aaload, 1) := by decide +kernel
theorem dX0_leftAlready_44 : decode cX0_leftAlready 44 = .ok (.getfield 85, 3) := by decide +kernel
theorem dX0_leftAlready_47 : decode cX0_leftAlready 47 = .ok (.iadd, 1) := by decide +kernel
theorem dX0_leftAlready_48 : decode cX0_leftAlready 48 = .ok (.istore_n 2, 1) := by decide +kernel
theorem dX0_leftAlready_49 : decode cX0_leftAlready 49 = .ok (.iinc 3 1, 3) := by decide +kernel
theorem dX0_leftAlready_52 : decode cX0_leftAlready 52 = .ok (.goto (-46), 3) := by decide +kernel
theorem dX0_leftAlready_55 : decode cX0_leftAlready 55 = .ok (.iload_n 1, 1) := by decide +kernel
theorem dX0_leftAlready_56 : decode cX0_leftAlready 56 = .ok (.ireturn, 1) := by decide +kernel
theorem dX0_leaveOut_0 : decode cX0_leaveOut 0 = .ok (.iload_n 1, 1) := by decide +kernel
theorem dX0_leaveOut_1 : decode cX0_leaveOut 1 = .ok (.istore_n 2, 1) := by decide +kernel
theorem dX0_leaveOut_2 : decode cX0_leaveOut 2 = .ok (.iconst 0, 1) := by decide +kernel
theorem dX0_leaveOut_3 : decode cX0_leaveOut 3 = .ok (.istore_n 3, 1) := by decide +kernel
theorem dX0_leaveOut_4 : decode cX0_leaveOut 4 = .ok (.iload_n 3, 1) := by decide +kernel
theorem dX0_leaveOut_5 : decode cX0_leaveOut 5 = .ok (.aload_n 0, 1) := by decide +kernel
theorem dX0_leaveOut_6 : decode cX0_leaveOut 6 = .ok (.getfield 9, 3) := by decide +kernel
theorem dX0_leaveOut_9 : decode cX0_leaveOut 9 = .ok (.getfield 73, 3) := by decide +kernel
theorem dX0_leaveOut_12 : decode cX0_leaveOut 12 = .ok (.if_icmp .ge 44, 3) := by decide +kernel
theorem dX0_leaveOut_15 : decode cX0_leaveOut 15 = .ok (.aload_n 0, 1) := by decide +kernel
theorem dX0_leaveOut_16 : decode cX0_leaveOut 16 = .ok (.getfield 9, 3) := by decide +kernel
theorem dX0_leaveOut_19 : decode cX0_leaveOut 19 = .ok (.getfield 76, 3) := by decide +kernel
theorem dX0_leaveOut_22 : decode cX0_leaveOut 22 = .ok (.iload_n 3, 1) := by decide +kernel
theorem dX0_leaveOut_23 : decode cX0_leaveOut 23 = .ok (.aaload, 1) := by decide +kernel
theorem dX0_leaveOut_24 : decode cX0_leaveOut 24 = .ok (.astore 4, 2) := by decide +kernel
theorem dX0_leaveOut_26 : decode cX0_leaveOut 26 = .ok (.aload 4, 2) := by decide +kernel
theorem dX0_leaveOut_28 : decode cX0_leaveOut 28 = .ok (.iload_n 2, 1) := by decide +kernel
theorem dX0_leaveOut_29 : decode cX0_leaveOut 29 = .ok (.iconst 1, 1) := by decide +kernel
theorem dX0_leaveOut_30 : decode cX0_leaveOut 30 = .ok (.aload 4, 2) := by decide +kernel
theorem dX0_leaveOut_32 : decode cX0_leaveOut 32 = .ok (.getfield 85, 3) := by decide +kernel
theorem dX0_leaveOut_35 : decode cX0_leaveOut 35 = .ok (.ishl, 1) := by decide +kernel
theorem dX0_leaveOut_36 : decode cX0_leaveOut 36 = .ok (.iconst 1, 1) := by decide +kernel
theorem dX0_leaveOut_37 : decode cX0_leaveOut 37 = .ok (.isub, 1) := by decide +kernel
theorem dX0_leaveOut_38 : decode cX0_leaveOut 38 = .ok (.iand, 1) := by decide +kernel
theorem dX0_leaveOut_39 : decode cX0_leaveOut 39 = .ok (.putfield 87, 3) := by decide +kernel
theorem dX0_leaveOut_42 : decode cX0_leaveOut 42 = .ok (.iload_n 2, 1) := by decide +kernel
theorem dX0_leaveOut_43 : decode cX0_leaveOut 43 = .ok (.aload 4, 2) := by decide +kernel
theorem dX0_leaveOut_45 : decode cX0_leaveOut 45 = .ok (.getfield 85, 3) := by decide +kernel
theorem dX0_leaveOut_48 : decode cX0_leaveOut 48 = .ok (.ishr, 1) := by decide +kernel
theorem dX0_leaveOut_49 : decode cX0_leaveOut 49 = .ok (.istore_n 2, 1) := by decide +kernel
theorem dX0_leaveOut_50 : decode cX0_leaveOut 50 = .ok (.iinc 3 1, 3) := by decide +kernel
theorem dX0_leaveOut_53 : decode cX0_leaveOut 53 = .ok (.goto (-49), 3) := by decide +kernel
theorem dX0_leaveOut_56 : decode cX0_leaveOut 56 = .ok (.return_, 1) := by decide +kernel
theorem dX1_init_0 : decode cX1_init 0 = .ok (.aload_n 0, 1) := by decide +kernel
theorem dX1_init_1 : decode cX1_init 1 = .ok (.invokespecial 3, 3) := by decide +kernel
theorem dX1_init_4 : decode cX1_init 4 = .ok (.aload_n 0, 1) := by decide +kernel
theorem dX1_init_5 : decode cX1_init 5 = .ok (.sipush 200, 3) := by decide +kernel
theorem dX1_init_8 : decode cX1_init 8 = .ok (.putfield 9, 3) := by decide +kernel
theorem dX1_init_11 : decode cX1_init 11 = .ok (.aload_n 0, 1) := by decide +kernel
theorem dX1_init_12 : decode cX1_init 12 = .ok (.bipush 10, 2) := by decide +kernel
theorem dX1_init_14 : decode cX1_init 14 = .ok (.putfield 15, 3) := by decide +kernel
theorem dX1_init_17 : decode cX1_init 17 = .ok (.aload_n 0, 1) := by decide +kernel
theorem dX1_init_18 : decode cX1_init 18 = .ok (.bipush 50, 2) := by decide +kernel
theorem dX1_init_20 : decode cX1_init 20 = .ok (.putfield 18, 3) := by decide +kernel
theorem dX1_init_23 : decode cX1_init 23 = .ok (.aload_n 0, 1) := by decide +kernel
theorem dX1_init_24 : decode cX1_init 24 = .ok (.bipush 6, 2) := by decide +kernel
theorem dX1_init_26 : decode cX1_init 26 = .ok (.newarray .int, 2) := by decide +kernel
theorem dX1_init_28 : decode cX1_init 28 = .ok (.putfield 21, 3) := by decide +kernel
theorem dX1_init_31 : decode cX1_init 31 = .ok (.aload_n 0, 1) := by decide +kernel
theorem dX1_init_32 : decode cX1_init 32 = .ok (.bipush 6, 2) := by decide +kernel
theorem dX1_init_34 : decode cX1_init 34 = .ok (.newarray .int, 2) := by decide +kernel
theorem dX1_init_36 : decode cX1_init 36 = .ok (.putfield 25, 3) := by decide +kernel
theorem dX1_init_39 : decode cX1_init 39 = .ok (.return_, 1) := by decide +kernel
theorem dX1_most_0 : decode cX1_most 0 = .ok (.iload_n 0, 1) := by decide +kernel
theorem dX1_most_1 : decode cX1_most 1 = .ok (.ifCond .ne 7, 3) := by decide +kernel
theorem dX1_most_4 : decode cX1_most 4 = .ok (.sipush 1000, 3) := by decide +kernel
theorem dX1_most_7 : decode cX1_most 7 = .ok (.ireturn, 1) := by decide +kernel
theorem dX1_most_8 : decode cX1_most 8 = .ok (.iload_n 0, 1) := by decide +kernel
theorem dX1_most_9 : decode cX1_most 9 = .ok (.iconst 1, 1) := by decide +kernel
theorem dX1_most_10 : decode cX1_most 10 = .ok (.if_icmp .ne 8, 3) := by decide +kernel
theorem dX1_most_13 : decode cX1_most 13 = .ok (.bipush 99, 2) := by decide +kernel
theorem dX1_most_15 : decode cX1_most 15 = .ok (.goto 5, 3) := by decide +kernel
theorem dX1_most_18 : decode cX1_most 18 = .ok (.bipush 99, 2) := by decide +kernel
theorem dX1_most_20 : decode cX1_most 20 = .ok (.ireturn, 1) := by decide +kernel
theorem dX1_put_0 : decode cX1_put 0 = .ok (.iload_n 1, 1) := by decide +kernel
theorem dX1_put_1 : decode cX1_put 1 = .ok (.ifCond .ne 16, 3) := by decide +kernel
theorem dX1_put_4 : decode cX1_put 4 = .ok (.aload_n 0, 1) := by decide +kernel
theorem dX1_put_5 : decode cX1_put 5 = .ok (.getfield 9, 3) := by decide +kernel
theorem dX1_put_8 : decode cX1_put 8 = .ok (.istore_n 3, 1) := by decide +kernel
theorem dX1_put_9 : decode cX1_put 9 = .ok (.aload_n 0, 1) := by decide +kernel
theorem dX1_put_10 : decode cX1_put 10 = .ok (.iload_n 2, 1) := by decide +kernel
theorem dX1_put_11 : decode cX1_put 11 = .ok (.putfield 9, 3) := by decide +kernel
theorem dX1_put_14 : decode cX1_put 14 = .ok (.goto 31, 3) := by decide +kernel
theorem dX1_put_17 : decode cX1_put 17 = .ok (.iload_n 1, 1) := by decide +kernel
theorem dX1_put_18 : decode cX1_put 18 = .ok (.iconst 1, 1) := by decide +kernel
theorem dX1_put_19 : decode cX1_put 19 = .ok (.if_icmp .ne 16, 3) := by decide +kernel
theorem dX1_put_22 : decode cX1_put 22 = .ok (.aload_n 0, 1) := by decide +kernel
theorem dX1_put_23 : decode cX1_put 23 = .ok (.getfield 15, 3) := by decide +kernel
theorem dX1_put_26 : decode cX1_put 26 = .ok (.istore_n 3, 1) := by decide +kernel
theorem dX1_put_27 : decode cX1_put 27 = .ok (.aload_n 0, 1) := by decide +kernel
theorem dX1_put_28 : decode cX1_put 28 = .ok (.iload_n 2, 1) := by decide +kernel
theorem dX1_put_29 : decode cX1_put 29 = .ok (.putfield 15, 3) := by decide +kernel
theorem dX1_put_32 : decode cX1_put 32 = .ok (.goto 13, 3) := by decide +kernel
theorem dX1_put_35 : decode cX1_put 35 = .ok (.aload_n 0, 1) := by decide +kernel
theorem dX1_put_36 : decode cX1_put 36 = .ok (.getfield 18, 3) := by decide +kernel
theorem dX1_put_39 : decode cX1_put 39 = .ok (.istore_n 3, 1) := by decide +kernel
theorem dX1_put_40 : decode cX1_put 40 = .ok (.aload_n 0, 1) := by decide +kernel
theorem dX1_put_41 : decode cX1_put 41 = .ok (.iload_n 2, 1) := by decide +kernel
theorem dX1_put_42 : decode cX1_put 42 = .ok (.putfield 18, 3) := by decide +kernel
theorem dX1_put_45 : decode cX1_put 45 = .ok (.iload_n 3, 1) := by decide +kernel
theorem dX1_put_46 : decode cX1_put 46 = .ok (.ireturn, 1) := by decide +kernel
theorem dX1_take_0 : decode cX1_take 0 = .ok (.aload_n 0, 1) := by decide +kernel
theorem dX1_take_1 : decode cX1_take 1 = .ok (.aload_n 1, 1) := by decide +kernel
theorem dX1_take_2 : decode cX1_take 2 = .ok (.getfield 28, 3) := by decide +kernel
theorem dX1_take_5 : decode cX1_take 5 = .ok (.iconst 1, 1) := by decide +kernel
theorem dX1_take_6 : decode cX1_take 6 = .ok (.iadd, 1) := by decide +kernel
theorem dX1_take_7 : decode cX1_take 7 = .ok (.putfield 33, 3) := by decide +kernel
theorem dX1_take_10 : decode cX1_take 10 = .ok (.aload_n 1, 1) := by decide +kernel
theorem dX1_take_11 : decode cX1_take 11 = .ok (.getfield 36, 3) := by decide +kernel
theorem dX1_take_14 : decode cX1_take 14 = .ok (.iconst 0, 1) := by decide +kernel
theorem dX1_take_15 : decode cX1_take 15 = .ok (.aload_n 0, 1) := by decide +kernel
theorem dX1_take_16 : decode cX1_take 16 = .ok (.getfield 21, 3) := by decide +kernel
theorem dX1_take_19 : decode cX1_take 19 = .ok (.iconst 0, 1) := by decide +kernel
theorem dX1_take_20 : decode cX1_take 20 = .ok (.aload_n 0, 1) := by decide +kernel
theorem dX1_take_21 : decode cX1_take 21 = .ok (.getfield 33, 3) := by decide +kernel
theorem dX1_take_24 : decode cX1_take 24 = .ok (.invokestatic 37, 3) := by decide +kernel
theorem dX1_take_27 : decode cX1_take 27 = .ok (.aload_n 1, 1) := by decide +kernel
theorem dX1_take_28 : decode cX1_take 28 = .ok (.getfield 43, 3) := by decide +kernel
theorem dX1_take_31 : decode cX1_take 31 = .ok (.iconst 0, 1) := by decide +kernel
theorem dX1_take_32 : decode cX1_take 32 = .ok (.aload_n 0, 1) := by decide +kernel
theorem dX1_take_33 : decode cX1_take 33 = .ok (.getfield 25, 3) := by decide +kernel
theorem dX1_take_36 : decode cX1_take 36 = .ok (.iconst 0, 1) := by decide +kernel
theorem dX1_take_37 : decode cX1_take 37 = .ok (.aload_n 0, 1) := by decide +kernel
theorem dX1_take_38 : decode cX1_take 38 = .ok (.getfield 33, 3) := by decide +kernel
theorem dX1_take_41 : decode cX1_take 41 = .ok (.invokestatic 37, 3) := by decide +kernel
theorem dX1_take_44 : decode cX1_take 44 = .ok (.aload_n 0, 1) := by decide +kernel
theorem dX1_take_45 : decode cX1_take 45 = .ok (.iconst 0, 1) := by decide +kernel
theorem dX1_take_46 : decode cX1_take 46 = .ok (.putfield 44, 3) := by decide +kernel
theorem dX1_take_49 : decode cX1_take 49 = .ok (.return_, 1) := by decide +kernel
theorem dX1_isThere_0 : decode cX1_isThere 0 = .ok (.aload_n 0, 1) := by decide +kernel
theorem dX1_isThere_1 : decode cX1_isThere 1 = .ok (.getfield 44, 3) := by decide +kernel
theorem dX1_isThere_4 : decode cX1_isThere 4 = .ok (.aload_n 0, 1) := by decide +kernel
theorem dX1_isThere_5 : decode cX1_isThere 5 = .ok (.getfield 47, 3) := by decide +kernel
theorem dX1_isThere_8 : decode cX1_isThere 8 = .ok (.ior, 1) := by decide +kernel
theorem dX1_isThere_9 : decode cX1_isThere 9 = .ok (.iload_n 1, 1) := by decide +kernel
theorem dX1_isThere_10 : decode cX1_isThere 10 = .ok (.ishr, 1) := by decide +kernel
theorem dX1_isThere_11 : decode cX1_isThere 11 = .ok (.iconst 1, 1) := by decide +kernel
theorem dX1_isThere_12 : decode cX1_isThere 12 = .ok (.iand, 1) := by decide +kernel
theorem dX1_isThere_13 : decode cX1_isThere 13 = .ok (.ifCond .ne 7, 3) := by decide +kernel
theorem dX1_isThere_16 : decode cX1_isThere 16 = .ok (.iconst 1, 1) := by decide +kernel
theorem dX1_isThere_17 : decode cX1_isThere 17 = .ok (.goto 4, 3) := by decide +kernel
theorem dX1_isThere_20 : decode cX1_isThere 20 = .ok (.iconst 0, 1) := by decide +kernel
theorem dX1_isThere_21 : decode cX1_isThere 21 = .ok (.ireturn, 1) := by decide +kernel
theorem dX1_worthOf_0 : decode cX1_worthOf 0 = .ok (.aload_n 0, 1) := by decide +kernel
theorem dX1_worthOf_1 : decode cX1_worthOf 1 = .ok (.getfield 44, 3) := by decide +kernel
theorem dX1_worthOf_4 : decode cX1_worthOf 4 = .ok (.aload_n 0, 1) := by decide +kernel
theorem dX1_worthOf_5 : decode cX1_worthOf 5 = .ok (.getfield 47, 3) := by decide +kernel
theorem dX1_worthOf_8 : decode cX1_worthOf 8 = .ok (.ior, 1) := by decide +kernel
theorem dX1_worthOf_9 : decode cX1_worthOf 9 = .ok (.istore_n 2, 1) := by decide +kernel
theorem dX1_worthOf_10 : decode cX1_worthOf 10 = .ok (.iload_n 1, 1) := by decide +kernel
theorem dX1_worthOf_11 : decode cX1_worthOf 11 = .ok (.ldc 52, 2) := by decide +kernel
theorem dX1_worthOf_13 : decode cX1_worthOf 13 = .ok (.ior, 1) := by decide +kernel
theorem dX1_worthOf_14 : decode cX1_worthOf 14 = .ok (.istore_n 3, 1) := by decide +kernel
theorem dX1_worthOf_15 : decode cX1_worthOf 15 = .ok (.iconst 0, 1) := by decide +kernel
theorem dX1_worthOf_16 : decode cX1_worthOf 16 = .ok (.istore 4, 2) := by decide +kernel
theorem dX1_worthOf_18 : decode cX1_worthOf 18 = .ok (.iconst 0, 1) := by decide +kernel
theorem dX1_worthOf_19 : decode cX1_worthOf 19 = .ok (.istore 5, 2) := by decide +kernel
theorem dX1_worthOf_21 : decode cX1_worthOf 21 = .ok (.iload 5, 2) := by decide +kernel
theorem dX1_worthOf_23 : decode cX1_worthOf 23 = .ok (.aload_n 0, 1) := by decide +kernel
theorem dX1_worthOf_24 : decode cX1_worthOf 24 = .ok (.getfield 33, 3) := by decide +kernel
theorem dX1_worthOf_27 : decode cX1_worthOf 27 = .ok (.if_icmp .ge 68, 3) := by decide +kernel
theorem dX1_worthOf_30 : decode cX1_worthOf 30 = .ok (.iload_n 3, 1) := by decide +kernel
theorem dX1_worthOf_31 : decode cX1_worthOf 31 = .ok (.aload_n 0, 1) := by decide +kernel
theorem dX1_worthOf_32 : decode cX1_worthOf 32 = .ok (.getfield 25, 3) := by decide +kernel
theorem dX1_worthOf_35 : decode cX1_worthOf 35 = .ok (.iload 5, 2) := by decide +kernel
theorem dX1_worthOf_37 : decode cX1_worthOf 37 = .ok (.iaload, 1) := by decide +kernel
theorem dX1_worthOf_38 : decode cX1_worthOf 38 = .ok (.isub, 1) := by decide +kernel
theorem dX1_worthOf_39 : decode cX1_worthOf 39 = .ok (.ldc 52, 2) := by decide +kernel
theorem dX1_worthOf_41 : decode cX1_worthOf 41 = .ok (.iand, 1) := by decide +kernel
theorem dX1_worthOf_42 : decode cX1_worthOf 42 = .ok (.ldc 52, 2) := by decide +kernel
theorem dX1_worthOf_44 : decode cX1_worthOf 44 = .ok (.if_icmp .ne 7, 3) := by decide +kernel
theorem dX1_worthOf_47 : decode cX1_worthOf 47 = .ok (.iconst 1, 1) := by decide +kernel
theorem dX1_worthOf_48 : decode cX1_worthOf 48 = .ok (.goto 4, 3) := by decide +kernel
theorem dX1_worthOf_51 : decode cX1_worthOf 51 = .ok (.iconst 0, 1) := by decide +kernel
theorem dX1_worthOf_52 : decode cX1_worthOf 52 = .ok (.istore 6, 2) := by decide +kernel
theorem dX1_worthOf_54 : decode cX1_worthOf 54 = .ok (.iload 6, 2) := by decide +kernel
theorem dX1_worthOf_56 : decode cX1_worthOf 56 = .ok (.ifCond .eq 33, 3) := by decide +kernel
theorem dX1_worthOf_59 : decode cX1_worthOf 59 = .ok (.aload_n 0, 1) := by decide +kernel
theorem dX1_worthOf_60 : decode cX1_worthOf 60 = .ok (.getfield 21, 3) := by decide +kernel
theorem dX1_worthOf_63 : decode cX1_worthOf 63 = .ok (.iload 5, 2) := by decide +kernel
theorem dX1_worthOf_65 : decode cX1_worthOf 65 = .ok (.iaload, 1) := by decide +kernel
theorem dX1_worthOf_66 : decode cX1_worthOf 66 = .ok (.iload 4, 2) := by decide +kernel
theorem dX1_worthOf_68 : decode cX1_worthOf 68 = .ok (.if_icmp .le 21, 3) := by decide +kernel
theorem dX1_worthOf_71 : decode cX1_worthOf 71 = .ok (.iload_n 2, 1) := by decide +kernel
theorem dX1_worthOf_72 : decode cX1_worthOf 72 = .ok (.iload 5, 2) := by decide +kernel
theorem dX1_worthOf_74 : decode cX1_worthOf 74 = .ok (.ishr, 1) := by decide +kernel
theorem dX1_worthOf_75 : decode cX1_worthOf 75 = .ok (.iconst 1, 1) := by decide +kernel
theorem dX1_worthOf_76 : decode cX1_worthOf 76 = .ok (.iand, 1) := by decide +kernel
theorem dX1_worthOf_77 : decode cX1_worthOf 77 = .ok (.ifCond .ne 12, 3) := by decide +kernel
theorem dX1_worthOf_80 : decode cX1_worthOf 80 = .ok (.aload_n 0, 1) := by decide +kernel
theorem dX1_worthOf_81 : decode cX1_worthOf 81 = .ok (.getfield 21, 3) := by decide +kernel
theorem dX1_worthOf_84 : decode cX1_worthOf 84 = .ok (.iload 5, 2) := by decide +kernel
theorem dX1_worthOf_86 : decode cX1_worthOf 86 = .ok (.iaload, 1) := by decide +kernel
theorem dX1_worthOf_87 : decode cX1_worthOf 87 = .ok (.istore 4, 2) := by decide +kernel
theorem dX1_worthOf_89 : decode cX1_worthOf 89 = .ok (.iinc 5 1, 3) := by decide +kernel
theorem dX1_worthOf_92 : decode cX1_worthOf 92 = .ok (.goto (-71), 3) := by decide +kernel
theorem dX1_worthOf_95 : decode cX1_worthOf 95 = .ok (.iload 4, 2) := by decide +kernel
theorem dX1_worthOf_97 : decode cX1_worthOf 97 = .ok (.ireturn, 1) := by decide +kernel
theorem dX1_firstMet_0 : decode cX1_firstMet 0 = .ok (.iconst 0, 1) := by decide +kernel
theorem dX1_firstMet_1 : decode cX1_firstMet 1 = .ok (.istore_n 3, 1) := by decide +kernel
theorem dX1_firstMet_2 : decode cX1_firstMet 2 = .ok (.iload_n 3, 1) := by decide +kernel
theorem dX1_firstMet_3 : decode cX1_firstMet 3 = .ok (.aload_n 0, 1) := by decide +kernel
theorem dX1_firstMet_4 : decode cX1_firstMet 4 = .ok (.getfield 33, 3) := by decide +kernel
theorem dX1_firstMet_7 : decode cX1_firstMet 7 = .ok (.if_icmp .ge 42, 3) := by decide +kernel
theorem dX1_firstMet_10 : decode cX1_firstMet 10 = .ok (.aload_n 0, 1) := by decide +kernel
theorem dX1_firstMet_11 : decode cX1_firstMet 11 = .ok (.getfield 21, 3) := by decide +kernel
theorem dX1_firstMet_14 : decode cX1_firstMet 14 = .ok (.iload_n 3, 1) := by decide +kernel
theorem dX1_firstMet_15 : decode cX1_firstMet 15 = .ok (.iaload, 1) := by decide +kernel
theorem dX1_firstMet_16 : decode cX1_firstMet 16 = .ok (.iload_n 2, 1) := by decide +kernel
theorem dX1_firstMet_17 : decode cX1_firstMet 17 = .ok (.if_icmp .ne 26, 3) := by decide +kernel
theorem dX1_firstMet_20 : decode cX1_firstMet 20 = .ok (.aload_n 0, 1) := by decide +kernel
theorem dX1_firstMet_21 : decode cX1_firstMet 21 = .ok (.iload_n 3, 1) := by decide +kernel
theorem dX1_firstMet_22 : decode cX1_firstMet 22 = .ok (.invokevirtual 53, 3) := by decide +kernel
theorem dX1_firstMet_25 : decode cX1_firstMet 25 = .ok (.ifCond .eq 18, 3) := by decide +kernel
theorem dX1_firstMet_28 : decode cX1_firstMet 28 = .ok (.iload_n 1, 1) := by decide +kernel
theorem dX1_firstMet_29 : decode cX1_firstMet 29 = .ok (.aload_n 0, 1) := by decide +kernel
theorem dX1_firstMet_30 : decode cX1_firstMet 30 = .ok (.getfield 25, 3) := by decide +kernel
theorem dX1_firstMet_33 : decode cX1_firstMet 33 = .ok (.iload_n 3, 1) := by decide +kernel
theorem dX1_firstMet_34 : decode cX1_firstMet 34 = .ok (.iaload, 1) := by decide +kernel
theorem dX1_firstMet_35 : decode cX1_firstMet 35 = .ok (.invokestatic 57, 3) := by decide +kernel
theorem dX1_firstMet_38 : decode cX1_firstMet 38 = .ok (.ifCond .eq 5, 3) := by decide +kernel
theorem dX1_firstMet_41 : decode cX1_firstMet 41 = .ok (.iload_n 3, 1) := by decide +kernel
theorem dX1_firstMet_42 : decode cX1_firstMet 42 = .ok (.ireturn, 1) := by decide +kernel
theorem dX1_firstMet_43 : decode cX1_firstMet 43 = .ok (.iinc 3 1, 3) := by decide +kernel
theorem dX1_firstMet_46 : decode cX1_firstMet 46 = .ok (.goto (-44), 3) := by decide +kernel
theorem dX1_firstMet_49 : decode cX1_firstMet 49 = .ok (.bipush (-6), 2) := by decide +kernel
theorem dX1_firstMet_51 : decode cX1_firstMet 51 = .ok (.ireturn, 1) := by decide +kernel
theorem dX2_init_0 : decode cX2_init 0 = .ok (.aload_n 0, 1) := by decide +kernel
theorem dX2_init_1 : decode cX2_init 1 = .ok (.invokespecial 3, 3) := by decide +kernel
theorem dX2_init_4 : decode cX2_init 4 = .ok (.aload_n 0, 1) := by decide +kernel
theorem dX2_init_5 : decode cX2_init 5 = .ok (.bipush 6, 2) := by decide +kernel
theorem dX2_init_7 : decode cX2_init 7 = .ok (.newarray .int, 2) := by decide +kernel
theorem dX2_init_9 : decode cX2_init 9 = .ok (.putfield 9, 3) := by decide +kernel
theorem dX2_init_12 : decode cX2_init 12 = .ok (.aload_n 0, 1) := by decide +kernel
theorem dX2_init_13 : decode cX2_init 13 = .ok (.bipush 6, 2) := by decide +kernel
theorem dX2_init_15 : decode cX2_init 15 = .ok (.newarray .int, 2) := by decide +kernel
theorem dX2_init_17 : decode cX2_init 17 = .ok (.putfield 15, 3) := by decide +kernel
theorem dX2_init_20 : decode cX2_init 20 = .ok (.aload_n 0, 1) := by decide +kernel
theorem dX2_init_21 : decode cX2_init 21 = .ok (.bipush 6, 2) := by decide +kernel
theorem dX2_init_23 : decode cX2_init 23 = .ok (.newarray .int, 2) := by decide +kernel
theorem dX2_init_25 : decode cX2_init 25 = .ok (.putfield 18, 3) := by decide +kernel
theorem dX2_init_28 : decode cX2_init 28 = .ok (.aload_n 0, 1) := by decide +kernel
theorem dX2_init_29 : decode cX2_init 29 = .ok (.aload_n 1, 1) := by decide +kernel
theorem dX2_init_30 : decode cX2_init 30 = .ok (.putfield 21, 3) := by decide +kernel
theorem dX2_init_33 : decode cX2_init 33 = .ok (.aload_n 0, 1) := by decide +kernel
theorem dX2_init_34 : decode cX2_init 34 = .ok (.aload_n 2, 1) := by decide +kernel
theorem dX2_init_35 : decode cX2_init 35 = .ok (.putfield 25, 3) := by decide +kernel
theorem dX2_init_38 : decode cX2_init 38 = .ok (.return_, 1) := by decide +kernel
theorem dX2_compare_0 : decode cX2_compare 0 = .ok (.aload_n 0, 1) := by decide +kernel
theorem dX2_compare_1 : decode cX2_compare 1 = .ok (.getfield 29, 3) := by decide +kernel
theorem dX2_compare_4 : decode cX2_compare 4 = .ok (.ifCond .ne 15, 3) := by decide +kernel
theorem dX2_compare_7 : decode cX2_compare 7 = .ok (.aload_n 0, 1) := by decide +kernel
theorem dX2_compare_8 : decode cX2_compare 8 = .ok (.getfield 21, 3) := by decide +kernel
theorem dX2_compare_11 : decode cX2_compare 11 = .ok (.getfield 33, 3) := by decide +kernel
theorem dX2_compare_14 : decode cX2_compare 14 = .ok (.bipush 6, 2) := by decide +kernel
theorem dX2_compare_16 : decode cX2_compare 16 = .ok (.if_icmp .le 4, 3) := by decide +kernel
theorem dX2_compare_19 : decode cX2_compare 19 = .ok (.return_, 1) := by decide +kernel
theorem dX2_compare_20 : decode cX2_compare 20 = .ok (.aload_n 0, 1) := by decide +kernel
theorem dX2_compare_21 : decode cX2_compare 21 = .ok (.getfield 21, 3) := by decide +kernel
theorem dX2_compare_24 : decode cX2_compare 24 = .ok (.getfield 39, 3) := by decide +kernel
theorem dX2_compare_27 : decode cX2_compare 27 = .ok (.iconst 0, 1) := by decide +kernel
theorem dX2_compare_28 : decode cX2_compare 28 = .ok (.aload_n 0, 1) := by decide +kernel
theorem dX2_compare_29 : decode cX2_compare 29 = .ok (.getfield 18, 3) := by decide +kernel
theorem dX2_compare_32 : decode cX2_compare 32 = .ok (.iconst 0, 1) := by decide +kernel
theorem dX2_compare_33 : decode cX2_compare 33 = .ok (.aload_n 0, 1) := by decide +kernel
theorem dX2_compare_34 : decode cX2_compare 34 = .ok (.getfield 21, 3) := by decide +kernel
theorem dX2_compare_37 : decode cX2_compare 37 = .ok (.getfield 33, 3) := by decide +kernel
theorem dX2_compare_40 : decode cX2_compare 40 = .ok (.invokestatic 42, 3) := by decide +kernel
theorem dX2_compare_43 : decode cX2_compare 43 = .ok (.iconst 1, 1) := by decide +kernel
theorem dX2_compare_44 : decode cX2_compare 44 = .ok (.istore_n 1, 1) := by decide +kernel
theorem dX2_compare_45 : decode cX2_compare 45 = .ok (.iconst 0, 1) := by decide +kernel
theorem dX2_compare_46 : decode cX2_compare 46 = .ok (.istore_n 2, 1) := by decide +kernel
theorem dX2_compare_47 : decode cX2_compare 47 = .ok (.iload_n 2, 1) := by decide +kernel
theorem dX2_compare_48 : decode cX2_compare 48 = .ok (.sipush 720, 3) := by decide +kernel
theorem dX2_compare_51 : decode cX2_compare 51 = .ok (.if_icmp .ge 63, 3) := by decide +kernel
theorem dX2_compare_54 : decode cX2_compare 54 = .ok (.iload_n 1, 1) := by decide +kernel
theorem dX2_compare_55 : decode cX2_compare 55 = .ok (.ifCond .eq 59, 3) := by decide +kernel
theorem dX2_compare_58 : decode cX2_compare 58 = .ok (.aload_n 0, 1) := by decide +kernel
theorem dX2_compare_59 : decode cX2_compare 59 = .ok (.getfield 25, 3) := by decide +kernel
theorem dX2_compare_62 : decode cX2_compare 62 = .ok (.aload_n 0, 1) := by decide +kernel
theorem dX2_compare_63 : decode cX2_compare 63 = .ok (.getfield 18, 3) := by decide +kernel
theorem dX2_compare_66 : decode cX2_compare 66 = .ok (.aload_n 0, 1) := by decide +kernel
theorem dX2_compare_67 : decode cX2_compare 67 = .ok (.getfield 21, 3) := by decide +kernel
theorem dX2_compare_70 : decode cX2_compare 70 = .ok (.getfield 48, 3) := by decide +kernel
theorem dX2_compare_73 : decode cX2_compare 73 = .ok (.invokevirtual 51, 3) := by decide +kernel
theorem dX2_compare_76 : decode cX2_compare 76 = .ok (.aload_n 0, 1) := by decide +kernel
theorem dX2_compare_77 : decode cX2_compare 77 = .ok (.getfield 25, 3) := by decide +kernel
theorem dX2_compare_80 : decode cX2_compare 80 = .ok (.invokevirtual 57, 3) := by decide +kernel
theorem dX2_compare_83 : decode cX2_compare 83 = .ok (.aload_n 0, 1) := by decide +kernel
theorem dX2_compare_84 : decode cX2_compare 84 = .ok (.aload_n 0, 1) := by decide +kernel
theorem dX2_compare_85 : decode cX2_compare 85 = .ok (.getfield 25, 3) := by decide +kernel
theorem dX2_compare_88 : decode cX2_compare 88 = .ok (.invokevirtual 60, 3) := by decide +kernel
theorem dX2_compare_91 : decode cX2_compare 91 = .ok (.iload_n 2, 1) := by decide +kernel
theorem dX2_compare_92 : decode cX2_compare 92 = .ok (.ifCond .ne 7, 3) := by decide +kernel
theorem dX2_compare_95 : decode cX2_compare 95 = .ok (.iconst 1, 1) := by decide +kernel
theorem dX2_compare_96 : decode cX2_compare 96 = .ok (.goto 4, 3) := by decide +kernel
theorem dX2_compare_99 : decode cX2_compare 99 = .ok (.iconst 0, 1) := by decide +kernel
theorem dX2_compare_100 : decode cX2_compare 100 = .ok (.invokevirtual 64, 3) := by decide +kernel
theorem dX2_compare_103 : decode cX2_compare 103 = .ok (.aload_n 0, 1) := by decide +kernel
theorem dX2_compare_104 : decode cX2_compare 104 = .ok (.invokevirtual 68, 3) := by decide +kernel
theorem dX2_compare_107 : decode cX2_compare 107 = .ok (.istore_n 1, 1) := by decide +kernel
theorem dX2_compare_108 : decode cX2_compare 108 = .ok (.iinc 2 1, 3) := by decide +kernel
theorem dX2_compare_111 : decode cX2_compare 111 = .ok (.goto (-64), 3) := by decide +kernel
theorem dX2_compare_114 : decode cX2_compare 114 = .ok (.aload_n 0, 1) := by decide +kernel
theorem dX2_compare_115 : decode cX2_compare 115 = .ok (.iconst 1, 1) := by decide +kernel
theorem dX2_compare_116 : decode cX2_compare 116 = .ok (.putfield 29, 3) := by decide +kernel
theorem dX2_compare_119 : decode cX2_compare 119 = .ok (.return_, 1) := by decide +kernel
theorem dX2_note_0 : decode cX2_note 0 = .ok (.iload_n 2, 1) := by decide +kernel
theorem dX2_note_1 : decode cX2_note 1 = .ok (.ifCond .ne 11, 3) := by decide +kernel
theorem dX2_note_4 : decode cX2_note 4 = .ok (.iload_n 1, 1) := by decide +kernel
theorem dX2_note_5 : decode cX2_note 5 = .ok (.aload_n 0, 1) := by decide +kernel
theorem dX2_note_6 : decode cX2_note 6 = .ok (.getfield 72, 3) := by decide +kernel
theorem dX2_note_9 : decode cX2_note 9 = .ok (.if_icmp .le 28, 3) := by decide +kernel
theorem dX2_note_12 : decode cX2_note 12 = .ok (.aload_n 0, 1) := by decide +kernel
theorem dX2_note_13 : decode cX2_note 13 = .ok (.iload_n 1, 1) := by decide +kernel
theorem dX2_note_14 : decode cX2_note 14 = .ok (.putfield 72, 3) := by decide +kernel
theorem dX2_note_17 : decode cX2_note 17 = .ok (.aload_n 0, 1) := by decide +kernel
theorem dX2_note_18 : decode cX2_note 18 = .ok (.getfield 18, 3) := by decide +kernel
theorem dX2_note_21 : decode cX2_note 21 = .ok (.iconst 0, 1) := by decide +kernel
theorem dX2_note_22 : decode cX2_note 22 = .ok (.aload_n 0, 1) := by decide +kernel
theorem dX2_note_23 : decode cX2_note 23 = .ok (.getfield 9, 3) := by decide +kernel
theorem dX2_note_26 : decode cX2_note 26 = .ok (.iconst 0, 1) := by decide +kernel
theorem dX2_note_27 : decode cX2_note 27 = .ok (.aload_n 0, 1) := by decide +kernel
theorem dX2_note_28 : decode cX2_note 28 = .ok (.getfield 21, 3) := by decide +kernel
theorem dX2_note_31 : decode cX2_note 31 = .ok (.getfield 33, 3) := by decide +kernel
theorem dX2_note_34 : decode cX2_note 34 = .ok (.invokestatic 42, 3) := by decide +kernel
theorem dX2_note_37 : decode cX2_note 37 = .ok (.iload_n 2, 1) := by decide +kernel
theorem dX2_note_38 : decode cX2_note 38 = .ok (.ifCond .ne 11, 3) := by decide +kernel
theorem dX2_note_41 : decode cX2_note 41 = .ok (.iload_n 1, 1) := by decide +kernel
theorem dX2_note_42 : decode cX2_note 42 = .ok (.aload_n 0, 1) := by decide +kernel
theorem dX2_note_43 : decode cX2_note 43 = .ok (.getfield 75, 3) := by decide +kernel
theorem dX2_note_46 : decode cX2_note 46 = .ok (.if_icmp .ge 28, 3) := by decide +kernel
theorem dX2_note_49 : decode cX2_note 49 = .ok (.aload_n 0, 1) := by decide +kernel
theorem dX2_note_50 : decode cX2_note 50 = .ok (.iload_n 1, 1) := by decide +kernel
theorem dX2_note_51 : decode cX2_note 51 = .ok (.putfield 75, 3) := by decide +kernel
theorem dX2_note_54 : decode cX2_note 54 = .ok (.aload_n 0, 1) := by decide +kernel
theorem dX2_note_55 : decode cX2_note 55 = .ok (.getfield 18, 3) := by decide +kernel
theorem dX2_note_58 : decode cX2_note 58 = .ok (.iconst 0, 1) := by decide +kernel
theorem dX2_note_59 : decode cX2_note 59 = .ok (.aload_n 0, 1) := by decide +kernel
theorem dX2_note_60 : decode cX2_note 60 = .ok (.getfield 15, 3) := by decide +kernel
theorem dX2_note_63 : decode cX2_note 63 = .ok (.iconst 0, 1) := by decide +kernel
theorem dX2_note_64 : decode cX2_note 64 = .ok (.aload_n 0, 1) := by decide +kernel
theorem dX2_note_65 : decode cX2_note 65 = .ok (.getfield 21, 3) := by decide +kernel
theorem dX2_note_68 : decode cX2_note 68 = .ok (.getfield 33, 3) := by decide +kernel
theorem dX2_note_71 : decode cX2_note 71 = .ok (.invokestatic 42, 3) := by decide +kernel
theorem dX2_note_74 : decode cX2_note 74 = .ok (.return_, 1) := by decide +kernel
theorem dX2_stepOn_0 : decode cX2_stepOn 0 = .ok (.aload_n 0, 1) := by decide +kernel
theorem dX2_stepOn_1 : decode cX2_stepOn 1 = .ok (.getfield 21, 3) := by decide +kernel
theorem dX2_stepOn_4 : decode cX2_stepOn 4 = .ok (.getfield 33, 3) := by decide +kernel
theorem dX2_stepOn_7 : decode cX2_stepOn 7 = .ok (.iconst 2, 1) := by decide +kernel
theorem dX2_stepOn_8 : decode cX2_stepOn 8 = .ok (.isub, 1) := by decide +kernel
theorem dX2_stepOn_9 : decode cX2_stepOn 9 = .ok (.istore_n 1, 1) := by decide +kernel
theorem dX2_stepOn_10 : decode cX2_stepOn 10 = .ok (.iload_n 1, 1) := by decide +kernel
theorem dX2_stepOn_11 : decode cX2_stepOn 11 = .ok (.ifCond .lt 26, 3) := by decide +kernel
theorem dX2_stepOn_14 : decode cX2_stepOn 14 = .ok (.aload_n 0, 1) := by decide +kernel
theorem dX2_stepOn_15 : decode cX2_stepOn 15 = .ok (.getfield 18, 3) := by decide +kernel
theorem dX2_stepOn_18 : decode cX2_stepOn 18 = .ok (.iload_n 1, 1) := by decide +kernel
theorem dX2_stepOn_19 : decode cX2_stepOn 19 = .ok (.iaload, 1) := by decide +kernel
theorem dX2_stepOn_20 : decode cX2_stepOn 20 = .ok (.aload_n 0, 1) := by decide +kernel
theorem dX2_stepOn_21 : decode cX2_stepOn 21 = .ok (.getfield 18, 3) := by decide +kernel
theorem dX2_stepOn_24 : decode cX2_stepOn 24 = .ok (.iload_n 1, 1) := by decide +kernel
theorem dX2_stepOn_25 : decode cX2_stepOn 25 = .ok (.iconst 1, 1) := by decide +kernel
theorem dX2_stepOn_26 : decode cX2_stepOn 26 = .ok (.iadd, 1) := by decide +kernel
theorem dX2_stepOn_27 : decode cX2_stepOn 27 = .ok (.iaload, 1) := by decide +kernel
theorem dX2_stepOn_28 : decode cX2_stepOn 28 = .ok (.if_icmp .le 9, 3) := by decide +kernel
theorem dX2_stepOn_31 : decode cX2_stepOn 31 = .ok (.iinc 1 (-1), 3) := by decide +kernel
theorem dX2_stepOn_34 : decode cX2_stepOn 34 = .ok (.goto (-24), 3) := by decide +kernel
theorem dX2_stepOn_37 : decode cX2_stepOn 37 = .ok (.iload_n 1, 1) := by decide +kernel
theorem dX2_stepOn_38 : decode cX2_stepOn 38 = .ok (.ifCond .ge 5, 3) := by decide +kernel
theorem dX2_stepOn_41 : decode cX2_stepOn 41 = .ok (.iconst 0, 1) := by decide +kernel
theorem dX2_stepOn_42 : decode cX2_stepOn 42 = .ok (.ireturn, 1) := by decide +kernel
theorem dX2_stepOn_43 : decode cX2_stepOn 43 = .ok (.aload_n 0, 1) := by decide +kernel
theorem dX2_stepOn_44 : decode cX2_stepOn 44 = .ok (.getfield 21, 3) := by decide +kernel
theorem dX2_stepOn_47 : decode cX2_stepOn 47 = .ok (.getfield 33, 3) := by decide +kernel
theorem dX2_stepOn_50 : decode cX2_stepOn 50 = .ok (.iconst 1, 1) := by decide +kernel
theorem dX2_stepOn_51 : decode cX2_stepOn 51 = .ok (.isub, 1) := by decide +kernel
theorem dX2_stepOn_52 : decode cX2_stepOn 52 = .ok (.istore_n 2, 1) := by decide +kernel
theorem dX2_stepOn_53 : decode cX2_stepOn 53 = .ok (.iload_n 2, 1) := by decide +kernel
theorem dX2_stepOn_54 : decode cX2_stepOn 54 = .ok (.iload_n 1, 1) := by decide +kernel
theorem dX2_stepOn_55 : decode cX2_stepOn 55 = .ok (.if_icmp .le 24, 3) := by decide +kernel
theorem dX2_stepOn_58 : decode cX2_stepOn 58 = .ok (.aload_n 0, 1) := by decide +kernel
theorem dX2_stepOn_59 : decode cX2_stepOn 59 = .ok (.getfield 18, 3) := by decide +kernel
theorem dX2_stepOn_62 : decode cX2_stepOn 62 = .ok (.iload_n 2, 1) := by decide +kernel
theorem dX2_stepOn_63 : decode cX2_stepOn 63 = .ok (.iaload, 1) := by decide +kernel
theorem dX2_stepOn_64 : decode cX2_stepOn 64 = .ok (.aload_n 0, 1) := by decide +kernel
theorem dX2_stepOn_65 : decode cX2_stepOn 65 = .ok (.getfield 18, 3) := by decide +kernel
theorem dX2_stepOn_68 : decode cX2_stepOn 68 = .ok (.iload_n 1, 1) := by decide +kernel
theorem dX2_stepOn_69 : decode cX2_stepOn 69 = .ok (.iaload, 1) := by decide +kernel
theorem dX2_stepOn_70 : decode cX2_stepOn 70 = .ok (.if_icmp .ge 9, 3) := by decide +kernel
theorem dX2_stepOn_73 : decode cX2_stepOn 73 = .ok (.iinc 2 (-1), 3) := by decide +kernel
theorem dX2_stepOn_76 : decode cX2_stepOn 76 = .ok (.goto (-23), 3) := by decide +kernel
theorem dX2_stepOn_79 : decode cX2_stepOn 79 = .ok (.aload_n 0, 1) := by decide +kernel
theorem dX2_stepOn_80 : decode cX2_stepOn 80 = .ok (.iload_n 1, 1) := by decide +kernel
theorem dX2_stepOn_81 : decode cX2_stepOn 81 = .ok (.iload_n 2, 1) := by decide +kernel
theorem dX2_stepOn_82 : decode cX2_stepOn 82 = .ok (.invokevirtual 78, 3) := by decide +kernel
theorem dX2_stepOn_85 : decode cX2_stepOn 85 = .ok (.iload_n 1, 1) := by decide +kernel
theorem dX2_stepOn_86 : decode cX2_stepOn 86 = .ok (.iconst 1, 1) := by decide +kernel
theorem dX2_stepOn_87 : decode cX2_stepOn 87 = .ok (.iadd, 1) := by decide +kernel
theorem dX2_stepOn_88 : decode cX2_stepOn 88 = .ok (.istore_n 3, 1) := by decide +kernel
theorem dX2_stepOn_89 : decode cX2_stepOn 89 = .ok (.aload_n 0, 1) := by decide +kernel
theorem dX2_stepOn_90 : decode cX2_stepOn 90 = .ok (.getfield 21, 3) := by decide +kernel
theorem dX2_stepOn_93 : decode cX2_stepOn 93 = .ok (.getfield 33, 3) := by decide +kernel
theorem dX2_stepOn_96 : decode cX2_stepOn 96 = .ok (.iconst 1, 1) := by decide +kernel
theorem dX2_stepOn_97 : decode cX2_stepOn 97 = .ok (.isub, 1) := by decide +kernel
theorem dX2_stepOn_98 : decode cX2_stepOn 98 = .ok (.istore 4, 2) := by decide +kernel
theorem dX2_stepOn_100 : decode cX2_stepOn 100 = .ok (.iload_n 3, 1) := by decide +kernel
theorem dX2_stepOn_101 : decode cX2_stepOn 101 = .ok (.iload 4, 2) := by decide +kernel
theorem dX2_stepOn_103 : decode cX2_stepOn 103 = .ok (.if_icmp .ge 19, 3) := by decide +kernel
theorem dX2_stepOn_106 : decode cX2_stepOn 106 = .ok (.aload_n 0, 1) := by decide +kernel
theorem dX2_stepOn_107 : decode cX2_stepOn 107 = .ok (.iload_n 3, 1) := by decide +kernel
theorem dX2_stepOn_108 : decode cX2_stepOn 108 = .ok (.iload 4, 2) := by decide +kernel
theorem dX2_stepOn_110 : decode cX2_stepOn 110 = .ok (.invokevirtual 78, 3) := by decide +kernel
theorem dX2_stepOn_113 : decode cX2_stepOn 113 = .ok (.iinc 3 1, 3) := by decide +kernel
theorem dX2_stepOn_116 : decode cX2_stepOn 116 = .ok (.iinc 4 (-1), 3) := by decide +kernel
theorem dX2_stepOn_119 : decode cX2_stepOn 119 = .ok (.goto (-19), 3) := by decide +kernel
theorem dX2_stepOn_122 : decode cX2_stepOn 122 = .ok (.iconst 1, 1) := by decide +kernel
theorem dX2_stepOn_123 : decode cX2_stepOn 123 = .ok (.ireturn, 1) := by decide +kernel
theorem dX2_exchange_0 : decode cX2_exchange 0 = .ok (.aload_n 0, 1) := by decide +kernel
theorem dX2_exchange_1 : decode cX2_exchange 1 = .ok (.getfield 18, 3) := by decide +kernel
theorem dX2_exchange_4 : decode cX2_exchange 4 = .ok (.iload_n 1, 1) := by decide +kernel
theorem dX2_exchange_5 : decode cX2_exchange 5 = .ok (.iaload, 1) := by decide +kernel
theorem dX2_exchange_6 : decode cX2_exchange 6 = .ok (.istore_n 3, 1) := by decide +kernel
theorem dX2_exchange_7 : decode cX2_exchange 7 = .ok (.aload_n 0, 1) := by decide +kernel
theorem dX2_exchange_8 : decode cX2_exchange 8 = .ok (.getfield 18, 3) := by decide +kernel
theorem dX2_exchange_11 : decode cX2_exchange 11 = .ok (.iload_n 1, 1) := by decide +kernel
theorem dX2_exchange_12 : decode cX2_exchange 12 = .ok (.aload_n 0, 1) := by decide +kernel
theorem dX2_exchange_13 : decode cX2_exchange 13 = .ok (.getfield 18, 3) := by decide +kernel
theorem dX2_exchange_16 : decode cX2_exchange 16 = .ok (.iload_n 2, 1) := by decide +kernel
theorem dX2_exchange_17 : decode cX2_exchange 17 = .ok (.iaload, 1) := by decide +kernel
theorem dX2_exchange_18 : decode cX2_exchange 18 = .ok (.iastore, 1) := by decide +kernel
theorem dX2_exchange_19 : decode cX2_exchange 19 = .ok (.aload_n 0, 1) := by decide +kernel
theorem dX2_exchange_20 : decode cX2_exchange 20 = .ok (.getfield 18, 3) := by decide +kernel
theorem dX2_exchange_23 : decode cX2_exchange 23 = .ok (.iload_n 2, 1) := by decide +kernel
theorem dX2_exchange_24 : decode cX2_exchange 24 = .ok (.iload_n 3, 1) := by decide +kernel
theorem dX2_exchange_25 : decode cX2_exchange 25 = .ok (.iastore, 1) := by decide +kernel
theorem dX2_exchange_26 : decode cX2_exchange 26 = .ok (.return_, 1) := by decide +kernel
theorem dX3_one_0 : decode cX3_one 0 = .ok (.iconst 1, 1) := by decide +kernel
theorem dX3_one_1 : decode cX3_one 1 = .ok (.iconst 5, 1) := by decide +kernel
theorem dX3_one_2 : decode cX3_one 2 = .ok (.iload_n 0, 1) := by decide +kernel
theorem dX3_one_3 : decode cX3_one 3 = .ok (.imul, 1) := by decide +kernel
theorem dX3_one_4 : decode cX3_one 4 = .ok (.ishl, 1) := by decide +kernel
theorem dX3_one_5 : decode cX3_one 5 = .ok (.ireturn, 1) := by decide +kernel
theorem dX3_of_0 : decode cX3_of 0 = .ok (.iload_n 0, 1) := by decide +kernel
theorem dX3_of_1 : decode cX3_of 1 = .ok (.iconst 5, 1) := by decide +kernel
theorem dX3_of_2 : decode cX3_of 2 = .ok (.iload_n 1, 1) := by decide +kernel
theorem dX3_of_3 : decode cX3_of 3 = .ok (.imul, 1) := by decide +kernel
theorem dX3_of_4 : decode cX3_of 4 = .ok (.ishr, 1) := by decide +kernel
theorem dX3_of_5 : decode cX3_of 5 = .ok (.bipush 15, 2) := by decide +kernel
theorem dX3_of_7 : decode cX3_of 7 = .ok (.iand, 1) := by decide +kernel
theorem dX3_of_8 : decode cX3_of 8 = .ok (.ireturn, 1) := by decide +kernel
theorem dX3_cover_0 : decode cX3_cover 0 = .ok (.iload_n 0, 1) := by decide +kernel
theorem dX3_cover_1 : decode cX3_cover 1 = .ok (.ldc 9, 2) := by decide +kernel
theorem dX3_cover_3 : decode cX3_cover 3 = .ok (.ior, 1) := by decide +kernel
theorem dX3_cover_4 : decode cX3_cover 4 = .ok (.iload_n 1, 1) := by decide +kernel
theorem dX3_cover_5 : decode cX3_cover 5 = .ok (.isub, 1) := by decide +kernel
theorem dX3_cover_6 : decode cX3_cover 6 = .ok (.ldc 9, 2) := by decide +kernel
theorem dX3_cover_8 : decode cX3_cover 8 = .ok (.iand, 1) := by decide +kernel
theorem dX3_cover_9 : decode cX3_cover 9 = .ok (.ldc 9, 2) := by decide +kernel
theorem dX3_cover_11 : decode cX3_cover 11 = .ok (.if_icmp .ne 7, 3) := by decide +kernel
theorem dX3_cover_14 : decode cX3_cover 14 = .ok (.iconst 1, 1) := by decide +kernel
theorem dX3_cover_15 : decode cX3_cover 15 = .ok (.goto 4, 3) := by decide +kernel
theorem dX3_cover_18 : decode cX3_cover 18 = .ok (.iconst 0, 1) := by decide +kernel
theorem dX3_cover_19 : decode cX3_cover 19 = .ok (.ireturn, 1) := by decide +kernel
theorem dX4_init_0 : decode cX4_init 0 = .ok (.aload_n 0, 1) := by decide +kernel
theorem dX4_init_1 : decode cX4_init 1 = .ok (.invokespecial 3, 3) := by decide +kernel
theorem dX4_init_4 : decode cX4_init 4 = .ok (.aload_n 0, 1) := by decide +kernel
theorem dX4_init_5 : decode cX4_init 5 = .ok (.bipush 8, 2) := by decide +kernel
theorem dX4_init_7 : decode cX4_init 7 = .ok (.newarray .int, 2) := by decide +kernel
theorem dX4_init_9 : decode cX4_init 9 = .ok (.putfield 9, 3) := by decide +kernel
theorem dX4_init_12 : decode cX4_init 12 = .ok (.aload_n 0, 1) := by decide +kernel
theorem dX4_init_13 : decode cX4_init 13 = .ok (.bipush 8, 2) := by decide +kernel
theorem dX4_init_15 : decode cX4_init 15 = .ok (.newarray .int, 2) := by decide +kernel
theorem dX4_init_17 : decode cX4_init 17 = .ok (.putfield 15, 3) := by decide +kernel
theorem dX4_init_20 : decode cX4_init 20 = .ok (.aload_n 0, 1) := by decide +kernel
theorem dX4_init_21 : decode cX4_init 21 = .ok (.bipush 8, 2) := by decide +kernel
theorem dX4_init_23 : decode cX4_init 23 = .ok (.newarray .int, 2) := by decide +kernel
theorem dX4_init_25 : decode cX4_init 25 = .ok (.putfield 18, 3) := by decide +kernel
theorem dX4_init_28 : decode cX4_init 28 = .ok (.aload_n 0, 1) := by decide +kernel
theorem dX4_init_29 : decode cX4_init 29 = .ok (.bipush 6, 2) := by decide +kernel
theorem dX4_init_31 : decode cX4_init 31 = .ok (.newarray .int, 2) := by decide +kernel
theorem dX4_init_33 : decode cX4_init 33 = .ok (.putfield 21, 3) := by decide +kernel
theorem dX4_init_36 : decode cX4_init 36 = .ok (.aload_n 0, 1) := by decide +kernel
theorem dX4_init_37 : decode cX4_init 37 = .ok (.bipush 6, 2) := by decide +kernel
theorem dX4_init_39 : decode cX4_init 39 = .ok (.newarray .int, 2) := by decide +kernel
theorem dX4_init_41 : decode cX4_init 41 = .ok (.putfield 24, 3) := by decide +kernel
theorem dX4_init_44 : decode cX4_init 44 = .ok (.aload_n 0, 1) := by decide +kernel
theorem dX4_init_45 : decode cX4_init 45 = .ok (.bipush 6, 2) := by decide +kernel
theorem dX4_init_47 : decode cX4_init 47 = .ok (.newarray .int, 2) := by decide +kernel
theorem dX4_init_49 : decode cX4_init 49 = .ok (.putfield 27, 3) := by decide +kernel
theorem dX4_init_52 : decode cX4_init 52 = .ok (.aload_n 0, 1) := by decide +kernel
theorem dX4_init_53 : decode cX4_init 53 = .ok (.bipush 6, 2) := by decide +kernel
theorem dX4_init_55 : decode cX4_init 55 = .ok (.newarray .int, 2) := by decide +kernel
theorem dX4_init_57 : decode cX4_init 57 = .ok (.putfield 30, 3) := by decide +kernel
theorem dX4_init_60 : decode cX4_init 60 = .ok (.aload_n 0, 1) := by decide +kernel
theorem dX4_init_61 : decode cX4_init 61 = .ok (.bipush 6, 2) := by decide +kernel
theorem dX4_init_63 : decode cX4_init 63 = .ok (.newarray .int, 2) := by decide +kernel
theorem dX4_init_65 : decode cX4_init 65 = .ok (.putfield 33, 3) := by decide +kernel
theorem dX4_init_68 : decode cX4_init 68 = .ok (.aload_n 0, 1) := by decide +kernel
theorem dX4_init_69 : decode cX4_init 69 = .ok (.bipush 6, 2) := by decide +kernel
theorem dX4_init_71 : decode cX4_init 71 = .ok (.newarray .int, 2) := by decide +kernel
theorem dX4_init_73 : decode cX4_init 73 = .ok (.putfield 36, 3) := by decide +kernel
theorem dX4_init_76 : decode cX4_init 76 = .ok (.aload_n 0, 1) := by decide +kernel
theorem dX4_init_77 : decode cX4_init 77 = .ok (.iconst 3, 1) := by decide +kernel
theorem dX4_init_78 : decode cX4_init 78 = .ok (.newarray .int, 2) := by decide +kernel
theorem dX4_init_80 : decode cX4_init 80 = .ok (.putfield 39, 3) := by decide +kernel
theorem dX4_init_83 : decode cX4_init 83 = .ok (.aload_n 0, 1) := by decide +kernel
theorem dX4_init_84 : decode cX4_init 84 = .ok (.iconst 3, 1) := by decide +kernel
theorem dX4_init_85 : decode cX4_init 85 = .ok (.newarray .int, 2) := by decide +kernel
theorem dX4_init_87 : decode cX4_init 87 = .ok (.putfield 42, 3) := by decide +kernel
theorem dX4_init_90 : decode cX4_init 90 = .ok (.aload_n 0, 1) := by decide +kernel
theorem dX4_init_91 : decode cX4_init 91 = .ok (.iconst 3, 1) := by decide +kernel
theorem dX4_init_92 : decode cX4_init 92 = .ok (.newarray .int, 2) := by decide +kernel
theorem dX4_init_94 : decode cX4_init 94 = .ok (.putfield 45, 3) := by decide +kernel
theorem dX4_init_97 : decode cX4_init 97 = .ok (.aload_n 0, 1) := by decide +kernel
theorem dX4_init_98 : decode cX4_init 98 = .ok (.iconst 3, 1) := by decide +kernel
theorem dX4_init_99 : decode cX4_init 99 = .ok (.newarray .int, 2) := by decide +kernel
theorem dX4_init_101 : decode cX4_init 101 = .ok (.putfield 48, 3) := by decide +kernel
theorem dX4_init_104 : decode cX4_init 104 = .ok (.aload_n 0, 1) := by decide +kernel
theorem dX4_init_105 : decode cX4_init 105 = .ok (.iconst 3, 1) := by decide +kernel
theorem dX4_init_106 : decode cX4_init 106 = .ok (.bipush 6, 2) := by decide +kernel
theorem dX4_init_108 : decode cX4_init 108 = .ok (.multianewarray 51 2, 4) := by decide +kernel
theorem dX4_init_112 : decode cX4_init 112 = .ok (.putfield 53, 3) := by decide +kernel
theorem dX4_init_115 : decode cX4_init 115 = .ok (.aload_n 0, 1) := by decide +kernel
theorem dX4_init_116 : decode cX4_init 116 = .ok (.aload_n 1, 1) := by decide +kernel
theorem dX4_init_117 : decode cX4_init 117 = .ok (.putfield 56, 3) := by decide +kernel
theorem dX4_init_120 : decode cX4_init 120 = .ok (.aload_n 0, 1) := by decide +kernel
theorem dX4_init_121 : decode cX4_init 121 = .ok (.aload_n 1, 1) := by decide +kernel
theorem dX4_init_122 : decode cX4_init 122 = .ok (.getfield 60, 3) := by decide +kernel
theorem dX4_init_125 : decode cX4_init 125 = .ok (.putfield 65, 3) := by decide +kernel
theorem dX4_init_128 : decode cX4_init 128 = .ok (.return_, 1) := by decide +kernel
theorem dX4_runAsItIs_0 : decode cX4_runAsItIs 0 = .ok (.aload_n 0, 1) := by decide +kernel
theorem dX4_runAsItIs_1 : decode cX4_runAsItIs 1 = .ok (.aload_n 0, 1) := by decide +kernel
theorem dX4_runAsItIs_2 : decode cX4_runAsItIs 2 = .ok (.getfield 56, 3) := by decide +kernel
theorem dX4_runAsItIs_5 : decode cX4_runAsItIs 5 = .ok (.getfield 60, 3) := by decide +kernel
theorem dX4_runAsItIs_8 : decode cX4_runAsItIs 8 = .ok (.aload_n 0, 1) := by decide +kernel
theorem dX4_runAsItIs_9 : decode cX4_runAsItIs 9 = .ok (.getfield 56, 3) := by decide +kernel
theorem dX4_runAsItIs_12 : decode cX4_runAsItIs 12 = .ok (.getfield 66, 3) := by decide +kernel
theorem dX4_runAsItIs_15 : decode cX4_runAsItIs 15 = .ok (.invokevirtual 70, 3) := by decide +kernel
theorem dX4_runAsItIs_18 : decode cX4_runAsItIs 18 = .ok (.aload_n 0, 1) := by decide +kernel
theorem dX4_runAsItIs_19 : decode cX4_runAsItIs 19 = .ok (.invokevirtual 74, 3) := by decide +kernel
theorem dX4_runAsItIs_22 : decode cX4_runAsItIs 22 = .ok (.return_, 1) := by decide +kernel
theorem dX4_gainWith_0 : decode cX4_gainWith 0 = .ok (.aload_n 0, 1) := by decide +kernel
theorem dX4_gainWith_1 : decode cX4_gainWith 1 = .ok (.aload_n 0, 1) := by decide +kernel
theorem dX4_gainWith_2 : decode cX4_gainWith 2 = .ok (.getfield 56, 3) := by decide +kernel
theorem dX4_gainWith_5 : decode cX4_gainWith 5 = .ok (.getfield 60, 3) := by decide +kernel
theorem dX4_gainWith_8 : decode cX4_gainWith 8 = .ok (.iload_n 3, 1) := by decide +kernel
theorem dX4_gainWith_9 : decode cX4_gainWith 9 = .ok (.invokevirtual 70, 3) := by decide +kernel
theorem dX4_gainWith_12 : decode cX4_gainWith 12 = .ok (.aload_n 0, 1) := by decide +kernel
theorem dX4_gainWith_13 : decode cX4_gainWith 13 = .ok (.getfield 36, 3) := by decide +kernel
theorem dX4_gainWith_16 : decode cX4_gainWith 16 = .ok (.iload_n 1, 1) := by decide +kernel
theorem dX4_gainWith_17 : decode cX4_gainWith 17 = .ok (.bipush 100, 2) := by decide +kernel
theorem dX4_gainWith_19 : decode cX4_gainWith 19 = .ok (.iload_n 2, 1) := by decide +kernel
theorem dX4_gainWith_20 : decode cX4_gainWith 20 = .ok (.isub, 1) := by decide +kernel
theorem dX4_gainWith_21 : decode cX4_gainWith 21 = .ok (.iastore, 1) := by decide +kernel
theorem dX4_gainWith_22 : decode cX4_gainWith 22 = .ok (.aload_n 0, 1) := by decide +kernel
theorem dX4_gainWith_23 : decode cX4_gainWith 23 = .ok (.invokevirtual 74, 3) := by decide +kernel
theorem dX4_gainWith_26 : decode cX4_gainWith 26 = .ok (.aload_n 0, 1) := by decide +kernel
theorem dX4_gainWith_27 : decode cX4_gainWith 27 = .ok (.iload_n 1, 1) := by decide +kernel
theorem dX4_gainWith_28 : decode cX4_gainWith 28 = .ok (.invokevirtual 77, 3) := by decide +kernel
theorem dX4_gainWith_31 : decode cX4_gainWith 31 = .ok (.ireturn, 1) := by decide +kernel
theorem dX4_gainOf_0 : decode cX4_gainOf 0 = .ok (.aload_n 0, 1) := by decide +kernel
theorem dX4_gainOf_1 : decode cX4_gainOf 1 = .ok (.getfield 24, 3) := by decide +kernel
theorem dX4_gainOf_4 : decode cX4_gainOf 4 = .ok (.iload_n 1, 1) := by decide +kernel
theorem dX4_gainOf_5 : decode cX4_gainOf 5 = .ok (.iaload, 1) := by decide +kernel
theorem dX4_gainOf_6 : decode cX4_gainOf 6 = .ok (.aload_n 0, 1) := by decide +kernel
theorem dX4_gainOf_7 : decode cX4_gainOf 7 = .ok (.getfield 27, 3) := by decide +kernel
theorem dX4_gainOf_10 : decode cX4_gainOf 10 = .ok (.iload_n 1, 1) := by decide +kernel
theorem dX4_gainOf_11 : decode cX4_gainOf 11 = .ok (.iaload, 1) := by decide +kernel
theorem dX4_gainOf_12 : decode cX4_gainOf 12 = .ok (.isub, 1) := by decide +kernel
theorem dX4_gainOf_13 : decode cX4_gainOf 13 = .ok (.ireturn, 1) := by decide +kernel
theorem dX4_worthTogether_0 : decode cX4_worthTogether 0 = .ok (.iconst 0, 1) := by decide +kernel
theorem dX4_worthTogether_1 : decode cX4_worthTogether 1 = .ok (.istore_n 1, 1) := by decide +kernel
theorem dX4_worthTogether_2 : decode cX4_worthTogether 2 = .ok (.iconst 0, 1) := by decide +kernel
theorem dX4_worthTogether_3 : decode cX4_worthTogether 3 = .ok (.istore_n 2, 1) := by decide +kernel
theorem dX4_worthTogether_4 : decode cX4_worthTogether 4 = .ok (.iload_n 2, 1) := by decide +kernel
theorem dX4_worthTogether_5 : decode cX4_worthTogether 5 = .ok (.aload_n 0, 1) := by decide +kernel
theorem dX4_worthTogether_6 : decode cX4_worthTogether 6 = .ok (.getfield 56, 3) := by decide +kernel
theorem dX4_worthTogether_9 : decode cX4_worthTogether 9 = .ok (.getfield 81, 3) := by decide +kernel
theorem dX4_worthTogether_12 : decode cX4_worthTogether 12 = .ok (.if_icmp .ge 18, 3) := by decide +kernel
theorem dX4_worthTogether_15 : decode cX4_worthTogether 15 = .ok (.iload_n 1, 1) := by decide +kernel
theorem dX4_worthTogether_16 : decode cX4_worthTogether 16 = .ok (.aload_n 0, 1) := by decide +kernel
theorem dX4_worthTogether_17 : decode cX4_worthTogether 17 = .ok (.getfield 24, 3) := by decide +kernel
theorem dX4_worthTogether_20 : decode cX4_worthTogether 20 = .ok (.iload_n 2, 1) := by decide +kernel
theorem dX4_worthTogether_21 : decode cX4_worthTogether 21 = .ok (.iaload, 1) := by decide +kernel
theorem dX4_worthTogether_22 : decode cX4_worthTogether 22 = .ok (.iadd, 1) := by decide +kernel
theorem dX4_worthTogether_23 : decode cX4_worthTogether 23 = .ok (.istore_n 1, 1) := by decide +kernel
theorem dX4_worthTogether_24 : decode cX4_worthTogether 24 = .ok (.iinc 2 1, 3) := by decide +kernel
theorem dX4_worthTogether_27 : decode cX4_worthTogether 27 = .ok (.goto (-23), 3) := by decide +kernel
theorem dX4_worthTogether_30 : decode cX4_worthTogether 30 = .ok (.iload_n 1, 1) := by decide +kernel
theorem dX4_worthTogether_31 : decode cX4_worthTogether 31 = .ok (.ireturn, 1) := by decide +kernel
theorem dX4_open_0 : decode cX4_open 0 = .ok (.aload_n 0, 1) := by decide +kernel
theorem dX4_open_1 : decode cX4_open 1 = .ok (.aload_n 1, 1) := by decide +kernel
theorem dX4_open_2 : decode cX4_open 2 = .ok (.putfield 65, 3) := by decide +kernel
theorem dX4_open_5 : decode cX4_open 5 = .ok (.aload_n 0, 1) := by decide +kernel
theorem dX4_open_6 : decode cX4_open 6 = .ok (.iload_n 2, 1) := by decide +kernel
theorem dX4_open_7 : decode cX4_open 7 = .ok (.putfield 84, 3) := by decide +kernel
theorem dX4_open_10 : decode cX4_open 10 = .ok (.iconst 0, 1) := by decide +kernel
theorem dX4_open_11 : decode cX4_open 11 = .ok (.istore_n 3, 1) := by decide +kernel
theorem dX4_open_12 : decode cX4_open 12 = .ok (.iload_n 3, 1) := by decide +kernel
theorem dX4_open_13 : decode cX4_open 13 = .ok (.aload_n 0, 1) := by decide +kernel
theorem dX4_open_14 : decode cX4_open 14 = .ok (.getfield 56, 3) := by decide +kernel
theorem dX4_open_17 : decode cX4_open 17 = .ok (.getfield 81, 3) := by decide +kernel
theorem dX4_open_20 : decode cX4_open 20 = .ok (.if_icmp .ge 76, 3) := by decide +kernel
theorem dX4_open_23 : decode cX4_open 23 = .ok (.aload_n 0, 1) := by decide +kernel
theorem dX4_open_24 : decode cX4_open 24 = .ok (.getfield 21, 3) := by decide +kernel
theorem dX4_open_27 : decode cX4_open 27 = .ok (.iload_n 3, 1) := by decide +kernel
theorem dX4_open_28 : decode cX4_open 28 = .ok (.iconst 0, 1) := by decide +kernel
theorem dX4_open_29 : decode cX4_open 29 = .ok (.iastore, 1) := by decide +kernel
theorem dX4_open_30 : decode cX4_open 30 = .ok (.aload_n 0, 1) := by decide +kernel
theorem dX4_open_31 : decode cX4_open 31 = .ok (.getfield 24, 3) := by decide +kernel
theorem dX4_open_34 : decode cX4_open 34 = .ok (.iload_n 3, 1) := by decide +kernel
theorem dX4_open_35 : decode cX4_open 35 = .ok (.iconst 0, 1) := by decide +kernel
theorem dX4_open_36 : decode cX4_open 36 = .ok (.iastore, 1) := by decide +kernel
theorem dX4_open_37 : decode cX4_open 37 = .ok (.aload_n 0, 1) := by decide +kernel
theorem dX4_open_38 : decode cX4_open 38 = .ok (.getfield 27, 3) := by decide +kernel
theorem dX4_open_41 : decode cX4_open 41 = .ok (.iload_n 3, 1) := by decide +kernel
theorem dX4_open_42 : decode cX4_open 42 = .ok (.iconst 0, 1) := by decide +kernel
theorem dX4_open_43 : decode cX4_open 43 = .ok (.iastore, 1) := by decide +kernel
theorem dX4_open_44 : decode cX4_open 44 = .ok (.aload_n 0, 1) := by decide +kernel
theorem dX4_open_45 : decode cX4_open 45 = .ok (.getfield 30, 3) := by decide +kernel
theorem dX4_open_48 : decode cX4_open 48 = .ok (.iload_n 3, 1) := by decide +kernel
theorem dX4_open_49 : decode cX4_open 49 = .ok (.aload_n 0, 1) := by decide +kernel
theorem dX4_open_50 : decode cX4_open 50 = .ok (.getfield 56, 3) := by decide +kernel
theorem dX4_open_53 : decode cX4_open 53 = .ok (.getfield 85, 3) := by decide +kernel
theorem dX4_open_56 : decode cX4_open 56 = .ok (.iload_n 3, 1) := by decide +kernel
theorem dX4_open_57 : decode cX4_open 57 = .ok (.aaload, 1) := by decide +kernel
theorem dX4_open_58 : decode cX4_open 58 = .ok (.getfield 89, 3) := by decide +kernel
theorem dX4_open_61 : decode cX4_open 61 = .ok (.iastore, 1) := by decide +kernel
theorem dX4_open_62 : decode cX4_open 62 = .ok (.aload_n 0, 1) := by decide +kernel
theorem dX4_open_63 : decode cX4_open 63 = .ok (.getfield 33, 3) := by decide +kernel
theorem dX4_open_66 : decode cX4_open 66 = .ok (.iload_n 3, 1) := by decide +kernel
theorem dX4_open_67 : decode cX4_open 67 = .ok (.iconst 0, 1) := by decide +kernel
theorem dX4_open_68 : decode cX4_open 68 = .ok (.iastore, 1) := by decide +kernel
theorem dX4_open_69 : decode cX4_open 69 = .ok (.aload_n 0, 1) := by decide +kernel
theorem dX4_open_70 : decode cX4_open 70 = .ok (.getfield 36, 3) := by decide +kernel
theorem dX4_open_73 : decode cX4_open 73 = .ok (.iload_n 3, 1) := by decide +kernel
theorem dX4_open_74 : decode cX4_open 74 = .ok (.bipush 100, 2) := by decide +kernel
theorem dX4_open_76 : decode cX4_open 76 = .ok (.aload_n 0, 1) := by decide +kernel
theorem dX4_open_77 : decode cX4_open 77 = .ok (.getfield 56, 3) := by decide +kernel
theorem dX4_open_80 : decode cX4_open 80 = .ok (.getfield 85, 3) := by decide +kernel
theorem dX4_open_83 : decode cX4_open 83 = .ok (.iload_n 3, 1) := by decide +kernel
theorem dX4_open_84 : decode cX4_open 84 = .ok (.aaload, 1) := by decide +kernel
theorem dX4_open_85 : decode cX4_open 85 = .ok (.getfield 93, 3) := by decide +kernel
theorem dX4_open_88 : decode cX4_open 88 = .ok (.isub, 1) := by decide +kernel
theorem dX4_open_89 : decode cX4_open 89 = .ok (.iastore, 1) := by decide +kernel
theorem dX4_open_90 : decode cX4_open 90 = .ok (.iinc 3 1, 3) := by decide +kernel
theorem dX4_open_93 : decode cX4_open 93 = .ok (.goto (-81), 3) := by decide +kernel
theorem dX4_open_96 : decode cX4_open 96 = .ok (.return_, 1) := by decide +kernel
theorem dX4_run_0 : decode cX4_run 0 = .ok (.iconst 0, 1) := by decide +kernel
theorem dX4_run_1 : decode cX4_run 1 = .ok (.istore_n 1, 1) := by decide +kernel
theorem dX4_run_2 : decode cX4_run 2 = .ok (.iload_n 1, 1) := by decide +kernel
theorem dX4_run_3 : decode cX4_run 3 = .ok (.iconst 3, 1) := by decide +kernel
theorem dX4_run_4 : decode cX4_run 4 = .ok (.if_icmp .ge 16, 3) := by decide +kernel
theorem dX4_run_7 : decode cX4_run 7 = .ok (.aload_n 0, 1) := by decide +kernel
theorem dX4_run_8 : decode cX4_run 8 = .ok (.iload_n 1, 1) := by decide +kernel
theorem dX4_run_9 : decode cX4_run 9 = .ok (.iconst 0, 1) := by decide +kernel
theorem dX4_run_10 : decode cX4_run 10 = .ok (.iconst 0, 1) := by decide +kernel
theorem dX4_run_11 : decode cX4_run 11 = .ok (.invokevirtual 96, 3) := by decide +kernel
theorem dX4_run_14 : decode cX4_run 14 = .ok (.iinc 1 1, 3) := by decide +kernel
theorem dX4_run_17 : decode cX4_run 17 = .ok (.goto (-15), 3) := by decide +kernel
theorem dX4_run_20 : decode cX4_run 20 = .ok (.iconst 0, 1) := by decide +kernel
theorem dX4_run_21 : decode cX4_run 21 = .ok (.istore_n 1, 1) := by decide +kernel
theorem dX4_run_22 : decode cX4_run 22 = .ok (.iload_n 1, 1) := by decide +kernel
theorem dX4_run_23 : decode cX4_run 23 = .ok (.aload_n 0, 1) := by decide +kernel
theorem dX4_run_24 : decode cX4_run 24 = .ok (.getfield 56, 3) := by decide +kernel
theorem dX4_run_27 : decode cX4_run 27 = .ok (.getfield 100, 3) := by decide +kernel
theorem dX4_run_30 : decode cX4_run 30 = .ok (.if_icmp .ge 142, 3) := by decide +kernel
theorem dX4_run_33 : decode cX4_run 33 = .ok (.aload_n 0, 1) := by decide +kernel
theorem dX4_run_34 : decode cX4_run 34 = .ok (.invokevirtual 103, 3) := by decide +kernel
theorem dX4_run_37 : decode cX4_run 37 = .ok (.istore_n 2, 1) := by decide +kernel
theorem dX4_run_38 : decode cX4_run 38 = .ok (.iload_n 2, 1) := by decide +kernel
theorem dX4_run_39 : decode cX4_run 39 = .ok (.ifCond .ge 4, 3) := by decide +kernel
theorem dX4_run_42 : decode cX4_run 42 = .ok (.return_, 1) := by decide +kernel
theorem dX4_run_43 : decode cX4_run 43 = .ok (.aload_n 0, 1) := by decide +kernel
theorem dX4_run_44 : decode cX4_run 44 = .ok (.getfield 65, 3) := by decide +kernel
theorem dX4_run_47 : decode cX4_run 47 = .ok (.aload_n 0, 1) := by decide +kernel
theorem dX4_run_48 : decode cX4_run 48 = .ok (.getfield 39, 3) := by decide +kernel
theorem dX4_run_51 : decode cX4_run 51 = .ok (.iload_n 2, 1) := by decide +kernel
theorem dX4_run_52 : decode cX4_run 52 = .ok (.iaload, 1) := by decide +kernel
theorem dX4_run_53 : decode cX4_run 53 = .ok (.iaload, 1) := by decide +kernel
theorem dX4_run_54 : decode cX4_run 54 = .ok (.istore_n 3, 1) := by decide +kernel
theorem dX4_run_55 : decode cX4_run 55 = .ok (.aload_n 0, 1) := by decide +kernel
theorem dX4_run_56 : decode cX4_run 56 = .ok (.iload_n 2, 1) := by decide +kernel
theorem dX4_run_57 : decode cX4_run 57 = .ok (.invokevirtual 107, 3) := by decide +kernel
theorem dX4_run_60 : decode cX4_run 60 = .ok (.istore 4, 2) := by decide +kernel
theorem dX4_run_62 : decode cX4_run 62 = .ok (.aload_n 0, 1) := by decide +kernel
theorem dX4_run_63 : decode cX4_run 63 = .ok (.getfield 9, 3) := by decide +kernel
theorem dX4_run_66 : decode cX4_run 66 = .ok (.iload_n 3, 1) := by decide +kernel
theorem dX4_run_67 : decode cX4_run 67 = .ok (.aload_n 0, 1) := by decide +kernel
theorem dX4_run_68 : decode cX4_run 68 = .ok (.iload_n 2, 1) := by decide +kernel
theorem dX4_run_69 : decode cX4_run 69 = .ok (.aload_n 0, 1) := by decide +kernel
theorem dX4_run_70 : decode cX4_run 70 = .ok (.getfield 56, 3) := by decide +kernel
theorem dX4_run_73 : decode cX4_run 73 = .ok (.getfield 110, 3) := by decide +kernel
theorem dX4_run_76 : decode cX4_run 76 = .ok (.iload_n 3, 1) := by decide +kernel
theorem dX4_run_77 : decode cX4_run 77 = .ok (.iaload, 1) := by decide +kernel
theorem dX4_run_78 : decode cX4_run 78 = .ok (.invokevirtual 113, 3) := by decide +kernel
theorem dX4_run_81 : decode cX4_run 81 = .ok (.iastore, 1) := by decide +kernel
theorem dX4_run_82 : decode cX4_run 82 = .ok (.aload_n 0, 1) := by decide +kernel
theorem dX4_run_83 : decode cX4_run 83 = .ok (.getfield 15, 3) := by decide +kernel
theorem dX4_run_86 : decode cX4_run 86 = .ok (.iload_n 3, 1) := by decide +kernel
theorem dX4_run_87 : decode cX4_run 87 = .ok (.aload_n 0, 1) := by decide +kernel
theorem dX4_run_88 : decode cX4_run 88 = .ok (.getfield 9, 3) := by decide +kernel
theorem dX4_run_91 : decode cX4_run 91 = .ok (.iload_n 3, 1) := by decide +kernel
theorem dX4_run_92 : decode cX4_run 92 = .ok (.iaload, 1) := by decide +kernel
theorem dX4_run_93 : decode cX4_run 93 = .ok (.ifCond .ge 8, 3) := by decide +kernel
theorem dX4_run_96 : decode cX4_run 96 = .ok (.bipush (-6), 2) := by decide +kernel
theorem dX4_run_98 : decode cX4_run 98 = .ok (.goto 9, 3) := by decide +kernel
theorem dX4_run_101 : decode cX4_run 101 = .ok (.aload_n 0, 1) := by decide +kernel
theorem dX4_run_102 : decode cX4_run 102 = .ok (.getfield 48, 3) := by decide +kernel
theorem dX4_run_105 : decode cX4_run 105 = .ok (.iload_n 2, 1) := by decide +kernel
theorem dX4_run_106 : decode cX4_run 106 = .ok (.iaload, 1) := by decide +kernel
theorem dX4_run_107 : decode cX4_run 107 = .ok (.iastore, 1) := by decide +kernel
theorem dX4_run_108 : decode cX4_run 108 = .ok (.aload_n 0, 1) := by decide +kernel
theorem dX4_run_109 : decode cX4_run 109 = .ok (.getfield 18, 3) := by decide +kernel
theorem dX4_run_112 : decode cX4_run 112 = .ok (.iload_n 3, 1) := by decide +kernel
theorem dX4_run_113 : decode cX4_run 113 = .ok (.iload 4, 2) := by decide +kernel
theorem dX4_run_115 : decode cX4_run 115 = .ok (.iastore, 1) := by decide +kernel
theorem dX4_run_116 : decode cX4_run 116 = .ok (.aload_n 0, 1) := by decide +kernel
theorem dX4_run_117 : decode cX4_run 117 = .ok (.getfield 9, 3) := by decide +kernel
theorem dX4_run_120 : decode cX4_run 120 = .ok (.iload_n 3, 1) := by decide +kernel
theorem dX4_run_121 : decode cX4_run 121 = .ok (.iaload, 1) := by decide +kernel
theorem dX4_run_122 : decode cX4_run 122 = .ok (.ifCond .lt 20, 3) := by decide +kernel
theorem dX4_run_125 : decode cX4_run 125 = .ok (.aload_n 0, 1) := by decide +kernel
theorem dX4_run_126 : decode cX4_run 126 = .ok (.aload_n 0, 1) := by decide +kernel
theorem dX4_run_127 : decode cX4_run 127 = .ok (.getfield 9, 3) := by decide +kernel
theorem dX4_run_130 : decode cX4_run 130 = .ok (.iload_n 3, 1) := by decide +kernel
theorem dX4_run_131 : decode cX4_run 131 = .ok (.iaload, 1) := by decide +kernel
theorem dX4_run_132 : decode cX4_run 132 = .ok (.iload_n 3, 1) := by decide +kernel
theorem dX4_run_133 : decode cX4_run 133 = .ok (.aload_n 0, 1) := by decide +kernel
theorem dX4_run_134 : decode cX4_run 134 = .ok (.getfield 48, 3) := by decide +kernel
theorem dX4_run_137 : decode cX4_run 137 = .ok (.iload_n 2, 1) := by decide +kernel
theorem dX4_run_138 : decode cX4_run 138 = .ok (.iaload, 1) := by decide +kernel
theorem dX4_run_139 : decode cX4_run 139 = .ok (.invokevirtual 117, 3) := by decide +kernel
theorem dX4_run_142 : decode cX4_run 142 = .ok (.aload_n 0, 1) := by decide +kernel
theorem dX4_run_143 : decode cX4_run 143 = .ok (.iload_n 2, 1) := by decide +kernel
theorem dX4_run_144 : decode cX4_run 144 = .ok (.iload 4, 2) := by decide +kernel
theorem dX4_run_146 : decode cX4_run 146 = .ok (.invokevirtual 120, 3) := by decide +kernel
theorem dX4_run_149 : decode cX4_run 149 = .ok (.aload_n 0, 1) := by decide +kernel
theorem dX4_run_150 : decode cX4_run 150 = .ok (.iload_n 2, 1) := by decide +kernel
theorem dX4_run_151 : decode cX4_run 151 = .ok (.aload_n 0, 1) := by decide +kernel
theorem dX4_run_152 : decode cX4_run 152 = .ok (.getfield 39, 3) := by decide +kernel
theorem dX4_run_155 : decode cX4_run 155 = .ok (.iload_n 2, 1) := by decide +kernel
theorem dX4_run_156 : decode cX4_run 156 = .ok (.iaload, 1) := by decide +kernel
theorem dX4_run_157 : decode cX4_run 157 = .ok (.iconst 1, 1) := by decide +kernel
theorem dX4_run_158 : decode cX4_run 158 = .ok (.iadd, 1) := by decide +kernel
theorem dX4_run_159 : decode cX4_run 159 = .ok (.iload 4, 2) := by decide +kernel
theorem dX4_run_161 : decode cX4_run 161 = .ok (.iconst 1, 1) := by decide +kernel
theorem dX4_run_162 : decode cX4_run 162 = .ok (.iadd, 1) := by decide +kernel
theorem dX4_run_163 : decode cX4_run 163 = .ok (.invokevirtual 96, 3) := by decide +kernel
theorem dX4_run_166 : decode cX4_run 166 = .ok (.iinc 1 1, 3) := by decide +kernel
theorem dX4_run_169 : decode cX4_run 169 = .ok (.goto (-147), 3) := by decide +kernel
theorem dX4_run_172 : decode cX4_run 172 = .ok (.return_, 1) := by decide +kernel
theorem dX4_bringOn_0 : decode cX4_bringOn 0 = .ok (.iload_n 2, 1) := by decide +kernel
theorem dX4_bringOn_1 : decode cX4_bringOn 1 = .ok (.istore 4, 2) := by decide +kernel
theorem dX4_bringOn_3 : decode cX4_bringOn 3 = .ok (.iload 4, 2) := by decide +kernel
theorem dX4_bringOn_5 : decode cX4_bringOn 5 = .ok (.aload_n 0, 1) := by decide +kernel
theorem dX4_bringOn_6 : decode cX4_bringOn 6 = .ok (.getfield 56, 3) := by decide +kernel
theorem dX4_bringOn_9 : decode cX4_bringOn 9 = .ok (.getfield 100, 3) := by decide +kernel
theorem dX4_bringOn_12 : decode cX4_bringOn 12 = .ok (.if_icmp .ge 28, 3) := by decide +kernel
theorem dX4_bringOn_15 : decode cX4_bringOn 15 = .ok (.aload_n 0, 1) := by decide +kernel
theorem dX4_bringOn_16 : decode cX4_bringOn 16 = .ok (.getfield 56, 3) := by decide +kernel
theorem dX4_bringOn_19 : decode cX4_bringOn 19 = .ok (.getfield 124, 3) := by decide +kernel
theorem dX4_bringOn_22 : decode cX4_bringOn 22 = .ok (.aload_n 0, 1) := by decide +kernel
theorem dX4_bringOn_23 : decode cX4_bringOn 23 = .ok (.getfield 65, 3) := by decide +kernel
theorem dX4_bringOn_26 : decode cX4_bringOn 26 = .ok (.iload 4, 2) := by decide +kernel
theorem dX4_bringOn_28 : decode cX4_bringOn 28 = .ok (.iaload, 1) := by decide +kernel
theorem dX4_bringOn_29 : decode cX4_bringOn 29 = .ok (.iaload, 1) := by decide +kernel
theorem dX4_bringOn_30 : decode cX4_bringOn 30 = .ok (.iload_n 1, 1) := by decide +kernel
theorem dX4_bringOn_31 : decode cX4_bringOn 31 = .ok (.if_icmp .eq 9, 3) := by decide +kernel
theorem dX4_bringOn_34 : decode cX4_bringOn 34 = .ok (.iinc 4 1, 3) := by decide +kernel
theorem dX4_bringOn_37 : decode cX4_bringOn 37 = .ok (.goto (-34), 3) := by decide +kernel
theorem dX4_bringOn_40 : decode cX4_bringOn 40 = .ok (.aload_n 0, 1) := by decide +kernel
theorem dX4_bringOn_41 : decode cX4_bringOn 41 = .ok (.getfield 39, 3) := by decide +kernel
theorem dX4_bringOn_44 : decode cX4_bringOn 44 = .ok (.iload_n 1, 1) := by decide +kernel
theorem dX4_bringOn_45 : decode cX4_bringOn 45 = .ok (.iload 4, 2) := by decide +kernel
theorem dX4_bringOn_47 : decode cX4_bringOn 47 = .ok (.iastore, 1) := by decide +kernel
theorem dX4_bringOn_48 : decode cX4_bringOn 48 = .ok (.aload_n 0, 1) := by decide +kernel
theorem dX4_bringOn_49 : decode cX4_bringOn 49 = .ok (.getfield 42, 3) := by decide +kernel
theorem dX4_bringOn_52 : decode cX4_bringOn 52 = .ok (.iload_n 1, 1) := by decide +kernel
theorem dX4_bringOn_53 : decode cX4_bringOn 53 = .ok (.iload_n 3, 1) := by decide +kernel
theorem dX4_bringOn_54 : decode cX4_bringOn 54 = .ok (.iastore, 1) := by decide +kernel
theorem dX4_bringOn_55 : decode cX4_bringOn 55 = .ok (.aload_n 0, 1) := by decide +kernel
theorem dX4_bringOn_56 : decode cX4_bringOn 56 = .ok (.getfield 45, 3) := by decide +kernel
theorem dX4_bringOn_59 : decode cX4_bringOn 59 = .ok (.iload_n 1, 1) := by decide +kernel
theorem dX4_bringOn_60 : decode cX4_bringOn 60 = .ok (.iload_n 3, 1) := by decide +kernel
theorem dX4_bringOn_61 : decode cX4_bringOn 61 = .ok (.iastore, 1) := by decide +kernel
theorem dX4_bringOn_62 : decode cX4_bringOn 62 = .ok (.iconst 0, 1) := by decide +kernel
theorem dX4_bringOn_63 : decode cX4_bringOn 63 = .ok (.istore 5, 2) := by decide +kernel
theorem dX4_bringOn_65 : decode cX4_bringOn 65 = .ok (.iload 5, 2) := by decide +kernel
theorem dX4_bringOn_67 : decode cX4_bringOn 67 = .ok (.aload_n 0, 1) := by decide +kernel
theorem dX4_bringOn_68 : decode cX4_bringOn 68 = .ok (.getfield 56, 3) := by decide +kernel
theorem dX4_bringOn_71 : decode cX4_bringOn 71 = .ok (.getfield 81, 3) := by decide +kernel
theorem dX4_bringOn_74 : decode cX4_bringOn 74 = .ok (.if_icmp .ge 16, 3) := by decide +kernel
theorem dX4_bringOn_77 : decode cX4_bringOn 77 = .ok (.aload_n 0, 1) := by decide +kernel
theorem dX4_bringOn_78 : decode cX4_bringOn 78 = .ok (.iload_n 1, 1) := by decide +kernel
theorem dX4_bringOn_79 : decode cX4_bringOn 79 = .ok (.iload 5, 2) := by decide +kernel
theorem dX4_bringOn_81 : decode cX4_bringOn 81 = .ok (.invokevirtual 127, 3) := by decide +kernel
theorem dX4_bringOn_84 : decode cX4_bringOn 84 = .ok (.iinc 5 1, 3) := by decide +kernel
theorem dX4_bringOn_87 : decode cX4_bringOn 87 = .ok (.goto (-22), 3) := by decide +kernel
theorem dX4_bringOn_90 : decode cX4_bringOn 90 = .ok (.return_, 1) := by decide +kernel
theorem dX4_weigh_0 : decode cX4_weigh 0 = .ok (.aload_n 0, 1) := by decide +kernel
theorem dX4_weigh_1 : decode cX4_weigh 1 = .ok (.getfield 39, 3) := by decide +kernel
theorem dX4_weigh_4 : decode cX4_weigh 4 = .ok (.iload_n 1, 1) := by decide +kernel
theorem dX4_weigh_5 : decode cX4_weigh 5 = .ok (.iaload, 1) := by decide +kernel
theorem dX4_weigh_6 : decode cX4_weigh 6 = .ok (.aload_n 0, 1) := by decide +kernel
theorem dX4_weigh_7 : decode cX4_weigh 7 = .ok (.getfield 56, 3) := by decide +kernel
theorem dX4_weigh_10 : decode cX4_weigh 10 = .ok (.getfield 100, 3) := by decide +kernel
theorem dX4_weigh_13 : decode cX4_weigh 13 = .ok (.if_icmp .ge 91, 3) := by decide +kernel
theorem dX4_weigh_16 : decode cX4_weigh 16 = .ok (.aload_n 0, 1) := by decide +kernel
theorem dX4_weigh_17 : decode cX4_weigh 17 = .ok (.getfield 56, 3) := by decide +kernel
theorem dX4_weigh_20 : decode cX4_weigh 20 = .ok (.getfield 85, 3) := by decide +kernel
theorem dX4_weigh_23 : decode cX4_weigh 23 = .ok (.iload_n 2, 1) := by decide +kernel
theorem dX4_weigh_24 : decode cX4_weigh 24 = .ok (.aaload, 1) := by decide +kernel
theorem dX4_weigh_25 : decode cX4_weigh 25 = .ok (.aload_n 0, 1) := by decide +kernel
theorem dX4_weigh_26 : decode cX4_weigh 26 = .ok (.getfield 33, 3) := by decide +kernel
theorem dX4_weigh_29 : decode cX4_weigh 29 = .ok (.iload_n 2, 1) := by decide +kernel
theorem dX4_weigh_30 : decode cX4_weigh 30 = .ok (.iaload, 1) := by decide +kernel
theorem dX4_weigh_31 : decode cX4_weigh 31 = .ok (.aload_n 0, 1) := by decide +kernel
theorem dX4_weigh_32 : decode cX4_weigh 32 = .ok (.getfield 56, 3) := by decide +kernel
theorem dX4_weigh_35 : decode cX4_weigh 35 = .ok (.getfield 130, 3) := by decide +kernel
theorem dX4_weigh_38 : decode cX4_weigh 38 = .ok (.aload_n 0, 1) := by decide +kernel
theorem dX4_weigh_39 : decode cX4_weigh 39 = .ok (.getfield 65, 3) := by decide +kernel
theorem dX4_weigh_42 : decode cX4_weigh 42 = .ok (.aload_n 0, 1) := by decide +kernel
theorem dX4_weigh_43 : decode cX4_weigh 43 = .ok (.getfield 39, 3) := by decide +kernel
theorem dX4_weigh_46 : decode cX4_weigh 46 = .ok (.iload_n 1, 1) := by decide +kernel
theorem dX4_weigh_47 : decode cX4_weigh 47 = .ok (.iaload, 1) := by decide +kernel
theorem dX4_weigh_48 : decode cX4_weigh 48 = .ok (.iaload, 1) := by decide +kernel
theorem dX4_weigh_49 : decode cX4_weigh 49 = .ok (.iaload, 1) := by decide +kernel
theorem dX4_weigh_50 : decode cX4_weigh 50 = .ok (.iadd, 1) := by decide +kernel
theorem dX4_weigh_51 : decode cX4_weigh 51 = .ok (.invokevirtual 133, 3) := by decide +kernel
theorem dX4_weigh_54 : decode cX4_weigh 54 = .ok (.aload_n 0, 1) := by decide +kernel
theorem dX4_weigh_55 : decode cX4_weigh 55 = .ok (.getfield 24, 3) := by decide +kernel
theorem dX4_weigh_58 : decode cX4_weigh 58 = .ok (.iload_n 2, 1) := by decide +kernel
theorem dX4_weigh_59 : decode cX4_weigh 59 = .ok (.iaload, 1) := by decide +kernel
theorem dX4_weigh_60 : decode cX4_weigh 60 = .ok (.isub, 1) := by decide +kernel
theorem dX4_weigh_61 : decode cX4_weigh 61 = .ok (.istore_n 3, 1) := by decide +kernel
theorem dX4_weigh_62 : decode cX4_weigh 62 = .ok (.iload_n 3, 1) := by decide +kernel
theorem dX4_weigh_63 : decode cX4_weigh 63 = .ok (.aload_n 0, 1) := by decide +kernel
theorem dX4_weigh_64 : decode cX4_weigh 64 = .ok (.getfield 36, 3) := by decide +kernel
theorem dX4_weigh_67 : decode cX4_weigh 67 = .ok (.iload_n 2, 1) := by decide +kernel
theorem dX4_weigh_68 : decode cX4_weigh 68 = .ok (.iaload, 1) := by decide +kernel
theorem dX4_weigh_69 : decode cX4_weigh 69 = .ok (.imul, 1) := by decide +kernel
theorem dX4_weigh_70 : decode cX4_weigh 70 = .ok (.bipush 100, 2) := by decide +kernel
theorem dX4_weigh_72 : decode cX4_weigh 72 = .ok (.idiv, 1) := by decide +kernel
theorem dX4_weigh_73 : decode cX4_weigh 73 = .ok (.istore 4, 2) := by decide +kernel
theorem dX4_weigh_75 : decode cX4_weigh 75 = .ok (.aload_n 0, 1) := by decide +kernel
theorem dX4_weigh_76 : decode cX4_weigh 76 = .ok (.getfield 53, 3) := by decide +kernel
theorem dX4_weigh_79 : decode cX4_weigh 79 = .ok (.iload_n 1, 1) := by decide +kernel
theorem dX4_weigh_80 : decode cX4_weigh 80 = .ok (.aaload, 1) := by decide +kernel
theorem dX4_weigh_81 : decode cX4_weigh 81 = .ok (.iload_n 2, 1) := by decide +kernel
theorem dX4_weigh_82 : decode cX4_weigh 82 = .ok (.iload 4, 2) := by decide +kernel
theorem dX4_weigh_84 : decode cX4_weigh 84 = .ok (.iconst 1, 1) := by decide +kernel
theorem dX4_weigh_85 : decode cX4_weigh 85 = .ok (.if_icmp .ge 7, 3) := by decide +kernel
theorem dX4_weigh_88 : decode cX4_weigh 88 = .ok (.iconst (-1), 1) := by decide +kernel
theorem dX4_weigh_89 : decode cX4_weigh 89 = .ok (.goto 14, 3) := by decide +kernel
theorem dX4_weigh_92 : decode cX4_weigh 92 = .ok (.iload 4, 2) := by decide +kernel
theorem dX4_weigh_94 : decode cX4_weigh 94 = .ok (.aload_n 0, 1) := by decide +kernel
theorem dX4_weigh_95 : decode cX4_weigh 95 = .ok (.getfield 30, 3) := by decide +kernel
theorem dX4_weigh_98 : decode cX4_weigh 98 = .ok (.iload_n 2, 1) := by decide +kernel
theorem dX4_weigh_99 : decode cX4_weigh 99 = .ok (.iaload, 1) := by decide +kernel
theorem dX4_weigh_100 : decode cX4_weigh 100 = .ok (.invokestatic 136, 3) := by decide +kernel
theorem dX4_weigh_103 : decode cX4_weigh 103 = .ok (.iastore, 1) := by decide +kernel
theorem dX4_weigh_104 : decode cX4_weigh 104 = .ok (.return_, 1) := by decide +kernel
theorem dX4_nextToEnd_0 : decode cX4_nextToEnd 0 = .ok (.bipush (-6), 2) := by decide +kernel
theorem dX4_nextToEnd_2 : decode cX4_nextToEnd 2 = .ok (.istore_n 1, 1) := by decide +kernel
theorem dX4_nextToEnd_3 : decode cX4_nextToEnd 3 = .ok (.iconst 0, 1) := by decide +kernel
theorem dX4_nextToEnd_4 : decode cX4_nextToEnd 4 = .ok (.istore_n 2, 1) := by decide +kernel
theorem dX4_nextToEnd_5 : decode cX4_nextToEnd 5 = .ok (.iload_n 2, 1) := by decide +kernel
theorem dX4_nextToEnd_6 : decode cX4_nextToEnd 6 = .ok (.iconst 3, 1) := by decide +kernel
theorem dX4_nextToEnd_7 : decode cX4_nextToEnd 7 = .ok (.if_icmp .ge 97, 3) := by decide +kernel
theorem dX4_nextToEnd_10 : decode cX4_nextToEnd 10 = .ok (.aload_n 0, 1) := by decide +kernel
theorem dX4_nextToEnd_11 : decode cX4_nextToEnd 11 = .ok (.getfield 39, 3) := by decide +kernel
theorem dX4_nextToEnd_14 : decode cX4_nextToEnd 14 = .ok (.iload_n 2, 1) := by decide +kernel
theorem dX4_nextToEnd_15 : decode cX4_nextToEnd 15 = .ok (.iaload, 1) := by decide +kernel
theorem dX4_nextToEnd_16 : decode cX4_nextToEnd 16 = .ok (.aload_n 0, 1) := by decide +kernel
theorem dX4_nextToEnd_17 : decode cX4_nextToEnd 17 = .ok (.getfield 56, 3) := by decide +kernel
theorem dX4_nextToEnd_20 : decode cX4_nextToEnd 20 = .ok (.getfield 100, 3) := by decide +kernel
theorem dX4_nextToEnd_23 : decode cX4_nextToEnd 23 = .ok (.if_icmp .ge 75, 3) := by decide +kernel
theorem dX4_nextToEnd_26 : decode cX4_nextToEnd 26 = .ok (.aload_n 0, 1) := by decide +kernel
theorem dX4_nextToEnd_27 : decode cX4_nextToEnd 27 = .ok (.getfield 84, 3) := by decide +kernel
theorem dX4_nextToEnd_30 : decode cX4_nextToEnd 30 = .ok (.aload_n 0, 1) := by decide +kernel
theorem dX4_nextToEnd_31 : decode cX4_nextToEnd 31 = .ok (.getfield 45, 3) := by decide +kernel
theorem dX4_nextToEnd_34 : decode cX4_nextToEnd 34 = .ok (.iload_n 2, 1) := by decide +kernel
theorem dX4_nextToEnd_35 : decode cX4_nextToEnd 35 = .ok (.iaload, 1) := by decide +kernel
theorem dX4_nextToEnd_36 : decode cX4_nextToEnd 36 = .ok (.aload_n 0, 1) := by decide +kernel
theorem dX4_nextToEnd_37 : decode cX4_nextToEnd 37 = .ok (.getfield 42, 3) := by decide +kernel
theorem dX4_nextToEnd_40 : decode cX4_nextToEnd 40 = .ok (.iload_n 2, 1) := by decide +kernel
theorem dX4_nextToEnd_41 : decode cX4_nextToEnd 41 = .ok (.iaload, 1) := by decide +kernel
theorem dX4_nextToEnd_42 : decode cX4_nextToEnd 42 = .ok (.isub, 1) := by decide +kernel
theorem dX4_nextToEnd_43 : decode cX4_nextToEnd 43 = .ok (.isub, 1) := by decide +kernel
theorem dX4_nextToEnd_44 : decode cX4_nextToEnd 44 = .ok (.istore_n 3, 1) := by decide +kernel
theorem dX4_nextToEnd_45 : decode cX4_nextToEnd 45 = .ok (.aload_n 0, 1) := by decide +kernel
theorem dX4_nextToEnd_46 : decode cX4_nextToEnd 46 = .ok (.getfield 48, 3) := by decide +kernel
theorem dX4_nextToEnd_49 : decode cX4_nextToEnd 49 = .ok (.iload_n 2, 1) := by decide +kernel
theorem dX4_nextToEnd_50 : decode cX4_nextToEnd 50 = .ok (.iload_n 3, 1) := by decide +kernel
theorem dX4_nextToEnd_51 : decode cX4_nextToEnd 51 = .ok (.aload_n 0, 1) := by decide +kernel
theorem dX4_nextToEnd_52 : decode cX4_nextToEnd 52 = .ok (.iload_n 2, 1) := by decide +kernel
theorem dX4_nextToEnd_53 : decode cX4_nextToEnd 53 = .ok (.aload_n 0, 1) := by decide +kernel
theorem dX4_nextToEnd_54 : decode cX4_nextToEnd 54 = .ok (.getfield 56, 3) := by decide +kernel
theorem dX4_nextToEnd_57 : decode cX4_nextToEnd 57 = .ok (.getfield 110, 3) := by decide +kernel
theorem dX4_nextToEnd_60 : decode cX4_nextToEnd 60 = .ok (.aload_n 0, 1) := by decide +kernel
theorem dX4_nextToEnd_61 : decode cX4_nextToEnd 61 = .ok (.getfield 65, 3) := by decide +kernel
theorem dX4_nextToEnd_64 : decode cX4_nextToEnd 64 = .ok (.aload_n 0, 1) := by decide +kernel
theorem dX4_nextToEnd_65 : decode cX4_nextToEnd 65 = .ok (.getfield 39, 3) := by decide +kernel
theorem dX4_nextToEnd_68 : decode cX4_nextToEnd 68 = .ok (.iload_n 2, 1) := by decide +kernel
theorem dX4_nextToEnd_69 : decode cX4_nextToEnd 69 = .ok (.iaload, 1) := by decide +kernel
theorem dX4_nextToEnd_70 : decode cX4_nextToEnd 70 = .ok (.iaload, 1) := by decide +kernel
theorem dX4_nextToEnd_71 : decode cX4_nextToEnd 71 = .ok (.iaload, 1) := by decide +kernel
theorem dX4_nextToEnd_72 : decode cX4_nextToEnd 72 = .ok (.invokevirtual 141, 3) := by decide +kernel
theorem dX4_nextToEnd_75 : decode cX4_nextToEnd 75 = .ok (.invokestatic 136, 3) := by decide +kernel
theorem dX4_nextToEnd_78 : decode cX4_nextToEnd 78 = .ok (.iastore, 1) := by decide +kernel
theorem dX4_nextToEnd_79 : decode cX4_nextToEnd 79 = .ok (.iload_n 1, 1) := by decide +kernel
theorem dX4_nextToEnd_80 : decode cX4_nextToEnd 80 = .ok (.ifCond .lt 16, 3) := by decide +kernel
theorem dX4_nextToEnd_83 : decode cX4_nextToEnd 83 = .ok (.aload_n 0, 1) := by decide +kernel
theorem dX4_nextToEnd_84 : decode cX4_nextToEnd 84 = .ok (.iload_n 2, 1) := by decide +kernel
theorem dX4_nextToEnd_85 : decode cX4_nextToEnd 85 = .ok (.invokevirtual 107, 3) := by decide +kernel
theorem dX4_nextToEnd_88 : decode cX4_nextToEnd 88 = .ok (.aload_n 0, 1) := by decide +kernel
theorem dX4_nextToEnd_89 : decode cX4_nextToEnd 89 = .ok (.iload_n 1, 1) := by decide +kernel
theorem dX4_nextToEnd_90 : decode cX4_nextToEnd 90 = .ok (.invokevirtual 107, 3) := by decide +kernel
theorem dX4_nextToEnd_93 : decode cX4_nextToEnd 93 = .ok (.if_icmp .ge 5, 3) := by decide +kernel
theorem dX4_nextToEnd_96 : decode cX4_nextToEnd 96 = .ok (.iload_n 2, 1) := by decide +kernel
theorem dX4_nextToEnd_97 : decode cX4_nextToEnd 97 = .ok (.istore_n 1, 1) := by decide +kernel
theorem dX4_nextToEnd_98 : decode cX4_nextToEnd 98 = .ok (.iinc 2 1, 3) := by decide +kernel
theorem dX4_nextToEnd_101 : decode cX4_nextToEnd 101 = .ok (.goto (-96), 3) := by decide +kernel
theorem dX4_nextToEnd_104 : decode cX4_nextToEnd 104 = .ok (.iload_n 1, 1) := by decide +kernel
theorem dX4_nextToEnd_105 : decode cX4_nextToEnd 105 = .ok (.ireturn, 1) := by decide +kernel
theorem dX4_endTick_0 : decode cX4_endTick 0 = .ok (.aload_n 0, 1) := by decide +kernel
theorem dX4_endTick_1 : decode cX4_endTick 1 = .ok (.getfield 42, 3) := by decide +kernel
theorem dX4_endTick_4 : decode cX4_endTick 4 = .ok (.iload_n 1, 1) := by decide +kernel
theorem dX4_endTick_5 : decode cX4_endTick 5 = .ok (.iaload, 1) := by decide +kernel
theorem dX4_endTick_6 : decode cX4_endTick 6 = .ok (.aload_n 0, 1) := by decide +kernel
theorem dX4_endTick_7 : decode cX4_endTick 7 = .ok (.getfield 84, 3) := by decide +kernel
theorem dX4_endTick_10 : decode cX4_endTick 10 = .ok (.iadd, 1) := by decide +kernel
theorem dX4_endTick_11 : decode cX4_endTick 11 = .ok (.aload_n 0, 1) := by decide +kernel
theorem dX4_endTick_12 : decode cX4_endTick 12 = .ok (.getfield 48, 3) := by decide +kernel
theorem dX4_endTick_15 : decode cX4_endTick 15 = .ok (.iload_n 1, 1) := by decide +kernel
theorem dX4_endTick_16 : decode cX4_endTick 16 = .ok (.iaload, 1) := by decide +kernel
theorem dX4_endTick_17 : decode cX4_endTick 17 = .ok (.isub, 1) := by decide +kernel
theorem dX4_endTick_18 : decode cX4_endTick 18 = .ok (.ireturn, 1) := by decide +kernel
theorem dX4_highest_0 : decode cX4_highest 0 = .ok (.iload_n 2, 1) := by decide +kernel
theorem dX4_highest_1 : decode cX4_highest 1 = .ok (.istore_n 3, 1) := by decide +kernel
theorem dX4_highest_2 : decode cX4_highest 2 = .ok (.iconst 0, 1) := by decide +kernel
theorem dX4_highest_3 : decode cX4_highest 3 = .ok (.istore 4, 2) := by decide +kernel
theorem dX4_highest_5 : decode cX4_highest 5 = .ok (.iload 4, 2) := by decide +kernel
theorem dX4_highest_7 : decode cX4_highest 7 = .ok (.aload_n 0, 1) := by decide +kernel
theorem dX4_highest_8 : decode cX4_highest 8 = .ok (.getfield 56, 3) := by decide +kernel
theorem dX4_highest_11 : decode cX4_highest 11 = .ok (.getfield 81, 3) := by decide +kernel
theorem dX4_highest_14 : decode cX4_highest 14 = .ok (.if_icmp .ge 23, 3) := by decide +kernel
theorem dX4_highest_17 : decode cX4_highest 17 = .ok (.iload_n 3, 1) := by decide +kernel
theorem dX4_highest_18 : decode cX4_highest 18 = .ok (.aload_n 0, 1) := by decide +kernel
theorem dX4_highest_19 : decode cX4_highest 19 = .ok (.getfield 53, 3) := by decide +kernel
theorem dX4_highest_22 : decode cX4_highest 22 = .ok (.iload_n 1, 1) := by decide +kernel
theorem dX4_highest_23 : decode cX4_highest 23 = .ok (.aaload, 1) := by decide +kernel
theorem dX4_highest_24 : decode cX4_highest 24 = .ok (.iload 4, 2) := by decide +kernel
theorem dX4_highest_26 : decode cX4_highest 26 = .ok (.iaload, 1) := by decide +kernel
theorem dX4_highest_27 : decode cX4_highest 27 = .ok (.invokestatic 144, 3) := by decide +kernel
theorem dX4_highest_30 : decode cX4_highest 30 = .ok (.istore_n 3, 1) := by decide +kernel
theorem dX4_highest_31 : decode cX4_highest 31 = .ok (.iinc 4 1, 3) := by decide +kernel
theorem dX4_highest_34 : decode cX4_highest 34 = .ok (.goto (-29), 3) := by decide +kernel
theorem dX4_highest_37 : decode cX4_highest 37 = .ok (.iload_n 3, 1) := by decide +kernel
theorem dX4_highest_38 : decode cX4_highest 38 = .ok (.ireturn, 1) := by decide +kernel
theorem dX4_presser_0 : decode cX4_presser 0 = .ok (.bipush (-6), 2) := by decide +kernel
theorem dX4_presser_2 : decode cX4_presser 2 = .ok (.istore_n 3, 1) := by decide +kernel
theorem dX4_presser_3 : decode cX4_presser 3 = .ok (.iconst 0, 1) := by decide +kernel
theorem dX4_presser_4 : decode cX4_presser 4 = .ok (.istore 4, 2) := by decide +kernel
theorem dX4_presser_6 : decode cX4_presser 6 = .ok (.iload 4, 2) := by decide +kernel
theorem dX4_presser_8 : decode cX4_presser 8 = .ok (.aload_n 0, 1) := by decide +kernel
theorem dX4_presser_9 : decode cX4_presser 9 = .ok (.getfield 56, 3) := by decide +kernel
theorem dX4_presser_12 : decode cX4_presser 12 = .ok (.getfield 81, 3) := by decide +kernel
theorem dX4_presser_15 : decode cX4_presser 15 = .ok (.if_icmp .ge 84, 3) := by decide +kernel
theorem dX4_presser_18 : decode cX4_presser 18 = .ok (.aload_n 0, 1) := by decide +kernel
theorem dX4_presser_19 : decode cX4_presser 19 = .ok (.getfield 48, 3) := by decide +kernel
theorem dX4_presser_22 : decode cX4_presser 22 = .ok (.iload_n 1, 1) := by decide +kernel
theorem dX4_presser_23 : decode cX4_presser 23 = .ok (.iaload, 1) := by decide +kernel
theorem dX4_presser_24 : decode cX4_presser 24 = .ok (.iload_n 2, 1) := by decide +kernel
theorem dX4_presser_25 : decode cX4_presser 25 = .ok (.if_icmp .lt 74, 3) := by decide +kernel
theorem dX4_presser_28 : decode cX4_presser 28 = .ok (.iload_n 3, 1) := by decide +kernel
theorem dX4_presser_29 : decode cX4_presser 29 = .ok (.ifCond .lt 31, 3) := by decide +kernel
theorem dX4_presser_32 : decode cX4_presser 32 = .ok (.aload_n 0, 1) := by decide +kernel
theorem dX4_presser_33 : decode cX4_presser 33 = .ok (.getfield 56, 3) := by decide +kernel
theorem dX4_presser_36 : decode cX4_presser 36 = .ok (.getfield 85, 3) := by decide +kernel
theorem dX4_presser_39 : decode cX4_presser 39 = .ok (.iload 4, 2) := by decide +kernel
theorem dX4_presser_41 : decode cX4_presser 41 = .ok (.aaload, 1) := by decide +kernel
theorem dX4_presser_42 : decode cX4_presser 42 = .ok (.getfield 147, 3) := by decide +kernel
theorem dX4_presser_45 : decode cX4_presser 45 = .ok (.aload_n 0, 1) := by decide +kernel
theorem dX4_presser_46 : decode cX4_presser 46 = .ok (.getfield 56, 3) := by decide +kernel
theorem dX4_presser_49 : decode cX4_presser 49 = .ok (.getfield 85, 3) := by decide +kernel
theorem dX4_presser_52 : decode cX4_presser 52 = .ok (.iload_n 3, 1) := by decide +kernel
theorem dX4_presser_53 : decode cX4_presser 53 = .ok (.aaload, 1) := by decide +kernel
theorem dX4_presser_54 : decode cX4_presser 54 = .ok (.getfield 147, 3) := by decide +kernel
theorem dX4_presser_57 : decode cX4_presser 57 = .ok (.if_icmp .ge 7, 3) := by decide +kernel
theorem dX4_presser_60 : decode cX4_presser 60 = .ok (.iconst 1, 1) := by decide +kernel
theorem dX4_presser_61 : decode cX4_presser 61 = .ok (.goto 4, 3) := by decide +kernel
theorem dX4_presser_64 : decode cX4_presser 64 = .ok (.iconst 0, 1) := by decide +kernel
theorem dX4_presser_65 : decode cX4_presser 65 = .ok (.istore 5, 2) := by decide +kernel
theorem dX4_presser_67 : decode cX4_presser 67 = .ok (.iload 5, 2) := by decide +kernel
theorem dX4_presser_69 : decode cX4_presser 69 = .ok (.ifCond .eq 24, 3) := by decide +kernel
theorem dX4_presser_72 : decode cX4_presser 72 = .ok (.aload_n 0, 1) := by decide +kernel
theorem dX4_presser_73 : decode cX4_presser 73 = .ok (.getfield 53, 3) := by decide +kernel
theorem dX4_presser_76 : decode cX4_presser 76 = .ok (.iload_n 1, 1) := by decide +kernel
theorem dX4_presser_77 : decode cX4_presser 77 = .ok (.aaload, 1) := by decide +kernel
theorem dX4_presser_78 : decode cX4_presser 78 = .ok (.iload 4, 2) := by decide +kernel
theorem dX4_presser_80 : decode cX4_presser 80 = .ok (.iaload, 1) := by decide +kernel
theorem dX4_presser_81 : decode cX4_presser 81 = .ok (.aload_n 0, 1) := by decide +kernel
theorem dX4_presser_82 : decode cX4_presser 82 = .ok (.getfield 48, 3) := by decide +kernel
theorem dX4_presser_85 : decode cX4_presser 85 = .ok (.iload_n 1, 1) := by decide +kernel
theorem dX4_presser_86 : decode cX4_presser 86 = .ok (.iaload, 1) := by decide +kernel
theorem dX4_presser_87 : decode cX4_presser 87 = .ok (.if_icmp .lt 6, 3) := by decide +kernel
theorem dX4_presser_90 : decode cX4_presser 90 = .ok (.iload 4, 2) := by decide +kernel
theorem dX4_presser_92 : decode cX4_presser 92 = .ok (.istore_n 3, 1) := by decide +kernel
theorem dX4_presser_93 : decode cX4_presser 93 = .ok (.iinc 4 1, 3) := by decide +kernel
theorem dX4_presser_96 : decode cX4_presser 96 = .ok (.goto (-90), 3) := by decide +kernel
theorem dX4_presser_99 : decode cX4_presser 99 = .ok (.iload_n 3, 1) := by decide +kernel
theorem dX4_presser_100 : decode cX4_presser 100 = .ok (.ireturn, 1) := by decide +kernel
theorem dX4_hand_0 : decode cX4_hand 0 = .ok (.aload_n 0, 1) := by decide +kernel
theorem dX4_hand_1 : decode cX4_hand 1 = .ok (.getfield 21, 3) := by decide +kernel
theorem dX4_hand_4 : decode cX4_hand 4 = .ok (.iload_n 1, 1) := by decide +kernel
theorem dX4_hand_5 : decode cX4_hand 5 = .ok (.dup2, 1) := by decide +kernel
theorem dX4_hand_6 : decode cX4_hand 6 = .ok (.iaload, 1) := by decide +kernel
theorem dX4_hand_7 : decode cX4_hand 7 = .ok (.iconst 1, 1) := by decide +kernel
theorem dX4_hand_8 : decode cX4_hand 8 = .ok (.iload_n 2, 1) := by decide +kernel
theorem dX4_hand_9 : decode cX4_hand 9 = .ok (.ishl, 1) := by decide +kernel
theorem dX4_hand_10 : decode cX4_hand 10 = .ok (.ior, 1) := by decide +kernel
theorem dX4_hand_11 : decode cX4_hand 11 = .ok (.iastore, 1) := by decide +kernel
theorem dX4_hand_12 : decode cX4_hand 12 = .ok (.aload_n 0, 1) := by decide +kernel
theorem dX4_hand_13 : decode cX4_hand 13 = .ok (.getfield 33, 3) := by decide +kernel
theorem dX4_hand_16 : decode cX4_hand 16 = .ok (.iload_n 1, 1) := by decide +kernel
theorem dX4_hand_17 : decode cX4_hand 17 = .ok (.dup2, 1) := by decide +kernel
theorem dX4_hand_18 : decode cX4_hand 18 = .ok (.iaload, 1) := by decide +kernel
theorem dX4_hand_19 : decode cX4_hand 19 = .ok (.aload_n 0, 1) := by decide +kernel
theorem dX4_hand_20 : decode cX4_hand 20 = .ok (.getfield 56, 3) := by decide +kernel
theorem dX4_hand_23 : decode cX4_hand 23 = .ok (.getfield 130, 3) := by decide +kernel
theorem dX4_hand_26 : decode cX4_hand 26 = .ok (.iload_n 2, 1) := by decide +kernel
theorem dX4_hand_27 : decode cX4_hand 27 = .ok (.iaload, 1) := by decide +kernel
theorem dX4_hand_28 : decode cX4_hand 28 = .ok (.iadd, 1) := by decide +kernel
theorem dX4_hand_29 : decode cX4_hand 29 = .ok (.iastore, 1) := by decide +kernel
theorem dX4_hand_30 : decode cX4_hand 30 = .ok (.aload_n 0, 1) := by decide +kernel
theorem dX4_hand_31 : decode cX4_hand 31 = .ok (.getfield 24, 3) := by decide +kernel
theorem dX4_hand_34 : decode cX4_hand 34 = .ok (.iload_n 1, 1) := by decide +kernel
theorem dX4_hand_35 : decode cX4_hand 35 = .ok (.aload_n 0, 1) := by decide +kernel
theorem dX4_hand_36 : decode cX4_hand 36 = .ok (.getfield 56, 3) := by decide +kernel
theorem dX4_hand_39 : decode cX4_hand 39 = .ok (.getfield 85, 3) := by decide +kernel
theorem dX4_hand_42 : decode cX4_hand 42 = .ok (.iload_n 1, 1) := by decide +kernel
theorem dX4_hand_43 : decode cX4_hand 43 = .ok (.aaload, 1) := by decide +kernel
theorem dX4_hand_44 : decode cX4_hand 44 = .ok (.aload_n 0, 1) := by decide +kernel
theorem dX4_hand_45 : decode cX4_hand 45 = .ok (.getfield 33, 3) := by decide +kernel
theorem dX4_hand_48 : decode cX4_hand 48 = .ok (.iload_n 1, 1) := by decide +kernel
theorem dX4_hand_49 : decode cX4_hand 49 = .ok (.iaload, 1) := by decide +kernel
theorem dX4_hand_50 : decode cX4_hand 50 = .ok (.invokevirtual 133, 3) := by decide +kernel
theorem dX4_hand_53 : decode cX4_hand 53 = .ok (.iastore, 1) := by decide +kernel
theorem dX4_hand_54 : decode cX4_hand 54 = .ok (.aload_n 0, 1) := by decide +kernel
theorem dX4_hand_55 : decode cX4_hand 55 = .ok (.getfield 27, 3) := by decide +kernel
theorem dX4_hand_58 : decode cX4_hand 58 = .ok (.iload_n 1, 1) := by decide +kernel
theorem dX4_hand_59 : decode cX4_hand 59 = .ok (.dup2, 1) := by decide +kernel
theorem dX4_hand_60 : decode cX4_hand 60 = .ok (.iaload, 1) := by decide +kernel
theorem dX4_hand_61 : decode cX4_hand 61 = .ok (.iload_n 3, 1) := by decide +kernel
theorem dX4_hand_62 : decode cX4_hand 62 = .ok (.iadd, 1) := by decide +kernel
theorem dX4_hand_63 : decode cX4_hand 63 = .ok (.iastore, 1) := by decide +kernel
theorem dX4_hand_64 : decode cX4_hand 64 = .ok (.aload_n 0, 1) := by decide +kernel
theorem dX4_hand_65 : decode cX4_hand 65 = .ok (.getfield 30, 3) := by decide +kernel
theorem dX4_hand_68 : decode cX4_hand 68 = .ok (.iload_n 1, 1) := by decide +kernel
theorem dX4_hand_69 : decode cX4_hand 69 = .ok (.dup2, 1) := by decide +kernel
theorem dX4_hand_70 : decode cX4_hand 70 = .ok (.iaload, 1) := by decide +kernel
theorem dX4_hand_71 : decode cX4_hand 71 = .ok (.iload_n 3, 1) := by decide +kernel
theorem dX4_hand_72 : decode cX4_hand 72 = .ok (.isub, 1) := by decide +kernel
theorem dX4_hand_73 : decode cX4_hand 73 = .ok (.iastore, 1) := by decide +kernel
theorem dX4_hand_74 : decode cX4_hand 74 = .ok (.iconst 0, 1) := by decide +kernel
theorem dX4_hand_75 : decode cX4_hand 75 = .ok (.istore 4, 2) := by decide +kernel
theorem dX4_hand_77 : decode cX4_hand 77 = .ok (.iload 4, 2) := by decide +kernel
theorem dX4_hand_79 : decode cX4_hand 79 = .ok (.iconst 3, 1) := by decide +kernel
theorem dX4_hand_80 : decode cX4_hand 80 = .ok (.if_icmp .ge 16, 3) := by decide +kernel
theorem dX4_hand_83 : decode cX4_hand 83 = .ok (.aload_n 0, 1) := by decide +kernel
theorem dX4_hand_84 : decode cX4_hand 84 = .ok (.iload 4, 2) := by decide +kernel
theorem dX4_hand_86 : decode cX4_hand 86 = .ok (.iload_n 1, 1) := by decide +kernel
theorem dX4_hand_87 : decode cX4_hand 87 = .ok (.invokevirtual 127, 3) := by decide +kernel
theorem dX4_hand_90 : decode cX4_hand 90 = .ok (.iinc 4 1, 3) := by decide +kernel
theorem dX4_hand_93 : decode cX4_hand 93 = .ok (.goto (-16), 3) := by decide +kernel
theorem dX4_hand_96 : decode cX4_hand 96 = .ok (.return_, 1) := by decide +kernel
theorem dX4_lookFrom_0 : decode cX4_lookFrom 0 = .ok (.iconst 0, 1) := by decide +kernel
theorem dX4_lookFrom_1 : decode cX4_lookFrom 1 = .ok (.istore_n 3, 1) := by decide +kernel
theorem dX4_lookFrom_2 : decode cX4_lookFrom 2 = .ok (.iload_n 3, 1) := by decide +kernel
theorem dX4_lookFrom_3 : decode cX4_lookFrom 3 = .ok (.iconst 3, 1) := by decide +kernel
theorem dX4_lookFrom_4 : decode cX4_lookFrom 4 = .ok (.if_icmp .ge 36, 3) := by decide +kernel
theorem dX4_lookFrom_7 : decode cX4_lookFrom 7 = .ok (.aload_n 0, 1) := by decide +kernel
theorem dX4_lookFrom_8 : decode cX4_lookFrom 8 = .ok (.getfield 45, 3) := by decide +kernel
theorem dX4_lookFrom_11 : decode cX4_lookFrom 11 = .ok (.iload_n 3, 1) := by decide +kernel
theorem dX4_lookFrom_12 : decode cX4_lookFrom 12 = .ok (.aload_n 0, 1) := by decide +kernel
theorem dX4_lookFrom_13 : decode cX4_lookFrom 13 = .ok (.getfield 45, 3) := by decide +kernel
theorem dX4_lookFrom_16 : decode cX4_lookFrom 16 = .ok (.iload_n 3, 1) := by decide +kernel
theorem dX4_lookFrom_17 : decode cX4_lookFrom 17 = .ok (.iaload, 1) := by decide +kernel
theorem dX4_lookFrom_18 : decode cX4_lookFrom 18 = .ok (.iload_n 3, 1) := by decide +kernel
theorem dX4_lookFrom_19 : decode cX4_lookFrom 19 = .ok (.iload_n 1, 1) := by decide +kernel
theorem dX4_lookFrom_20 : decode cX4_lookFrom 20 = .ok (.if_icmp .ge 9, 3) := by decide +kernel
theorem dX4_lookFrom_23 : decode cX4_lookFrom 23 = .ok (.iload_n 2, 1) := by decide +kernel
theorem dX4_lookFrom_24 : decode cX4_lookFrom 24 = .ok (.iconst 1, 1) := by decide +kernel
theorem dX4_lookFrom_25 : decode cX4_lookFrom 25 = .ok (.iadd, 1) := by decide +kernel
theorem dX4_lookFrom_26 : decode cX4_lookFrom 26 = .ok (.goto 4, 3) := by decide +kernel
theorem dX4_lookFrom_29 : decode cX4_lookFrom 29 = .ok (.iload_n 2, 1) := by decide +kernel
theorem dX4_lookFrom_30 : decode cX4_lookFrom 30 = .ok (.invokestatic 144, 3) := by decide +kernel
theorem dX4_lookFrom_33 : decode cX4_lookFrom 33 = .ok (.iastore, 1) := by decide +kernel
theorem dX4_lookFrom_34 : decode cX4_lookFrom 34 = .ok (.iinc 3 1, 3) := by decide +kernel
theorem dX4_lookFrom_37 : decode cX4_lookFrom 37 = .ok (.goto (-35), 3) := by decide +kernel
theorem dX4_lookFrom_40 : decode cX4_lookFrom 40 = .ok (.return_, 1) := by decide +kernel
theorem dX5_init_0 : decode cX5_init 0 = .ok (.aload_n 0, 1) := by decide +kernel
theorem dX5_init_1 : decode cX5_init 1 = .ok (.invokespecial 3, 3) := by decide +kernel
theorem dX5_init_4 : decode cX5_init 4 = .ok (.aload_n 0, 1) := by decide +kernel
theorem dX5_init_5 : decode cX5_init 5 = .ok (.bipush 6, 2) := by decide +kernel
theorem dX5_init_7 : decode cX5_init 7 = .ok (.newarray .int, 2) := by decide +kernel
theorem dX5_init_9 : decode cX5_init 9 = .ok (.putfield 9, 3) := by decide +kernel
theorem dX5_init_12 : decode cX5_init 12 = .ok (.aload_n 0, 1) := by decide +kernel
theorem dX5_init_13 : decode cX5_init 13 = .ok (.iconst 5, 1) := by decide +kernel
theorem dX5_init_14 : decode cX5_init 14 = .ok (.newarray .int, 2) := by decide +kernel
theorem dX5_init_16 : decode cX5_init 16 = .ok (.putfield 15, 3) := by decide +kernel
theorem dX5_init_19 : decode cX5_init 19 = .ok (.aload_n 0, 1) := by decide +kernel
theorem dX5_init_20 : decode cX5_init 20 = .ok (.bipush 108, 2) := by decide +kernel
theorem dX5_init_22 : decode cX5_init 22 = .ok (.newarray .int, 2) := by decide +kernel
theorem dX5_init_24 : decode cX5_init 24 = .ok (.putfield 18, 3) := by decide +kernel
theorem dX5_init_27 : decode cX5_init 27 = .ok (.aload_n 0, 1) := by decide +kernel
theorem dX5_init_28 : decode cX5_init 28 = .ok (.bipush 7, 2) := by decide +kernel
theorem dX5_init_30 : decode cX5_init 30 = .ok (.bipush 108, 2) := by decide +kernel
theorem dX5_init_32 : decode cX5_init 32 = .ok (.multianewarray 21 2, 4) := by decide +kernel
theorem dX5_init_36 : decode cX5_init 36 = .ok (.putfield 23, 3) := by decide +kernel
theorem dX5_init_39 : decode cX5_init 39 = .ok (.aload_n 0, 1) := by decide +kernel
theorem dX5_init_40 : decode cX5_init 40 = .ok (.aload_n 1, 1) := by decide +kernel
theorem dX5_init_41 : decode cX5_init 41 = .ok (.putfield 26, 3) := by decide +kernel
theorem dX5_init_44 : decode cX5_init 44 = .ok (.return_, 1) := by decide +kernel
theorem dX5_mostWorth_0 : decode cX5_mostWorth 0 = .ok (.aload_n 0, 1) := by decide +kernel
theorem dX5_mostWorth_1 : decode cX5_mostWorth 1 = .ok (.invokevirtual 30, 3) := by decide +kernel
theorem dX5_mostWorth_4 : decode cX5_mostWorth 4 = .ok (.iconst 0, 1) := by decide +kernel
theorem dX5_mostWorth_5 : decode cX5_mostWorth 5 = .ok (.istore_n 1, 1) := by decide +kernel
theorem dX5_mostWorth_6 : decode cX5_mostWorth 6 = .ok (.iload_n 1, 1) := by decide +kernel
theorem dX5_mostWorth_7 : decode cX5_mostWorth 7 = .ok (.aload_n 0, 1) := by decide +kernel
theorem dX5_mostWorth_8 : decode cX5_mostWorth 8 = .ok (.getfield 33, 3) := by decide +kernel
theorem dX5_mostWorth_11 : decode cX5_mostWorth 11 = .ok (.if_icmp .ge 24, 3) := by decide +kernel
theorem dX5_mostWorth_14 : decode cX5_mostWorth 14 = .ok (.aload_n 0, 1) := by decide +kernel
theorem dX5_mostWorth_15 : decode cX5_mostWorth 15 = .ok (.getfield 23, 3) := by decide +kernel
theorem dX5_mostWorth_18 : decode cX5_mostWorth 18 = .ok (.aload_n 0, 1) := by decide +kernel
theorem dX5_mostWorth_19 : decode cX5_mostWorth 19 = .ok (.getfield 26, 3) := by decide +kernel
theorem dX5_mostWorth_22 : decode cX5_mostWorth 22 = .ok (.getfield 37, 3) := by decide +kernel
theorem dX5_mostWorth_25 : decode cX5_mostWorth 25 = .ok (.aaload, 1) := by decide +kernel
theorem dX5_mostWorth_26 : decode cX5_mostWorth 26 = .ok (.iload_n 1, 1) := by decide +kernel
theorem dX5_mostWorth_27 : decode cX5_mostWorth 27 = .ok (.iconst 0, 1) := by decide +kernel
theorem dX5_mostWorth_28 : decode cX5_mostWorth 28 = .ok (.iastore, 1) := by decide +kernel
theorem dX5_mostWorth_29 : decode cX5_mostWorth 29 = .ok (.iinc 1 1, 3) := by decide +kernel
theorem dX5_mostWorth_32 : decode cX5_mostWorth 32 = .ok (.goto (-26), 3) := by decide +kernel
theorem dX5_mostWorth_35 : decode cX5_mostWorth 35 = .ok (.aload_n 0, 1) := by decide +kernel
theorem dX5_mostWorth_36 : decode cX5_mostWorth 36 = .ok (.getfield 26, 3) := by decide +kernel
theorem dX5_mostWorth_39 : decode cX5_mostWorth 39 = .ok (.getfield 37, 3) := by decide +kernel
theorem dX5_mostWorth_42 : decode cX5_mostWorth 42 = .ok (.iconst 1, 1) := by decide +kernel
theorem dX5_mostWorth_43 : decode cX5_mostWorth 43 = .ok (.isub, 1) := by decide +kernel
theorem dX5_mostWorth_44 : decode cX5_mostWorth 44 = .ok (.istore_n 1, 1) := by decide +kernel
theorem dX5_mostWorth_45 : decode cX5_mostWorth 45 = .ok (.iload_n 1, 1) := by decide +kernel
theorem dX5_mostWorth_46 : decode cX5_mostWorth 46 = .ok (.ifCond .lt 83, 3) := by decide +kernel
theorem dX5_mostWorth_49 : decode cX5_mostWorth 49 = .ok (.aload_n 0, 1) := by decide +kernel
theorem dX5_mostWorth_50 : decode cX5_mostWorth 50 = .ok (.getfield 23, 3) := by decide +kernel
theorem dX5_mostWorth_53 : decode cX5_mostWorth 53 = .ok (.iload_n 1, 1) := by decide +kernel
theorem dX5_mostWorth_54 : decode cX5_mostWorth 54 = .ok (.iconst 1, 1) := by decide +kernel
theorem dX5_mostWorth_55 : decode cX5_mostWorth 55 = .ok (.iadd, 1) := by decide +kernel
theorem dX5_mostWorth_56 : decode cX5_mostWorth 56 = .ok (.aaload, 1) := by decide +kernel
theorem dX5_mostWorth_57 : decode cX5_mostWorth 57 = .ok (.iconst 0, 1) := by decide +kernel
theorem dX5_mostWorth_58 : decode cX5_mostWorth 58 = .ok (.aload_n 0, 1) := by decide +kernel
theorem dX5_mostWorth_59 : decode cX5_mostWorth 59 = .ok (.getfield 23, 3) := by decide +kernel
theorem dX5_mostWorth_62 : decode cX5_mostWorth 62 = .ok (.iload_n 1, 1) := by decide +kernel
theorem dX5_mostWorth_63 : decode cX5_mostWorth 63 = .ok (.aaload, 1) := by decide +kernel
theorem dX5_mostWorth_64 : decode cX5_mostWorth 64 = .ok (.iconst 0, 1) := by decide +kernel
theorem dX5_mostWorth_65 : decode cX5_mostWorth 65 = .ok (.aload_n 0, 1) := by decide +kernel
theorem dX5_mostWorth_66 : decode cX5_mostWorth 66 = .ok (.getfield 33, 3) := by decide +kernel
theorem dX5_mostWorth_69 : decode cX5_mostWorth 69 = .ok (.invokestatic 42, 3) := by decide +kernel
theorem dX5_mostWorth_72 : decode cX5_mostWorth 72 = .ok (.aload_n 0, 1) := by decide +kernel
theorem dX5_mostWorth_73 : decode cX5_mostWorth 73 = .ok (.getfield 26, 3) := by decide +kernel
theorem dX5_mostWorth_76 : decode cX5_mostWorth 76 = .ok (.getfield 48, 3) := by decide +kernel
theorem dX5_mostWorth_79 : decode cX5_mostWorth 79 = .ok (.iload_n 1, 1) := by decide +kernel
theorem dX5_mostWorth_80 : decode cX5_mostWorth 80 = .ok (.aaload, 1) := by decide +kernel
theorem dX5_mostWorth_81 : decode cX5_mostWorth 81 = .ok (.astore_n 2, 1) := by decide +kernel
theorem dX5_mostWorth_82 : decode cX5_mostWorth 82 = .ok (.iconst 0, 1) := by decide +kernel
theorem dX5_mostWorth_83 : decode cX5_mostWorth 83 = .ok (.istore_n 3, 1) := by decide +kernel
theorem dX5_mostWorth_84 : decode cX5_mostWorth 84 = .ok (.iload_n 3, 1) := by decide +kernel
theorem dX5_mostWorth_85 : decode cX5_mostWorth 85 = .ok (.aload_n 2, 1) := by decide +kernel
theorem dX5_mostWorth_86 : decode cX5_mostWorth 86 = .ok (.getfield 52, 3) := by decide +kernel
theorem dX5_mostWorth_89 : decode cX5_mostWorth 89 = .ok (.if_icmp .ge 34, 3) := by decide +kernel
theorem dX5_mostWorth_92 : decode cX5_mostWorth 92 = .ok (.aload_n 2, 1) := by decide +kernel
theorem dX5_mostWorth_93 : decode cX5_mostWorth 93 = .ok (.iload_n 3, 1) := by decide +kernel
theorem dX5_mostWorth_94 : decode cX5_mostWorth 94 = .ok (.invokevirtual 57, 3) := by decide +kernel
theorem dX5_mostWorth_97 : decode cX5_mostWorth 97 = .ok (.ifCond .eq 20, 3) := by decide +kernel
theorem dX5_mostWorth_100 : decode cX5_mostWorth 100 = .ok (.aload_n 0, 1) := by decide +kernel
theorem dX5_mostWorth_101 : decode cX5_mostWorth 101 = .ok (.iload_n 1, 1) := by decide +kernel
theorem dX5_mostWorth_102 : decode cX5_mostWorth 102 = .ok (.aload_n 2, 1) := by decide +kernel
theorem dX5_mostWorth_103 : decode cX5_mostWorth 103 = .ok (.getfield 61, 3) := by decide +kernel
theorem dX5_mostWorth_106 : decode cX5_mostWorth 106 = .ok (.iload_n 3, 1) := by decide +kernel
theorem dX5_mostWorth_107 : decode cX5_mostWorth 107 = .ok (.iaload, 1) := by decide +kernel
theorem dX5_mostWorth_108 : decode cX5_mostWorth 108 = .ok (.aload_n 2, 1) := by decide +kernel
theorem dX5_mostWorth_109 : decode cX5_mostWorth 109 = .ok (.getfield 64, 3) := by decide +kernel
theorem dX5_mostWorth_112 : decode cX5_mostWorth 112 = .ok (.iload_n 3, 1) := by decide +kernel
theorem dX5_mostWorth_113 : decode cX5_mostWorth 113 = .ok (.iaload, 1) := by decide +kernel
theorem dX5_mostWorth_114 : decode cX5_mostWorth 114 = .ok (.invokevirtual 67, 3) := by decide +kernel
theorem dX5_mostWorth_117 : decode cX5_mostWorth 117 = .ok (.iinc 3 1, 3) := by decide +kernel
theorem dX5_mostWorth_120 : decode cX5_mostWorth 120 = .ok (.goto (-36), 3) := by decide +kernel
theorem dX5_mostWorth_123 : decode cX5_mostWorth 123 = .ok (.iinc 1 (-1), 3) := by decide +kernel
theorem dX5_mostWorth_126 : decode cX5_mostWorth 126 = .ok (.goto (-81), 3) := by decide +kernel
theorem dX5_mostWorth_129 : decode cX5_mostWorth 129 = .ok (.aload_n 0, 1) := by decide +kernel
theorem dX5_mostWorth_130 : decode cX5_mostWorth 130 = .ok (.getfield 23, 3) := by decide +kernel
theorem dX5_mostWorth_133 : decode cX5_mostWorth 133 = .ok (.iconst 0, 1) := by decide +kernel
theorem dX5_mostWorth_134 : decode cX5_mostWorth 134 = .ok (.aaload, 1) := by decide +kernel
theorem dX5_mostWorth_135 : decode cX5_mostWorth 135 = .ok (.aload_n 0, 1) := by decide +kernel
theorem dX5_mostWorth_136 : decode cX5_mostWorth 136 = .ok (.getfield 33, 3) := by decide +kernel
theorem dX5_mostWorth_139 : decode cX5_mostWorth 139 = .ok (.iconst 1, 1) := by decide +kernel
theorem dX5_mostWorth_140 : decode cX5_mostWorth 140 = .ok (.isub, 1) := by decide +kernel
theorem dX5_mostWorth_141 : decode cX5_mostWorth 141 = .ok (.iaload, 1) := by decide +kernel
theorem dX5_mostWorth_142 : decode cX5_mostWorth 142 = .ok (.ireturn, 1) := by decide +kernel
theorem dX5_share_0 : decode cX5_share 0 = .ok (.aload_n 0, 1) := by decide +kernel
theorem dX5_share_1 : decode cX5_share 1 = .ok (.getfield 26, 3) := by decide +kernel
theorem dX5_share_4 : decode cX5_share 4 = .ok (.invokevirtual 71, 3) := by decide +kernel
theorem dX5_share_7 : decode cX5_share 7 = .ok (.istore_n 1, 1) := by decide +kernel
theorem dX5_share_8 : decode cX5_share 8 = .ok (.aload_n 0, 1) := by decide +kernel
theorem dX5_share_9 : decode cX5_share 9 = .ok (.getfield 33, 3) := by decide +kernel
theorem dX5_share_12 : decode cX5_share 12 = .ok (.iconst 1, 1) := by decide +kernel
theorem dX5_share_13 : decode cX5_share 13 = .ok (.isub, 1) := by decide +kernel
theorem dX5_share_14 : decode cX5_share 14 = .ok (.istore_n 2, 1) := by decide +kernel
theorem dX5_share_15 : decode cX5_share 15 = .ok (.iconst 0, 1) := by decide +kernel
theorem dX5_share_16 : decode cX5_share 16 = .ok (.istore_n 3, 1) := by decide +kernel
theorem dX5_share_17 : decode cX5_share 17 = .ok (.iload_n 3, 1) := by decide +kernel
theorem dX5_share_18 : decode cX5_share 18 = .ok (.aload_n 0, 1) := by decide +kernel
theorem dX5_share_19 : decode cX5_share 19 = .ok (.getfield 26, 3) := by decide +kernel
theorem dX5_share_22 : decode cX5_share 22 = .ok (.getfield 37, 3) := by decide +kernel
theorem dX5_share_25 : decode cX5_share 25 = .ok (.if_icmp .ge 53, 3) := by decide +kernel
theorem dX5_share_28 : decode cX5_share 28 = .ok (.aload_n 0, 1) := by decide +kernel
theorem dX5_share_29 : decode cX5_share 29 = .ok (.getfield 9, 3) := by decide +kernel
theorem dX5_share_32 : decode cX5_share 32 = .ok (.iload_n 3, 1) := by decide +kernel
theorem dX5_share_33 : decode cX5_share 33 = .ok (.aload_n 0, 1) := by decide +kernel
theorem dX5_share_34 : decode cX5_share 34 = .ok (.iload_n 3, 1) := by decide +kernel
theorem dX5_share_35 : decode cX5_share 35 = .ok (.iload_n 1, 1) := by decide +kernel
theorem dX5_share_36 : decode cX5_share 36 = .ok (.iload_n 2, 1) := by decide +kernel
theorem dX5_share_37 : decode cX5_share 37 = .ok (.invokevirtual 75, 3) := by decide +kernel
theorem dX5_share_40 : decode cX5_share 40 = .ok (.iastore, 1) := by decide +kernel
theorem dX5_share_41 : decode cX5_share 41 = .ok (.iload_n 1, 1) := by decide +kernel
theorem dX5_share_42 : decode cX5_share 42 = .ok (.aload_n 0, 1) := by decide +kernel
theorem dX5_share_43 : decode cX5_share 43 = .ok (.getfield 9, 3) := by decide +kernel
theorem dX5_share_46 : decode cX5_share 46 = .ok (.iload_n 3, 1) := by decide +kernel
theorem dX5_share_47 : decode cX5_share 47 = .ok (.iaload, 1) := by decide +kernel
theorem dX5_share_48 : decode cX5_share 48 = .ok (.iconst (-1), 1) := by decide +kernel
theorem dX5_share_49 : decode cX5_share 49 = .ok (.ixor, 1) := by decide +kernel
theorem dX5_share_50 : decode cX5_share 50 = .ok (.iand, 1) := by decide +kernel
theorem dX5_share_51 : decode cX5_share 51 = .ok (.istore_n 1, 1) := by decide +kernel
theorem dX5_share_52 : decode cX5_share 52 = .ok (.iload_n 2, 1) := by decide +kernel
theorem dX5_share_53 : decode cX5_share 53 = .ok (.aload_n 0, 1) := by decide +kernel
theorem dX5_share_54 : decode cX5_share 54 = .ok (.aload_n 0, 1) := by decide +kernel
theorem dX5_share_55 : decode cX5_share 55 = .ok (.getfield 26, 3) := by decide +kernel
theorem dX5_share_58 : decode cX5_share 58 = .ok (.aload_n 0, 1) := by decide +kernel
theorem dX5_share_59 : decode cX5_share 59 = .ok (.getfield 9, 3) := by decide +kernel
theorem dX5_share_62 : decode cX5_share 62 = .ok (.iload_n 3, 1) := by decide +kernel
theorem dX5_share_63 : decode cX5_share 63 = .ok (.iaload, 1) := by decide +kernel
theorem dX5_share_64 : decode cX5_share 64 = .ok (.invokevirtual 79, 3) := by decide +kernel
theorem dX5_share_67 : decode cX5_share 67 = .ok (.invokevirtual 83, 3) := by decide +kernel
theorem dX5_share_70 : decode cX5_share 70 = .ok (.isub, 1) := by decide +kernel
theorem dX5_share_71 : decode cX5_share 71 = .ok (.istore_n 2, 1) := by decide +kernel
theorem dX5_share_72 : decode cX5_share 72 = .ok (.iinc 3 1, 3) := by decide +kernel
theorem dX5_share_75 : decode cX5_share 75 = .ok (.goto (-58), 3) := by decide +kernel
theorem dX5_share_78 : decode cX5_share 78 = .ok (.return_, 1) := by decide +kernel
theorem dX5_layOut_0 : decode cX5_layOut 0 = .ok (.aload_n 0, 1) := by decide +kernel
theorem dX5_layOut_1 : decode cX5_layOut 1 = .ok (.getfield 26, 3) := by decide +kernel
theorem dX5_layOut_4 : decode cX5_layOut 4 = .ok (.aload_n 0, 1) := by decide +kernel
theorem dX5_layOut_5 : decode cX5_layOut 5 = .ok (.getfield 26, 3) := by decide +kernel
theorem dX5_layOut_8 : decode cX5_layOut 8 = .ok (.invokevirtual 71, 3) := by decide +kernel
theorem dX5_layOut_11 : decode cX5_layOut 11 = .ok (.invokevirtual 79, 3) := by decide +kernel
theorem dX5_layOut_14 : decode cX5_layOut 14 = .ok (.istore_n 1, 1) := by decide +kernel
theorem dX5_layOut_15 : decode cX5_layOut 15 = .ok (.aload_n 0, 1) := by decide +kernel
theorem dX5_layOut_16 : decode cX5_layOut 16 = .ok (.getfield 18, 3) := by decide +kernel
theorem dX5_layOut_19 : decode cX5_layOut 19 = .ok (.iconst 0, 1) := by decide +kernel
theorem dX5_layOut_20 : decode cX5_layOut 20 = .ok (.iconst 0, 1) := by decide +kernel
theorem dX5_layOut_21 : decode cX5_layOut 21 = .ok (.iastore, 1) := by decide +kernel
theorem dX5_layOut_22 : decode cX5_layOut 22 = .ok (.aload_n 0, 1) := by decide +kernel
theorem dX5_layOut_23 : decode cX5_layOut 23 = .ok (.iconst 1, 1) := by decide +kernel
theorem dX5_layOut_24 : decode cX5_layOut 24 = .ok (.putfield 33, 3) := by decide +kernel
theorem dX5_layOut_27 : decode cX5_layOut 27 = .ok (.iconst 0, 1) := by decide +kernel
theorem dX5_layOut_28 : decode cX5_layOut 28 = .ok (.istore_n 2, 1) := by decide +kernel
theorem dX5_layOut_29 : decode cX5_layOut 29 = .ok (.iload_n 2, 1) := by decide +kernel
theorem dX5_layOut_30 : decode cX5_layOut 30 = .ok (.iconst 5, 1) := by decide +kernel
theorem dX5_layOut_31 : decode cX5_layOut 31 = .ok (.if_icmp .ge 80, 3) := by decide +kernel
theorem dX5_layOut_34 : decode cX5_layOut 34 = .ok (.aload_n 0, 1) := by decide +kernel
theorem dX5_layOut_35 : decode cX5_layOut 35 = .ok (.getfield 15, 3) := by decide +kernel
theorem dX5_layOut_38 : decode cX5_layOut 38 = .ok (.iload_n 2, 1) := by decide +kernel
theorem dX5_layOut_39 : decode cX5_layOut 39 = .ok (.aload_n 0, 1) := by decide +kernel
theorem dX5_layOut_40 : decode cX5_layOut 40 = .ok (.getfield 33, 3) := by decide +kernel
theorem dX5_layOut_43 : decode cX5_layOut 43 = .ok (.iastore, 1) := by decide +kernel
theorem dX5_layOut_44 : decode cX5_layOut 44 = .ok (.aload_n 0, 1) := by decide +kernel
theorem dX5_layOut_45 : decode cX5_layOut 45 = .ok (.dup, 1) := by decide +kernel
theorem dX5_layOut_46 : decode cX5_layOut 46 = .ok (.getfield 33, 3) := by decide +kernel
theorem dX5_layOut_49 : decode cX5_layOut 49 = .ok (.iload_n 1, 1) := by decide +kernel
theorem dX5_layOut_50 : decode cX5_layOut 50 = .ok (.iload_n 2, 1) := by decide +kernel
theorem dX5_layOut_51 : decode cX5_layOut 51 = .ok (.invokestatic 86, 3) := by decide +kernel
theorem dX5_layOut_54 : decode cX5_layOut 54 = .ok (.iconst 1, 1) := by decide +kernel
theorem dX5_layOut_55 : decode cX5_layOut 55 = .ok (.iadd, 1) := by decide +kernel
theorem dX5_layOut_56 : decode cX5_layOut 56 = .ok (.imul, 1) := by decide +kernel
theorem dX5_layOut_57 : decode cX5_layOut 57 = .ok (.putfield 33, 3) := by decide +kernel
theorem dX5_layOut_60 : decode cX5_layOut 60 = .ok (.aload_n 0, 1) := by decide +kernel
theorem dX5_layOut_61 : decode cX5_layOut 61 = .ok (.getfield 15, 3) := by decide +kernel
theorem dX5_layOut_64 : decode cX5_layOut 64 = .ok (.iload_n 2, 1) := by decide +kernel
theorem dX5_layOut_65 : decode cX5_layOut 65 = .ok (.iaload, 1) := by decide +kernel
theorem dX5_layOut_66 : decode cX5_layOut 66 = .ok (.istore_n 3, 1) := by decide +kernel
theorem dX5_layOut_67 : decode cX5_layOut 67 = .ok (.iload_n 3, 1) := by decide +kernel
theorem dX5_layOut_68 : decode cX5_layOut 68 = .ok (.aload_n 0, 1) := by decide +kernel
theorem dX5_layOut_69 : decode cX5_layOut 69 = .ok (.getfield 33, 3) := by decide +kernel
theorem dX5_layOut_72 : decode cX5_layOut 72 = .ok (.if_icmp .ge 33, 3) := by decide +kernel
theorem dX5_layOut_75 : decode cX5_layOut 75 = .ok (.aload_n 0, 1) := by decide +kernel
theorem dX5_layOut_76 : decode cX5_layOut 76 = .ok (.getfield 18, 3) := by decide +kernel
theorem dX5_layOut_79 : decode cX5_layOut 79 = .ok (.iload_n 3, 1) := by decide +kernel
theorem dX5_layOut_80 : decode cX5_layOut 80 = .ok (.aload_n 0, 1) := by decide +kernel
theorem dX5_layOut_81 : decode cX5_layOut 81 = .ok (.getfield 18, 3) := by decide +kernel
theorem dX5_layOut_84 : decode cX5_layOut 84 = .ok (.iload_n 3, 1) := by decide +kernel
theorem dX5_layOut_85 : decode cX5_layOut 85 = .ok (.aload_n 0, 1) := by decide +kernel
theorem dX5_layOut_86 : decode cX5_layOut 86 = .ok (.getfield 15, 3) := by decide +kernel
theorem dX5_layOut_89 : decode cX5_layOut 89 = .ok (.iload_n 2, 1) := by decide +kernel
theorem dX5_layOut_90 : decode cX5_layOut 90 = .ok (.iaload, 1) := by decide +kernel
theorem dX5_layOut_91 : decode cX5_layOut 91 = .ok (.isub, 1) := by decide +kernel
theorem dX5_layOut_92 : decode cX5_layOut 92 = .ok (.iaload, 1) := by decide +kernel
theorem dX5_layOut_93 : decode cX5_layOut 93 = .ok (.iload_n 2, 1) := by decide +kernel
theorem dX5_layOut_94 : decode cX5_layOut 94 = .ok (.invokestatic 92, 3) := by decide +kernel
theorem dX5_layOut_97 : decode cX5_layOut 97 = .ok (.iadd, 1) := by decide +kernel
theorem dX5_layOut_98 : decode cX5_layOut 98 = .ok (.iastore, 1) := by decide +kernel
theorem dX5_layOut_99 : decode cX5_layOut 99 = .ok (.iinc 3 1, 3) := by decide +kernel
theorem dX5_layOut_102 : decode cX5_layOut 102 = .ok (.goto (-35), 3) := by decide +kernel
theorem dX5_layOut_105 : decode cX5_layOut 105 = .ok (.iinc 2 1, 3) := by decide +kernel
theorem dX5_layOut_108 : decode cX5_layOut 108 = .ok (.goto (-79), 3) := by decide +kernel
theorem dX5_layOut_111 : decode cX5_layOut 111 = .ok (.return_, 1) := by decide +kernel
theorem dX5_distance_0 : decode cX5_distance 0 = .ok (.iconst 0, 1) := by decide +kernel
theorem dX5_distance_1 : decode cX5_distance 1 = .ok (.istore_n 2, 1) := by decide +kernel
theorem dX5_distance_2 : decode cX5_distance 2 = .ok (.iconst 0, 1) := by decide +kernel
theorem dX5_distance_3 : decode cX5_distance 3 = .ok (.istore_n 3, 1) := by decide +kernel
theorem dX5_distance_4 : decode cX5_distance 4 = .ok (.iload_n 3, 1) := by decide +kernel
theorem dX5_distance_5 : decode cX5_distance 5 = .ok (.iconst 5, 1) := by decide +kernel
theorem dX5_distance_6 : decode cX5_distance 6 = .ok (.if_icmp .ge 24, 3) := by decide +kernel
theorem dX5_distance_9 : decode cX5_distance 9 = .ok (.iload_n 2, 1) := by decide +kernel
theorem dX5_distance_10 : decode cX5_distance 10 = .ok (.iload_n 1, 1) := by decide +kernel
theorem dX5_distance_11 : decode cX5_distance 11 = .ok (.iload_n 3, 1) := by decide +kernel
theorem dX5_distance_12 : decode cX5_distance 12 = .ok (.invokestatic 86, 3) := by decide +kernel
theorem dX5_distance_15 : decode cX5_distance 15 = .ok (.aload_n 0, 1) := by decide +kernel
theorem dX5_distance_16 : decode cX5_distance 16 = .ok (.getfield 15, 3) := by decide +kernel
theorem dX5_distance_19 : decode cX5_distance 19 = .ok (.iload_n 3, 1) := by decide +kernel
theorem dX5_distance_20 : decode cX5_distance 20 = .ok (.iaload, 1) := by decide +kernel
theorem dX5_distance_21 : decode cX5_distance 21 = .ok (.imul, 1) := by decide +kernel
theorem dX5_distance_22 : decode cX5_distance 22 = .ok (.iadd, 1) := by decide +kernel
theorem dX5_distance_23 : decode cX5_distance 23 = .ok (.istore_n 2, 1) := by decide +kernel
theorem dX5_distance_24 : decode cX5_distance 24 = .ok (.iinc 3 1, 3) := by decide +kernel
theorem dX5_distance_27 : decode cX5_distance 27 = .ok (.goto (-23), 3) := by decide +kernel
theorem dX5_distance_30 : decode cX5_distance 30 = .ok (.iload_n 2, 1) := by decide +kernel
theorem dX5_distance_31 : decode cX5_distance 31 = .ok (.ireturn, 1) := by decide +kernel
theorem dX5_serve_0 : decode cX5_serve 0 = .ok (.aload_n 0, 1) := by decide +kernel
theorem dX5_serve_1 : decode cX5_serve 1 = .ok (.iload_n 3, 1) := by decide +kernel
theorem dX5_serve_2 : decode cX5_serve 2 = .ok (.invokevirtual 83, 3) := by decide +kernel
theorem dX5_serve_5 : decode cX5_serve 5 = .ok (.istore 4, 2) := by decide +kernel
theorem dX5_serve_7 : decode cX5_serve 7 = .ok (.iload 4, 2) := by decide +kernel
theorem dX5_serve_9 : decode cX5_serve 9 = .ok (.istore 5, 2) := by decide +kernel
theorem dX5_serve_11 : decode cX5_serve 11 = .ok (.iload 5, 2) := by decide +kernel
theorem dX5_serve_13 : decode cX5_serve 13 = .ok (.aload_n 0, 1) := by decide +kernel
theorem dX5_serve_14 : decode cX5_serve 14 = .ok (.getfield 33, 3) := by decide +kernel
theorem dX5_serve_17 : decode cX5_serve 17 = .ok (.if_icmp .ge 60, 3) := by decide +kernel
theorem dX5_serve_20 : decode cX5_serve 20 = .ok (.aload_n 0, 1) := by decide +kernel
theorem dX5_serve_21 : decode cX5_serve 21 = .ok (.getfield 18, 3) := by decide +kernel
theorem dX5_serve_24 : decode cX5_serve 24 = .ok (.iload 5, 2) := by decide +kernel
theorem dX5_serve_26 : decode cX5_serve 26 = .ok (.iaload, 1) := by decide +kernel
theorem dX5_serve_27 : decode cX5_serve 27 = .ok (.iload_n 3, 1) := by decide +kernel
theorem dX5_serve_28 : decode cX5_serve 28 = .ok (.invokestatic 95, 3) := by decide +kernel
theorem dX5_serve_31 : decode cX5_serve 31 = .ok (.ifCond .eq 40, 3) := by decide +kernel
theorem dX5_serve_34 : decode cX5_serve 34 = .ok (.aload_n 0, 1) := by decide +kernel
theorem dX5_serve_35 : decode cX5_serve 35 = .ok (.getfield 23, 3) := by decide +kernel
theorem dX5_serve_38 : decode cX5_serve 38 = .ok (.iload_n 1, 1) := by decide +kernel
theorem dX5_serve_39 : decode cX5_serve 39 = .ok (.aaload, 1) := by decide +kernel
theorem dX5_serve_40 : decode cX5_serve 40 = .ok (.iload 5, 2) := by decide +kernel
theorem dX5_serve_42 : decode cX5_serve 42 = .ok (.aload_n 0, 1) := by decide +kernel
theorem dX5_serve_43 : decode cX5_serve 43 = .ok (.getfield 23, 3) := by decide +kernel
theorem dX5_serve_46 : decode cX5_serve 46 = .ok (.iload_n 1, 1) := by decide +kernel
theorem dX5_serve_47 : decode cX5_serve 47 = .ok (.aaload, 1) := by decide +kernel
theorem dX5_serve_48 : decode cX5_serve 48 = .ok (.iload 5, 2) := by decide +kernel
theorem dX5_serve_50 : decode cX5_serve 50 = .ok (.iaload, 1) := by decide +kernel
theorem dX5_serve_51 : decode cX5_serve 51 = .ok (.iload_n 2, 1) := by decide +kernel
theorem dX5_serve_52 : decode cX5_serve 52 = .ok (.aload_n 0, 1) := by decide +kernel
theorem dX5_serve_53 : decode cX5_serve 53 = .ok (.getfield 23, 3) := by decide +kernel
theorem dX5_serve_56 : decode cX5_serve 56 = .ok (.iload_n 1, 1) := by decide +kernel
theorem dX5_serve_57 : decode cX5_serve 57 = .ok (.iconst 1, 1) := by decide +kernel
theorem dX5_serve_58 : decode cX5_serve 58 = .ok (.iadd, 1) := by decide +kernel
theorem dX5_serve_59 : decode cX5_serve 59 = .ok (.aaload, 1) := by decide +kernel
theorem dX5_serve_60 : decode cX5_serve 60 = .ok (.iload 5, 2) := by decide +kernel
theorem dX5_serve_62 : decode cX5_serve 62 = .ok (.iload 4, 2) := by decide +kernel
theorem dX5_serve_64 : decode cX5_serve 64 = .ok (.isub, 1) := by decide +kernel
theorem dX5_serve_65 : decode cX5_serve 65 = .ok (.iaload, 1) := by decide +kernel
theorem dX5_serve_66 : decode cX5_serve 66 = .ok (.iadd, 1) := by decide +kernel
theorem dX5_serve_67 : decode cX5_serve 67 = .ok (.invokestatic 99, 3) := by decide +kernel
theorem dX5_serve_70 : decode cX5_serve 70 = .ok (.iastore, 1) := by decide +kernel
theorem dX5_serve_71 : decode cX5_serve 71 = .ok (.iinc 5 1, 3) := by decide +kernel
theorem dX5_serve_74 : decode cX5_serve 74 = .ok (.goto (-63), 3) := by decide +kernel
theorem dX5_serve_77 : decode cX5_serve 77 = .ok (.return_, 1) := by decide +kernel
theorem dX5_leastHeap_0 : decode cX5_leastHeap 0 = .ok (.aload_n 0, 1) := by decide +kernel
theorem dX5_leastHeap_1 : decode cX5_leastHeap 1 = .ok (.getfield 23, 3) := by decide +kernel
theorem dX5_leastHeap_4 : decode cX5_leastHeap 4 = .ok (.iload_n 1, 1) := by decide +kernel
theorem dX5_leastHeap_5 : decode cX5_leastHeap 5 = .ok (.aaload, 1) := by decide +kernel
theorem dX5_leastHeap_6 : decode cX5_leastHeap 6 = .ok (.iload_n 3, 1) := by decide +kernel
theorem dX5_leastHeap_7 : decode cX5_leastHeap 7 = .ok (.iaload, 1) := by decide +kernel
theorem dX5_leastHeap_8 : decode cX5_leastHeap 8 = .ok (.istore 4, 2) := by decide +kernel
theorem dX5_leastHeap_10 : decode cX5_leastHeap 10 = .ok (.aload_n 0, 1) := by decide +kernel
theorem dX5_leastHeap_11 : decode cX5_leastHeap 11 = .ok (.getfield 23, 3) := by decide +kernel
theorem dX5_leastHeap_14 : decode cX5_leastHeap 14 = .ok (.iload_n 1, 1) := by decide +kernel
theorem dX5_leastHeap_15 : decode cX5_leastHeap 15 = .ok (.iconst 1, 1) := by decide +kernel
theorem dX5_leastHeap_16 : decode cX5_leastHeap 16 = .ok (.iadd, 1) := by decide +kernel
theorem dX5_leastHeap_17 : decode cX5_leastHeap 17 = .ok (.aaload, 1) := by decide +kernel
theorem dX5_leastHeap_18 : decode cX5_leastHeap 18 = .ok (.iload_n 3, 1) := by decide +kernel
theorem dX5_leastHeap_19 : decode cX5_leastHeap 19 = .ok (.iaload, 1) := by decide +kernel
theorem dX5_leastHeap_20 : decode cX5_leastHeap 20 = .ok (.iload 4, 2) := by decide +kernel
theorem dX5_leastHeap_22 : decode cX5_leastHeap 22 = .ok (.if_icmp .ne 5, 3) := by decide +kernel
theorem dX5_leastHeap_25 : decode cX5_leastHeap 25 = .ok (.iconst 0, 1) := by decide +kernel
theorem dX5_leastHeap_26 : decode cX5_leastHeap 26 = .ok (.ireturn, 1) := by decide +kernel
theorem dX5_leastHeap_27 : decode cX5_leastHeap 27 = .ok (.iload_n 2, 1) := by decide +kernel
theorem dX5_leastHeap_28 : decode cX5_leastHeap 28 = .ok (.istore 5, 2) := by decide +kernel
theorem dX5_leastHeap_30 : decode cX5_leastHeap 30 = .ok (.aload_n 0, 1) := by decide +kernel
theorem dX5_leastHeap_31 : decode cX5_leastHeap 31 = .ok (.getfield 26, 3) := by decide +kernel
theorem dX5_leastHeap_34 : decode cX5_leastHeap 34 = .ok (.getfield 48, 3) := by decide +kernel
theorem dX5_leastHeap_37 : decode cX5_leastHeap 37 = .ok (.iload_n 1, 1) := by decide +kernel
theorem dX5_leastHeap_38 : decode cX5_leastHeap 38 = .ok (.aaload, 1) := by decide +kernel
theorem dX5_leastHeap_39 : decode cX5_leastHeap 39 = .ok (.astore 6, 2) := by decide +kernel
theorem dX5_leastHeap_41 : decode cX5_leastHeap 41 = .ok (.iconst 0, 1) := by decide +kernel
theorem dX5_leastHeap_42 : decode cX5_leastHeap 42 = .ok (.istore 7, 2) := by decide +kernel
theorem dX5_leastHeap_44 : decode cX5_leastHeap 44 = .ok (.iload 7, 2) := by decide +kernel
theorem dX5_leastHeap_46 : decode cX5_leastHeap 46 = .ok (.aload 6, 2) := by decide +kernel
theorem dX5_leastHeap_48 : decode cX5_leastHeap 48 = .ok (.getfield 52, 3) := by decide +kernel
theorem dX5_leastHeap_51 : decode cX5_leastHeap 51 = .ok (.if_icmp .ge 120, 3) := by decide +kernel
theorem dX5_leastHeap_54 : decode cX5_leastHeap 54 = .ok (.aload 6, 2) := by decide +kernel
theorem dX5_leastHeap_56 : decode cX5_leastHeap 56 = .ok (.iload 7, 2) := by decide +kernel
theorem dX5_leastHeap_58 : decode cX5_leastHeap 58 = .ok (.invokevirtual 57, 3) := by decide +kernel
theorem dX5_leastHeap_61 : decode cX5_leastHeap 61 = .ok (.ifCond .eq 104, 3) := by decide +kernel
theorem dX5_leastHeap_64 : decode cX5_leastHeap 64 = .ok (.aload_n 0, 1) := by decide +kernel
theorem dX5_leastHeap_65 : decode cX5_leastHeap 65 = .ok (.getfield 18, 3) := by decide +kernel
theorem dX5_leastHeap_68 : decode cX5_leastHeap 68 = .ok (.iload_n 3, 1) := by decide +kernel
theorem dX5_leastHeap_69 : decode cX5_leastHeap 69 = .ok (.iaload, 1) := by decide +kernel
theorem dX5_leastHeap_70 : decode cX5_leastHeap 70 = .ok (.aload 6, 2) := by decide +kernel
theorem dX5_leastHeap_72 : decode cX5_leastHeap 72 = .ok (.getfield 64, 3) := by decide +kernel
theorem dX5_leastHeap_75 : decode cX5_leastHeap 75 = .ok (.iload 7, 2) := by decide +kernel
theorem dX5_leastHeap_77 : decode cX5_leastHeap 77 = .ok (.iaload, 1) := by decide +kernel
theorem dX5_leastHeap_78 : decode cX5_leastHeap 78 = .ok (.invokestatic 95, 3) := by decide +kernel
theorem dX5_leastHeap_81 : decode cX5_leastHeap 81 = .ok (.ifCond .eq 84, 3) := by decide +kernel
theorem dX5_leastHeap_84 : decode cX5_leastHeap 84 = .ok (.aload 6, 2) := by decide +kernel
theorem dX5_leastHeap_86 : decode cX5_leastHeap 86 = .ok (.getfield 61, 3) := by decide +kernel
theorem dX5_leastHeap_89 : decode cX5_leastHeap 89 = .ok (.iload 7, 2) := by decide +kernel
theorem dX5_leastHeap_91 : decode cX5_leastHeap 91 = .ok (.iaload, 1) := by decide +kernel
theorem dX5_leastHeap_92 : decode cX5_leastHeap 92 = .ok (.aload_n 0, 1) := by decide +kernel
theorem dX5_leastHeap_93 : decode cX5_leastHeap 93 = .ok (.getfield 23, 3) := by decide +kernel
theorem dX5_leastHeap_96 : decode cX5_leastHeap 96 = .ok (.iload_n 1, 1) := by decide +kernel
theorem dX5_leastHeap_97 : decode cX5_leastHeap 97 = .ok (.iconst 1, 1) := by decide +kernel
theorem dX5_leastHeap_98 : decode cX5_leastHeap 98 = .ok (.iadd, 1) := by decide +kernel
theorem dX5_leastHeap_99 : decode cX5_leastHeap 99 = .ok (.aaload, 1) := by decide +kernel
theorem dX5_leastHeap_100 : decode cX5_leastHeap 100 = .ok (.iload_n 3, 1) := by decide +kernel
theorem dX5_leastHeap_101 : decode cX5_leastHeap 101 = .ok (.aload_n 0, 1) := by decide +kernel
theorem dX5_leastHeap_102 : decode cX5_leastHeap 102 = .ok (.aload 6, 2) := by decide +kernel
theorem dX5_leastHeap_104 : decode cX5_leastHeap 104 = .ok (.getfield 64, 3) := by decide +kernel
theorem dX5_leastHeap_107 : decode cX5_leastHeap 107 = .ok (.iload 7, 2) := by decide +kernel
theorem dX5_leastHeap_109 : decode cX5_leastHeap 109 = .ok (.iaload, 1) := by decide +kernel
theorem dX5_leastHeap_110 : decode cX5_leastHeap 110 = .ok (.invokevirtual 83, 3) := by decide +kernel
theorem dX5_leastHeap_113 : decode cX5_leastHeap 113 = .ok (.isub, 1) := by decide +kernel
theorem dX5_leastHeap_114 : decode cX5_leastHeap 114 = .ok (.iaload, 1) := by decide +kernel
theorem dX5_leastHeap_115 : decode cX5_leastHeap 115 = .ok (.iadd, 1) := by decide +kernel
theorem dX5_leastHeap_116 : decode cX5_leastHeap 116 = .ok (.iload 4, 2) := by decide +kernel
theorem dX5_leastHeap_118 : decode cX5_leastHeap 118 = .ok (.if_icmp .ne 47, 3) := by decide +kernel
theorem dX5_leastHeap_121 : decode cX5_leastHeap 121 = .ok (.aload_n 0, 1) := by decide +kernel
theorem dX5_leastHeap_122 : decode cX5_leastHeap 122 = .ok (.getfield 26, 3) := by decide +kernel
theorem dX5_leastHeap_125 : decode cX5_leastHeap 125 = .ok (.aload 6, 2) := by decide +kernel
theorem dX5_leastHeap_127 : decode cX5_leastHeap 127 = .ok (.getfield 64, 3) := by decide +kernel
theorem dX5_leastHeap_130 : decode cX5_leastHeap 130 = .ok (.iload 7, 2) := by decide +kernel
theorem dX5_leastHeap_132 : decode cX5_leastHeap 132 = .ok (.iaload, 1) := by decide +kernel
theorem dX5_leastHeap_133 : decode cX5_leastHeap 133 = .ok (.aload_n 0, 1) := by decide +kernel
theorem dX5_leastHeap_134 : decode cX5_leastHeap 134 = .ok (.getfield 26, 3) := by decide +kernel
theorem dX5_leastHeap_137 : decode cX5_leastHeap 137 = .ok (.getfield 104, 3) := by decide +kernel
theorem dX5_leastHeap_140 : decode cX5_leastHeap 140 = .ok (.iload_n 2, 1) := by decide +kernel
theorem dX5_leastHeap_141 : decode cX5_leastHeap 141 = .ok (.invokevirtual 107, 3) := by decide +kernel
theorem dX5_leastHeap_144 : decode cX5_leastHeap 144 = .ok (.istore 8, 2) := by decide +kernel
theorem dX5_leastHeap_146 : decode cX5_leastHeap 146 = .ok (.iload 8, 2) := by decide +kernel
theorem dX5_leastHeap_148 : decode cX5_leastHeap 148 = .ok (.ifCond .ge 8, 3) := by decide +kernel
theorem dX5_leastHeap_151 : decode cX5_leastHeap 151 = .ok (.iload 5, 2) := by decide +kernel
theorem dX5_leastHeap_153 : decode cX5_leastHeap 153 = .ok (.goto 10, 3) := by decide +kernel
theorem dX5_leastHeap_156 : decode cX5_leastHeap 156 = .ok (.iload 5, 2) := by decide +kernel
theorem dX5_leastHeap_158 : decode cX5_leastHeap 158 = .ok (.iload 8, 2) := by decide +kernel
theorem dX5_leastHeap_160 : decode cX5_leastHeap 160 = .ok (.invokestatic 111, 3) := by decide +kernel
theorem dX5_leastHeap_163 : decode cX5_leastHeap 163 = .ok (.istore 5, 2) := by decide +kernel
theorem dX5_leastHeap_165 : decode cX5_leastHeap 165 = .ok (.iinc 7 1, 3) := by decide +kernel
theorem dX5_leastHeap_168 : decode cX5_leastHeap 168 = .ok (.goto (-124), 3) := by decide +kernel
theorem dX5_leastHeap_171 : decode cX5_leastHeap 171 = .ok (.iload 5, 2) := by decide +kernel
theorem dX5_leastHeap_173 : decode cX5_leastHeap 173 = .ok (.ireturn, 1) := by decide +kernel
theorem dX6_init_0 : decode cX6_init 0 = .ok (.aload_n 0, 1) := by decide +kernel
theorem dX6_init_1 : decode cX6_init 1 = .ok (.invokespecial 3, 3) := by decide +kernel
theorem dX6_init_4 : decode cX6_init 4 = .ok (.aload_n 0, 1) := by decide +kernel
theorem dX6_init_5 : decode cX6_init 5 = .ok (.bipush 8, 2) := by decide +kernel
theorem dX6_init_7 : decode cX6_init 7 = .ok (.newarray .int, 2) := by decide +kernel
theorem dX6_init_9 : decode cX6_init 9 = .ok (.putfield 9, 3) := by decide +kernel
theorem dX6_init_12 : decode cX6_init 12 = .ok (.aload_n 0, 1) := by decide +kernel
theorem dX6_init_13 : decode cX6_init 13 = .ok (.bipush 8, 2) := by decide +kernel
theorem dX6_init_15 : decode cX6_init 15 = .ok (.newarray .int, 2) := by decide +kernel
theorem dX6_init_17 : decode cX6_init 17 = .ok (.putfield 15, 3) := by decide +kernel
theorem dX6_init_20 : decode cX6_init 20 = .ok (.aload_n 0, 1) := by decide +kernel
theorem dX6_init_21 : decode cX6_init 21 = .ok (.bipush 8, 2) := by decide +kernel
theorem dX6_init_23 : decode cX6_init 23 = .ok (.newarray .int, 2) := by decide +kernel
theorem dX6_init_25 : decode cX6_init 25 = .ok (.putfield 18, 3) := by decide +kernel
theorem dX6_init_28 : decode cX6_init 28 = .ok (.aload_n 0, 1) := by decide +kernel
theorem dX6_init_29 : decode cX6_init 29 = .ok (.bipush 8, 2) := by decide +kernel
theorem dX6_init_31 : decode cX6_init 31 = .ok (.newarray .int, 2) := by decide +kernel
theorem dX6_init_33 : decode cX6_init 33 = .ok (.putfield 21, 3) := by decide +kernel
theorem dX6_init_36 : decode cX6_init 36 = .ok (.aload_n 0, 1) := by decide +kernel
theorem dX6_init_37 : decode cX6_init 37 = .ok (.bipush 8, 2) := by decide +kernel
theorem dX6_init_39 : decode cX6_init 39 = .ok (.newarray .int, 2) := by decide +kernel
theorem dX6_init_41 : decode cX6_init 41 = .ok (.putfield 24, 3) := by decide +kernel
theorem dX6_init_44 : decode cX6_init 44 = .ok (.aload_n 0, 1) := by decide +kernel
theorem dX6_init_45 : decode cX6_init 45 = .ok (.bipush 6, 2) := by decide +kernel
theorem dX6_init_47 : decode cX6_init 47 = .ok (.anewarray 27, 3) := by decide +kernel
theorem dX6_init_50 : decode cX6_init 50 = .ok (.putfield 29, 3) := by decide +kernel
theorem dX6_init_53 : decode cX6_init 53 = .ok (.aload_n 0, 1) := by decide +kernel
theorem dX6_init_54 : decode cX6_init 54 = .ok (.bipush 100, 2) := by decide +kernel
theorem dX6_init_56 : decode cX6_init 56 = .ok (.putfield 33, 3) := by decide +kernel
theorem dX6_init_59 : decode cX6_init 59 = .ok (.iconst 0, 1) := by decide +kernel
theorem dX6_init_60 : decode cX6_init 60 = .ok (.istore_n 1, 1) := by decide +kernel
theorem dX6_init_61 : decode cX6_init 61 = .ok (.iload_n 1, 1) := by decide +kernel
theorem dX6_init_62 : decode cX6_init 62 = .ok (.bipush 6, 2) := by decide +kernel
theorem dX6_init_64 : decode cX6_init 64 = .ok (.if_icmp .ge 22, 3) := by decide +kernel
theorem dX6_init_67 : decode cX6_init 67 = .ok (.aload_n 0, 1) := by decide +kernel
theorem dX6_init_68 : decode cX6_init 68 = .ok (.getfield 29, 3) := by decide +kernel
theorem dX6_init_71 : decode cX6_init 71 = .ok (.iload_n 1, 1) := by decide +kernel
theorem dX6_init_72 : decode cX6_init 72 = .ok (.new 27, 3) := by decide +kernel
theorem dX6_init_75 : decode cX6_init 75 = .ok (.dup, 1) := by decide +kernel
theorem dX6_init_76 : decode cX6_init 76 = .ok (.invokespecial 37, 3) := by decide +kernel
theorem dX6_init_79 : decode cX6_init 79 = .ok (.aastore, 1) := by decide +kernel
theorem dX6_init_80 : decode cX6_init 80 = .ok (.iinc 1 1, 3) := by decide +kernel
theorem dX6_init_83 : decode cX6_init 83 = .ok (.goto (-22), 3) := by decide +kernel
theorem dX6_init_86 : decode cX6_init 86 = .ok (.return_, 1) := by decide +kernel
theorem dX6_hasLot_0 : decode cX6_hasLot 0 = .ok (.iload_n 1, 1) := by decide +kernel
theorem dX6_hasLot_1 : decode cX6_hasLot 1 = .ok (.ifCond .lt 15, 3) := by decide +kernel
theorem dX6_hasLot_4 : decode cX6_hasLot 4 = .ok (.iload_n 1, 1) := by decide +kernel
theorem dX6_hasLot_5 : decode cX6_hasLot 5 = .ok (.aload_n 0, 1) := by decide +kernel
theorem dX6_hasLot_6 : decode cX6_hasLot 6 = .ok (.getfield 38, 3) := by decide +kernel
theorem dX6_hasLot_9 : decode cX6_hasLot 9 = .ok (.if_icmp .ge 7, 3) := by decide +kernel
theorem dX6_hasLot_12 : decode cX6_hasLot 12 = .ok (.iconst 1, 1) := by decide +kernel
theorem dX6_hasLot_13 : decode cX6_hasLot 13 = .ok (.goto 4, 3) := by decide +kernel
theorem dX6_hasLot_16 : decode cX6_hasLot 16 = .ok (.iconst 0, 1) := by decide +kernel
theorem dX6_hasLot_17 : decode cX6_hasLot 17 = .ok (.ireturn, 1) := by decide +kernel
theorem dX6_hasBuyer_0 : decode cX6_hasBuyer 0 = .ok (.iload_n 1, 1) := by decide +kernel
theorem dX6_hasBuyer_1 : decode cX6_hasBuyer 1 = .ok (.ifCond .lt 15, 3) := by decide +kernel
theorem dX6_hasBuyer_4 : decode cX6_hasBuyer 4 = .ok (.iload_n 1, 1) := by decide +kernel
theorem dX6_hasBuyer_5 : decode cX6_hasBuyer 5 = .ok (.aload_n 0, 1) := by decide +kernel
theorem dX6_hasBuyer_6 : decode cX6_hasBuyer 6 = .ok (.getfield 41, 3) := by decide +kernel
theorem dX6_hasBuyer_9 : decode cX6_hasBuyer 9 = .ok (.if_icmp .ge 7, 3) := by decide +kernel
theorem dX6_hasBuyer_12 : decode cX6_hasBuyer 12 = .ok (.iconst 1, 1) := by decide +kernel
theorem dX6_hasBuyer_13 : decode cX6_hasBuyer 13 = .ok (.goto 4, 3) := by decide +kernel
theorem dX6_hasBuyer_16 : decode cX6_hasBuyer 16 = .ok (.iconst 0, 1) := by decide +kernel
theorem dX6_hasBuyer_17 : decode cX6_hasBuyer 17 = .ok (.ireturn, 1) := by decide +kernel
theorem dX6_addLot_0 : decode cX6_addLot 0 = .ok (.aload_n 0, 1) := by decide +kernel
theorem dX6_addLot_1 : decode cX6_addLot 1 = .ok (.getfield 9, 3) := by decide +kernel
theorem dX6_addLot_4 : decode cX6_addLot 4 = .ok (.aload_n 0, 1) := by decide +kernel
theorem dX6_addLot_5 : decode cX6_addLot 5 = .ok (.getfield 38, 3) := by decide +kernel
theorem dX6_addLot_8 : decode cX6_addLot 8 = .ok (.iload_n 1, 1) := by decide +kernel
theorem dX6_addLot_9 : decode cX6_addLot 9 = .ok (.invokestatic 44, 3) := by decide +kernel
theorem dX6_addLot_12 : decode cX6_addLot 12 = .ok (.iastore, 1) := by decide +kernel
theorem dX6_addLot_13 : decode cX6_addLot 13 = .ok (.aload_n 0, 1) := by decide +kernel
theorem dX6_addLot_14 : decode cX6_addLot 14 = .ok (.getfield 15, 3) := by decide +kernel
theorem dX6_addLot_17 : decode cX6_addLot 17 = .ok (.aload_n 0, 1) := by decide +kernel
theorem dX6_addLot_18 : decode cX6_addLot 18 = .ok (.getfield 38, 3) := by decide +kernel
theorem dX6_addLot_21 : decode cX6_addLot 21 = .ok (.iload_n 2, 1) := by decide +kernel
theorem dX6_addLot_22 : decode cX6_addLot 22 = .ok (.iastore, 1) := by decide +kernel
theorem dX6_addLot_23 : decode cX6_addLot 23 = .ok (.aload_n 0, 1) := by decide +kernel
theorem dX6_addLot_24 : decode cX6_addLot 24 = .ok (.getfield 18, 3) := by decide +kernel
theorem dX6_addLot_27 : decode cX6_addLot 27 = .ok (.aload_n 0, 1) := by decide +kernel
theorem dX6_addLot_28 : decode cX6_addLot 28 = .ok (.getfield 38, 3) := by decide +kernel
theorem dX6_addLot_31 : decode cX6_addLot 31 = .ok (.iload_n 3, 1) := by decide +kernel
theorem dX6_addLot_32 : decode cX6_addLot 32 = .ok (.iastore, 1) := by decide +kernel
theorem dX6_addLot_33 : decode cX6_addLot 33 = .ok (.aload_n 0, 1) := by decide +kernel
theorem dX6_addLot_34 : decode cX6_addLot 34 = .ok (.getfield 21, 3) := by decide +kernel
theorem dX6_addLot_37 : decode cX6_addLot 37 = .ok (.aload_n 0, 1) := by decide +kernel
theorem dX6_addLot_38 : decode cX6_addLot 38 = .ok (.getfield 38, 3) := by decide +kernel
theorem dX6_addLot_41 : decode cX6_addLot 41 = .ok (.aload_n 0, 1) := by decide +kernel
theorem dX6_addLot_42 : decode cX6_addLot 42 = .ok (.getfield 38, 3) := by decide +kernel
theorem dX6_addLot_45 : decode cX6_addLot 45 = .ok (.iastore, 1) := by decide +kernel
theorem dX6_addLot_46 : decode cX6_addLot 46 = .ok (.aload_n 0, 1) := by decide +kernel
theorem dX6_addLot_47 : decode cX6_addLot 47 = .ok (.getfield 24, 3) := by decide +kernel
theorem dX6_addLot_50 : decode cX6_addLot 50 = .ok (.aload_n 0, 1) := by decide +kernel
theorem dX6_addLot_51 : decode cX6_addLot 51 = .ok (.getfield 38, 3) := by decide +kernel
theorem dX6_addLot_54 : decode cX6_addLot 54 = .ok (.aload_n 0, 1) := by decide +kernel
theorem dX6_addLot_55 : decode cX6_addLot 55 = .ok (.getfield 38, 3) := by decide +kernel
theorem dX6_addLot_58 : decode cX6_addLot 58 = .ok (.iastore, 1) := by decide +kernel
theorem dX6_addLot_59 : decode cX6_addLot 59 = .ok (.aload_n 0, 1) := by decide +kernel
theorem dX6_addLot_60 : decode cX6_addLot 60 = .ok (.dup, 1) := by decide +kernel
theorem dX6_addLot_61 : decode cX6_addLot 61 = .ok (.getfield 38, 3) := by decide +kernel
theorem dX6_addLot_64 : decode cX6_addLot 64 = .ok (.iconst 1, 1) := by decide +kernel
theorem dX6_addLot_65 : decode cX6_addLot 65 = .ok (.iadd, 1) := by decide +kernel
theorem dX6_addLot_66 : decode cX6_addLot 66 = .ok (.putfield 38, 3) := by decide +kernel
theorem dX6_addLot_69 : decode cX6_addLot 69 = .ok (.aload_n 0, 1) := by decide +kernel
theorem dX6_addLot_70 : decode cX6_addLot 70 = .ok (.getfield 38, 3) := by decide +kernel
theorem dX6_addLot_73 : decode cX6_addLot 73 = .ok (.iconst 1, 1) := by decide +kernel
theorem dX6_addLot_74 : decode cX6_addLot 74 = .ok (.isub, 1) := by decide +kernel
theorem dX6_addLot_75 : decode cX6_addLot 75 = .ok (.ireturn, 1) := by decide +kernel
theorem dX6_changePlaces_0 : decode cX6_changePlaces 0 = .ok (.iconst 0, 1) := by decide +kernel
theorem dX6_changePlaces_1 : decode cX6_changePlaces 1 = .ok (.istore_n 3, 1) := by decide +kernel
theorem dX6_changePlaces_2 : decode cX6_changePlaces 2 = .ok (.iload_n 3, 1) := by decide +kernel
theorem dX6_changePlaces_3 : decode cX6_changePlaces 3 = .ok (.aload_n 0, 1) := by decide +kernel
theorem dX6_changePlaces_4 : decode cX6_changePlaces 4 = .ok (.getfield 38, 3) := by decide +kernel
theorem dX6_changePlaces_7 : decode cX6_changePlaces 7 = .ok (.if_icmp .ge 46, 3) := by decide +kernel
theorem dX6_changePlaces_10 : decode cX6_changePlaces 10 = .ok (.aload_n 0, 1) := by decide +kernel
theorem dX6_changePlaces_11 : decode cX6_changePlaces 11 = .ok (.getfield 21, 3) := by decide +kernel
theorem dX6_changePlaces_14 : decode cX6_changePlaces 14 = .ok (.iload_n 3, 1) := by decide +kernel
theorem dX6_changePlaces_15 : decode cX6_changePlaces 15 = .ok (.iaload, 1) := by decide +kernel
theorem dX6_changePlaces_16 : decode cX6_changePlaces 16 = .ok (.iload_n 1, 1) := by decide +kernel
theorem dX6_changePlaces_17 : decode cX6_changePlaces 17 = .ok (.if_icmp .ne 13, 3) := by decide +kernel
theorem dX6_changePlaces_20 : decode cX6_changePlaces 20 = .ok (.aload_n 0, 1) := by decide +kernel
theorem dX6_changePlaces_21 : decode cX6_changePlaces 21 = .ok (.getfield 21, 3) := by decide +kernel
theorem dX6_changePlaces_24 : decode cX6_changePlaces 24 = .ok (.iload_n 3, 1) := by decide +kernel
theorem dX6_changePlaces_25 : decode cX6_changePlaces 25 = .ok (.iload_n 2, 1) := by decide +kernel
theorem dX6_changePlaces_26 : decode cX6_changePlaces 26 = .ok (.iastore, 1) := by decide +kernel
theorem dX6_changePlaces_27 : decode cX6_changePlaces 27 = .ok (.goto 20, 3) := by decide +kernel
theorem dX6_changePlaces_30 : decode cX6_changePlaces 30 = .ok (.aload_n 0, 1) := by decide +kernel
theorem dX6_changePlaces_31 : decode cX6_changePlaces 31 = .ok (.getfield 21, 3) := by decide +kernel
theorem dX6_changePlaces_34 : decode cX6_changePlaces 34 = .ok (.iload_n 3, 1) := by decide +kernel
theorem dX6_changePlaces_35 : decode cX6_changePlaces 35 = .ok (.iaload, 1) := by decide +kernel
theorem dX6_changePlaces_36 : decode cX6_changePlaces 36 = .ok (.iload_n 2, 1) := by decide +kernel
theorem dX6_changePlaces_37 : decode cX6_changePlaces 37 = .ok (.if_icmp .ne 10, 3) := by decide +kernel
theorem dX6_changePlaces_40 : decode cX6_changePlaces 40 = .ok (.aload_n 0, 1) := by decide +kernel
theorem dX6_changePlaces_41 : decode cX6_changePlaces 41 = .ok (.getfield 21, 3) := by decide +kernel
theorem dX6_changePlaces_44 : decode cX6_changePlaces 44 = .ok (.iload_n 3, 1) := by decide +kernel
theorem dX6_changePlaces_45 : decode cX6_changePlaces 45 = .ok (.iload_n 1, 1) := by decide +kernel
theorem dX6_changePlaces_46 : decode cX6_changePlaces 46 = .ok (.iastore, 1) := by decide +kernel
theorem dX6_changePlaces_47 : decode cX6_changePlaces 47 = .ok (.iinc 3 1, 3) := by decide +kernel
theorem dX6_changePlaces_50 : decode cX6_changePlaces 50 = .ok (.goto (-48), 3) := by decide +kernel
theorem dX6_changePlaces_53 : decode cX6_changePlaces 53 = .ok (.return_, 1) := by decide +kernel
theorem dX6_allLots_0 : decode cX6_allLots 0 = .ok (.iconst 1, 1) := by decide +kernel
theorem dX6_allLots_1 : decode cX6_allLots 1 = .ok (.aload_n 0, 1) := by decide +kernel
theorem dX6_allLots_2 : decode cX6_allLots 2 = .ok (.getfield 38, 3) := by decide +kernel
theorem dX6_allLots_5 : decode cX6_allLots 5 = .ok (.ishl, 1) := by decide +kernel
theorem dX6_allLots_6 : decode cX6_allLots 6 = .ok (.iconst 1, 1) := by decide +kernel
theorem dX6_allLots_7 : decode cX6_allLots 7 = .ok (.isub, 1) := by decide +kernel
theorem dX6_allLots_8 : decode cX6_allLots 8 = .ok (.ireturn, 1) := by decide +kernel
theorem dX6_countsOf_0 : decode cX6_countsOf 0 = .ok (.iconst 0, 1) := by decide +kernel
theorem dX6_countsOf_1 : decode cX6_countsOf 1 = .ok (.istore_n 2, 1) := by decide +kernel
theorem dX6_countsOf_2 : decode cX6_countsOf 2 = .ok (.iconst 0, 1) := by decide +kernel
theorem dX6_countsOf_3 : decode cX6_countsOf 3 = .ok (.istore_n 3, 1) := by decide +kernel
theorem dX6_countsOf_4 : decode cX6_countsOf 4 = .ok (.iload_n 3, 1) := by decide +kernel
theorem dX6_countsOf_5 : decode cX6_countsOf 5 = .ok (.aload_n 0, 1) := by decide +kernel
theorem dX6_countsOf_6 : decode cX6_countsOf 6 = .ok (.getfield 38, 3) := by decide +kernel
theorem dX6_countsOf_9 : decode cX6_countsOf 9 = .ok (.if_icmp .ge 26, 3) := by decide +kernel
theorem dX6_countsOf_12 : decode cX6_countsOf 12 = .ok (.iload_n 1, 1) := by decide +kernel
theorem dX6_countsOf_13 : decode cX6_countsOf 13 = .ok (.iload_n 3, 1) := by decide +kernel
theorem dX6_countsOf_14 : decode cX6_countsOf 14 = .ok (.ishr, 1) := by decide +kernel
theorem dX6_countsOf_15 : decode cX6_countsOf 15 = .ok (.iconst 1, 1) := by decide +kernel
theorem dX6_countsOf_16 : decode cX6_countsOf 16 = .ok (.iand, 1) := by decide +kernel
theorem dX6_countsOf_17 : decode cX6_countsOf 17 = .ok (.ifCond .eq 12, 3) := by decide +kernel
theorem dX6_countsOf_20 : decode cX6_countsOf 20 = .ok (.iload_n 2, 1) := by decide +kernel
theorem dX6_countsOf_21 : decode cX6_countsOf 21 = .ok (.aload_n 0, 1) := by decide +kernel
theorem dX6_countsOf_22 : decode cX6_countsOf 22 = .ok (.getfield 9, 3) := by decide +kernel
theorem dX6_countsOf_25 : decode cX6_countsOf 25 = .ok (.iload_n 3, 1) := by decide +kernel
theorem dX6_countsOf_26 : decode cX6_countsOf 26 = .ok (.iaload, 1) := by decide +kernel
theorem dX6_countsOf_27 : decode cX6_countsOf 27 = .ok (.iadd, 1) := by decide +kernel
theorem dX6_countsOf_28 : decode cX6_countsOf 28 = .ok (.istore_n 2, 1) := by decide +kernel
theorem dX6_countsOf_29 : decode cX6_countsOf 29 = .ok (.iinc 3 1, 3) := by decide +kernel
theorem dX6_countsOf_32 : decode cX6_countsOf 32 = .ok (.goto (-28), 3) := by decide +kernel
theorem dX6_countsOf_35 : decode cX6_countsOf 35 = .ok (.iload_n 2, 1) := by decide +kernel
theorem dX6_countsOf_36 : decode cX6_countsOf 36 = .ok (.ireturn, 1) := by decide +kernel
theorem dX6_alternatives_0 : decode cX6_alternatives 0 = .ok (.iconst 0, 1) := by decide +kernel
theorem dX6_alternatives_1 : decode cX6_alternatives 1 = .ok (.istore_n 1, 1) := by decide +kernel
theorem dX6_alternatives_2 : decode cX6_alternatives 2 = .ok (.iconst 0, 1) := by decide +kernel
theorem dX6_alternatives_3 : decode cX6_alternatives 3 = .ok (.istore_n 2, 1) := by decide +kernel
theorem dX6_alternatives_4 : decode cX6_alternatives 4 = .ok (.iload_n 2, 1) := by decide +kernel
theorem dX6_alternatives_5 : decode cX6_alternatives 5 = .ok (.aload_n 0, 1) := by decide +kernel
theorem dX6_alternatives_6 : decode cX6_alternatives 6 = .ok (.getfield 41, 3) := by decide +kernel
theorem dX6_alternatives_9 : decode cX6_alternatives 9 = .ok (.if_icmp .ge 21, 3) := by decide +kernel
theorem dX6_alternatives_12 : decode cX6_alternatives 12 = .ok (.iload_n 1, 1) := by decide +kernel
theorem dX6_alternatives_13 : decode cX6_alternatives 13 = .ok (.aload_n 0, 1) := by decide +kernel
theorem dX6_alternatives_14 : decode cX6_alternatives 14 = .ok (.getfield 29, 3) := by decide +kernel
theorem dX6_alternatives_17 : decode cX6_alternatives 17 = .ok (.iload_n 2, 1) := by decide +kernel
theorem dX6_alternatives_18 : decode cX6_alternatives 18 = .ok (.aaload, 1) := by decide +kernel
theorem dX6_alternatives_19 : decode cX6_alternatives 19 = .ok (.getfield 50, 3) := by decide +kernel
theorem dX6_alternatives_22 : decode cX6_alternatives 22 = .ok (.iadd, 1) := by decide +kernel
theorem dX6_alternatives_23 : decode cX6_alternatives 23 = .ok (.istore_n 1, 1) := by decide +kernel
theorem dX6_alternatives_24 : decode cX6_alternatives 24 = .ok (.iinc 2 1, 3) := by decide +kernel
theorem dX6_alternatives_27 : decode cX6_alternatives 27 = .ok (.goto (-23), 3) := by decide +kernel
theorem dX6_alternatives_30 : decode cX6_alternatives 30 = .ok (.iload_n 1, 1) := by decide +kernel
theorem dX6_alternatives_31 : decode cX6_alternatives 31 = .ok (.ireturn, 1) := by decide +kernel
theorem dX6_pick_0 : decode cX6_pick 0 = .ok (.iconst 0, 1) := by decide +kernel
theorem dX6_pick_1 : decode cX6_pick 1 = .ok (.istore 4, 2) := by decide +kernel
theorem dX6_pick_3 : decode cX6_pick 3 = .ok (.iload_n 1, 1) := by decide +kernel
theorem dX6_pick_4 : decode cX6_pick 4 = .ok (.istore 5, 2) := by decide +kernel
theorem dX6_pick_6 : decode cX6_pick 6 = .ok (.iconst 0, 1) := by decide +kernel
theorem dX6_pick_7 : decode cX6_pick 7 = .ok (.istore 6, 2) := by decide +kernel
theorem dX6_pick_9 : decode cX6_pick 9 = .ok (.iload 6, 2) := by decide +kernel
theorem dX6_pick_11 : decode cX6_pick 11 = .ok (.aload_n 0, 1) := by decide +kernel
theorem dX6_pick_12 : decode cX6_pick 12 = .ok (.getfield 38, 3) := by decide +kernel
theorem dX6_pick_15 : decode cX6_pick 15 = .ok (.if_icmp .ge 66, 3) := by decide +kernel
theorem dX6_pick_18 : decode cX6_pick 18 = .ok (.iload 5, 2) := by decide +kernel
theorem dX6_pick_20 : decode cX6_pick 20 = .ok (.ifCond .eq 61, 3) := by decide +kernel
theorem dX6_pick_23 : decode cX6_pick 23 = .ok (.aload_n 2, 1) := by decide +kernel
theorem dX6_pick_24 : decode cX6_pick 24 = .ok (.iload 6, 2) := by decide +kernel
theorem dX6_pick_26 : decode cX6_pick 26 = .ok (.iaload, 1) := by decide +kernel
theorem dX6_pick_27 : decode cX6_pick 27 = .ok (.istore 7, 2) := by decide +kernel
theorem dX6_pick_29 : decode cX6_pick 29 = .ok (.iload_n 3, 1) := by decide +kernel
theorem dX6_pick_30 : decode cX6_pick 30 = .ok (.iload 7, 2) := by decide +kernel
theorem dX6_pick_32 : decode cX6_pick 32 = .ok (.ishr, 1) := by decide +kernel
theorem dX6_pick_33 : decode cX6_pick 33 = .ok (.iconst 1, 1) := by decide +kernel
theorem dX6_pick_34 : decode cX6_pick 34 = .ok (.iand, 1) := by decide +kernel
theorem dX6_pick_35 : decode cX6_pick 35 = .ok (.ifCond .eq 40, 3) := by decide +kernel
theorem dX6_pick_38 : decode cX6_pick 38 = .ok (.iload 5, 2) := by decide +kernel
theorem dX6_pick_40 : decode cX6_pick 40 = .ok (.bipush 15, 2) := by decide +kernel
theorem dX6_pick_42 : decode cX6_pick 42 = .ok (.aload_n 0, 1) := by decide +kernel
theorem dX6_pick_43 : decode cX6_pick 43 = .ok (.getfield 9, 3) := by decide +kernel
theorem dX6_pick_46 : decode cX6_pick 46 = .ok (.iload 7, 2) := by decide +kernel
theorem dX6_pick_48 : decode cX6_pick 48 = .ok (.iaload, 1) := by decide +kernel
theorem dX6_pick_49 : decode cX6_pick 49 = .ok (.imul, 1) := by decide +kernel
theorem dX6_pick_50 : decode cX6_pick 50 = .ok (.iand, 1) := by decide +kernel
theorem dX6_pick_51 : decode cX6_pick 51 = .ok (.ifCond .eq 24, 3) := by decide +kernel
theorem dX6_pick_54 : decode cX6_pick 54 = .ok (.iload 5, 2) := by decide +kernel
theorem dX6_pick_56 : decode cX6_pick 56 = .ok (.aload_n 0, 1) := by decide +kernel
theorem dX6_pick_57 : decode cX6_pick 57 = .ok (.getfield 9, 3) := by decide +kernel
theorem dX6_pick_60 : decode cX6_pick 60 = .ok (.iload 7, 2) := by decide +kernel
theorem dX6_pick_62 : decode cX6_pick 62 = .ok (.iaload, 1) := by decide +kernel
theorem dX6_pick_63 : decode cX6_pick 63 = .ok (.isub, 1) := by decide +kernel
theorem dX6_pick_64 : decode cX6_pick 64 = .ok (.istore 5, 2) := by decide +kernel
theorem dX6_pick_66 : decode cX6_pick 66 = .ok (.iload 4, 2) := by decide +kernel
theorem dX6_pick_68 : decode cX6_pick 68 = .ok (.iconst 1, 1) := by decide +kernel
theorem dX6_pick_69 : decode cX6_pick 69 = .ok (.iload 7, 2) := by decide +kernel
theorem dX6_pick_71 : decode cX6_pick 71 = .ok (.ishl, 1) := by decide +kernel
theorem dX6_pick_72 : decode cX6_pick 72 = .ok (.ior, 1) := by decide +kernel
theorem dX6_pick_73 : decode cX6_pick 73 = .ok (.istore 4, 2) := by decide +kernel
theorem dX6_pick_75 : decode cX6_pick 75 = .ok (.iinc 6 1, 3) := by decide +kernel
theorem dX6_pick_78 : decode cX6_pick 78 = .ok (.goto (-69), 3) := by decide +kernel
theorem dX6_pick_81 : decode cX6_pick 81 = .ok (.iload 5, 2) := by decide +kernel
theorem dX6_pick_83 : decode cX6_pick 83 = .ok (.ifCond .ne 8, 3) := by decide +kernel
theorem dX6_pick_86 : decode cX6_pick 86 = .ok (.iload 4, 2) := by decide +kernel
theorem dX6_pick_88 : decode cX6_pick 88 = .ok (.goto 5, 3) := by decide +kernel
theorem dX6_pick_91 : decode cX6_pick 91 = .ok (.bipush (-6), 2) := by decide +kernel
theorem dX6_pick_93 : decode cX6_pick 93 = .ok (.ireturn, 1) := by decide +kernel
theorem dX7_init_0 : decode cX7_init 0 = .ok (.aload_n 0, 1) := by decide +kernel
theorem dX7_init_1 : decode cX7_init 1 = .ok (.invokespecial 3, 3) := by decide +kernel
theorem dX7_init_4 : decode cX7_init 4 = .ok (.aload_n 0, 1) := by decide +kernel
theorem dX7_init_5 : decode cX7_init 5 = .ok (.bipush 8, 2) := by decide +kernel
theorem dX7_init_7 : decode cX7_init 7 = .ok (.newarray .int, 2) := by decide +kernel
theorem dX7_init_9 : decode cX7_init 9 = .ok (.putfield 9, 3) := by decide +kernel
theorem dX7_init_12 : decode cX7_init 12 = .ok (.aload_n 0, 1) := by decide +kernel
theorem dX7_init_13 : decode cX7_init 13 = .ok (.bipush 8, 2) := by decide +kernel
theorem dX7_init_15 : decode cX7_init 15 = .ok (.newarray .int, 2) := by decide +kernel
theorem dX7_init_17 : decode cX7_init 17 = .ok (.putfield 15, 3) := by decide +kernel
theorem dX7_init_20 : decode cX7_init 20 = .ok (.aload_n 0, 1) := by decide +kernel
theorem dX7_init_21 : decode cX7_init 21 = .ok (.iconst 3, 1) := by decide +kernel
theorem dX7_init_22 : decode cX7_init 22 = .ok (.newarray .int, 2) := by decide +kernel
theorem dX7_init_24 : decode cX7_init 24 = .ok (.putfield 18, 3) := by decide +kernel
theorem dX7_init_27 : decode cX7_init 27 = .ok (.aload_n 0, 1) := by decide +kernel
theorem dX7_init_28 : decode cX7_init 28 = .ok (.aload_n 1, 1) := by decide +kernel
theorem dX7_init_29 : decode cX7_init 29 = .ok (.putfield 21, 3) := by decide +kernel
theorem dX7_init_32 : decode cX7_init 32 = .ok (.return_, 1) := by decide +kernel
theorem dX7_follow_0 : decode cX7_follow 0 = .ok (.aload_n 0, 1) := by decide +kernel
theorem dX7_follow_1 : decode cX7_follow 1 = .ok (.iconst 0, 1) := by decide +kernel
theorem dX7_follow_2 : decode cX7_follow 2 = .ok (.putfield 25, 3) := by decide +kernel
theorem dX7_follow_5 : decode cX7_follow 5 = .ok (.iconst 0, 1) := by decide +kernel
theorem dX7_follow_6 : decode cX7_follow 6 = .ok (.istore_n 3, 1) := by decide +kernel
theorem dX7_follow_7 : decode cX7_follow 7 = .ok (.iload_n 3, 1) := by decide +kernel
theorem dX7_follow_8 : decode cX7_follow 8 = .ok (.iconst 3, 1) := by decide +kernel
theorem dX7_follow_9 : decode cX7_follow 9 = .ok (.if_icmp .ge 16, 3) := by decide +kernel
theorem dX7_follow_12 : decode cX7_follow 12 = .ok (.aload_n 0, 1) := by decide +kernel
theorem dX7_follow_13 : decode cX7_follow 13 = .ok (.getfield 18, 3) := by decide +kernel
theorem dX7_follow_16 : decode cX7_follow 16 = .ok (.iload_n 3, 1) := by decide +kernel
theorem dX7_follow_17 : decode cX7_follow 17 = .ok (.iconst 0, 1) := by decide +kernel
theorem dX7_follow_18 : decode cX7_follow 18 = .ok (.iastore, 1) := by decide +kernel
theorem dX7_follow_19 : decode cX7_follow 19 = .ok (.iinc 3 1, 3) := by decide +kernel
theorem dX7_follow_22 : decode cX7_follow 22 = .ok (.goto (-15), 3) := by decide +kernel
theorem dX7_follow_25 : decode cX7_follow 25 = .ok (.iconst 0, 1) := by decide +kernel
theorem dX7_follow_26 : decode cX7_follow 26 = .ok (.istore_n 3, 1) := by decide +kernel
theorem dX7_follow_27 : decode cX7_follow 27 = .ok (.iload_n 3, 1) := by decide +kernel
theorem dX7_follow_28 : decode cX7_follow 28 = .ok (.aload_n 0, 1) := by decide +kernel
theorem dX7_follow_29 : decode cX7_follow 29 = .ok (.getfield 29, 3) := by decide +kernel
theorem dX7_follow_32 : decode cX7_follow 32 = .ok (.if_icmp .ge 102, 3) := by decide +kernel
theorem dX7_follow_35 : decode cX7_follow 35 = .ok (.aload_n 0, 1) := by decide +kernel
theorem dX7_follow_36 : decode cX7_follow 36 = .ok (.invokevirtual 32, 3) := by decide +kernel
theorem dX7_follow_39 : decode cX7_follow 39 = .ok (.istore 4, 2) := by decide +kernel
theorem dX7_follow_41 : decode cX7_follow 41 = .ok (.aload_n 0, 1) := by decide +kernel
theorem dX7_follow_42 : decode cX7_follow 42 = .ok (.getfield 18, 3) := by decide +kernel
theorem dX7_follow_45 : decode cX7_follow 45 = .ok (.iload 4, 2) := by decide +kernel
theorem dX7_follow_47 : decode cX7_follow 47 = .ok (.iaload, 1) := by decide +kernel
theorem dX7_follow_48 : decode cX7_follow 48 = .ok (.istore 5, 2) := by decide +kernel
theorem dX7_follow_50 : decode cX7_follow 50 = .ok (.iconst 0, 1) := by decide +kernel
theorem dX7_follow_51 : decode cX7_follow 51 = .ok (.istore 6, 2) := by decide +kernel
theorem dX7_follow_53 : decode cX7_follow 53 = .ok (.iload 6, 2) := by decide +kernel
theorem dX7_follow_55 : decode cX7_follow 55 = .ok (.iconst 3, 1) := by decide +kernel
theorem dX7_follow_56 : decode cX7_follow 56 = .ok (.if_icmp .ge 40, 3) := by decide +kernel
theorem dX7_follow_59 : decode cX7_follow 59 = .ok (.aload_n 0, 1) := by decide +kernel
theorem dX7_follow_60 : decode cX7_follow 60 = .ok (.getfield 18, 3) := by decide +kernel
theorem dX7_follow_63 : decode cX7_follow 63 = .ok (.iload 6, 2) := by decide +kernel
theorem dX7_follow_65 : decode cX7_follow 65 = .ok (.dup2, 1) := by decide +kernel
theorem dX7_follow_66 : decode cX7_follow 66 = .ok (.iaload, 1) := by decide +kernel
theorem dX7_follow_67 : decode cX7_follow 67 = .ok (.aload_n 0, 1) := by decide +kernel
theorem dX7_follow_68 : decode cX7_follow 68 = .ok (.getfield 21, 3) := by decide +kernel
theorem dX7_follow_71 : decode cX7_follow 71 = .ok (.iload_n 1, 1) := by decide +kernel
theorem dX7_follow_72 : decode cX7_follow 72 = .ok (.iload_n 2, 1) := by decide +kernel
theorem dX7_follow_73 : decode cX7_follow 73 = .ok (.bipush 10, 2) := by decide +kernel
theorem dX7_follow_75 : decode cX7_follow 75 = .ok (.iload 6, 2) := by decide +kernel
theorem dX7_follow_77 : decode cX7_follow 77 = .ok (.imul, 1) := by decide +kernel
theorem dX7_follow_78 : decode cX7_follow 78 = .ok (.iadd, 1) := by decide +kernel
theorem dX7_follow_79 : decode cX7_follow 79 = .ok (.aload_n 0, 1) := by decide +kernel
theorem dX7_follow_80 : decode cX7_follow 80 = .ok (.getfield 9, 3) := by decide +kernel
theorem dX7_follow_83 : decode cX7_follow 83 = .ok (.iload_n 3, 1) := by decide +kernel
theorem dX7_follow_84 : decode cX7_follow 84 = .ok (.iaload, 1) := by decide +kernel
theorem dX7_follow_85 : decode cX7_follow 85 = .ok (.invokevirtual 36, 3) := by decide +kernel
theorem dX7_follow_88 : decode cX7_follow 88 = .ok (.iadd, 1) := by decide +kernel
theorem dX7_follow_89 : decode cX7_follow 89 = .ok (.iastore, 1) := by decide +kernel
theorem dX7_follow_90 : decode cX7_follow 90 = .ok (.iinc 6 1, 3) := by decide +kernel
theorem dX7_follow_93 : decode cX7_follow 93 = .ok (.goto (-40), 3) := by decide +kernel
theorem dX7_follow_96 : decode cX7_follow 96 = .ok (.aload_n 0, 1) := by decide +kernel
theorem dX7_follow_97 : decode cX7_follow 97 = .ok (.getfield 15, 3) := by decide +kernel
theorem dX7_follow_100 : decode cX7_follow 100 = .ok (.iload_n 3, 1) := by decide +kernel
theorem dX7_follow_101 : decode cX7_follow 101 = .ok (.iload_n 2, 1) := by decide +kernel
theorem dX7_follow_102 : decode cX7_follow 102 = .ok (.bipush 10, 2) := by decide +kernel
theorem dX7_follow_104 : decode cX7_follow 104 = .ok (.iload 4, 2) := by decide +kernel
theorem dX7_follow_106 : decode cX7_follow 106 = .ok (.imul, 1) := by decide +kernel
theorem dX7_follow_107 : decode cX7_follow 107 = .ok (.iadd, 1) := by decide +kernel
theorem dX7_follow_108 : decode cX7_follow 108 = .ok (.iastore, 1) := by decide +kernel
theorem dX7_follow_109 : decode cX7_follow 109 = .ok (.aload_n 0, 1) := by decide +kernel
theorem dX7_follow_110 : decode cX7_follow 110 = .ok (.dup, 1) := by decide +kernel
theorem dX7_follow_111 : decode cX7_follow 111 = .ok (.getfield 25, 3) := by decide +kernel
theorem dX7_follow_114 : decode cX7_follow 114 = .ok (.aload_n 0, 1) := by decide +kernel
theorem dX7_follow_115 : decode cX7_follow 115 = .ok (.getfield 18, 3) := by decide +kernel
theorem dX7_follow_118 : decode cX7_follow 118 = .ok (.iload 4, 2) := by decide +kernel
theorem dX7_follow_120 : decode cX7_follow 120 = .ok (.iaload, 1) := by decide +kernel
theorem dX7_follow_121 : decode cX7_follow 121 = .ok (.iload 5, 2) := by decide +kernel
theorem dX7_follow_123 : decode cX7_follow 123 = .ok (.isub, 1) := by decide +kernel
theorem dX7_follow_124 : decode cX7_follow 124 = .ok (.iadd, 1) := by decide +kernel
theorem dX7_follow_125 : decode cX7_follow 125 = .ok (.putfield 25, 3) := by decide +kernel
theorem dX7_follow_128 : decode cX7_follow 128 = .ok (.iinc 3 1, 3) := by decide +kernel
theorem dX7_follow_131 : decode cX7_follow 131 = .ok (.goto (-104), 3) := by decide +kernel
theorem dX7_follow_134 : decode cX7_follow 134 = .ok (.return_, 1) := by decide +kernel
theorem dX7_leader_0 : decode cX7_leader 0 = .ok (.iconst 0, 1) := by decide +kernel
theorem dX7_leader_1 : decode cX7_leader 1 = .ok (.istore_n 1, 1) := by decide +kernel
theorem dX7_leader_2 : decode cX7_leader 2 = .ok (.iconst 1, 1) := by decide +kernel
theorem dX7_leader_3 : decode cX7_leader 3 = .ok (.istore_n 2, 1) := by decide +kernel
theorem dX7_leader_4 : decode cX7_leader 4 = .ok (.iload_n 2, 1) := by decide +kernel
theorem dX7_leader_5 : decode cX7_leader 5 = .ok (.iconst 3, 1) := by decide +kernel
theorem dX7_leader_6 : decode cX7_leader 6 = .ok (.if_icmp .ge 26, 3) := by decide +kernel
theorem dX7_leader_9 : decode cX7_leader 9 = .ok (.aload_n 0, 1) := by decide +kernel
theorem dX7_leader_10 : decode cX7_leader 10 = .ok (.getfield 18, 3) := by decide +kernel
theorem dX7_leader_13 : decode cX7_leader 13 = .ok (.iload_n 2, 1) := by decide +kernel
theorem dX7_leader_14 : decode cX7_leader 14 = .ok (.iaload, 1) := by decide +kernel
theorem dX7_leader_15 : decode cX7_leader 15 = .ok (.aload_n 0, 1) := by decide +kernel
theorem dX7_leader_16 : decode cX7_leader 16 = .ok (.getfield 18, 3) := by decide +kernel
theorem dX7_leader_19 : decode cX7_leader 19 = .ok (.iload_n 1, 1) := by decide +kernel
theorem dX7_leader_20 : decode cX7_leader 20 = .ok (.iaload, 1) := by decide +kernel
theorem dX7_leader_21 : decode cX7_leader 21 = .ok (.if_icmp .le 5, 3) := by decide +kernel
theorem dX7_leader_24 : decode cX7_leader 24 = .ok (.iload_n 2, 1) := by decide +kernel
theorem dX7_leader_25 : decode cX7_leader 25 = .ok (.istore_n 1, 1) := by decide +kernel
theorem dX7_leader_26 : decode cX7_leader 26 = .ok (.iinc 2 1, 3) := by decide +kernel
theorem dX7_leader_29 : decode cX7_leader 29 = .ok (.goto (-25), 3) := by decide +kernel
theorem dX7_leader_32 : decode cX7_leader 32 = .ok (.iload_n 1, 1) := by decide +kernel
theorem dX7_leader_33 : decode cX7_leader 33 = .ok (.ireturn, 1) := by decide +kernel
theorem dX8_init_0 : decode cX8_init 0 = .ok (.aload_n 0, 1) := by decide +kernel
theorem dX8_init_1 : decode cX8_init 1 = .ok (.invokespecial 3, 3) := by decide +kernel
theorem dX8_init_4 : decode cX8_init 4 = .ok (.aload_n 0, 1) := by decide +kernel
theorem dX8_init_5 : decode cX8_init 5 = .ok (.bipush 8, 2) := by decide +kernel
theorem dX8_init_7 : decode cX8_init 7 = .ok (.newarray .int, 2) := by decide +kernel
theorem dX8_init_9 : decode cX8_init 9 = .ok (.putfield 9, 3) := by decide +kernel
theorem dX8_init_12 : decode cX8_init 12 = .ok (.aload_n 0, 1) := by decide +kernel
theorem dX8_init_13 : decode cX8_init 13 = .ok (.bipush 6, 2) := by decide +kernel
theorem dX8_init_15 : decode cX8_init 15 = .ok (.newarray .int, 2) := by decide +kernel
theorem dX8_init_17 : decode cX8_init 17 = .ok (.putfield 15, 3) := by decide +kernel
theorem dX8_init_20 : decode cX8_init 20 = .ok (.aload_n 0, 1) := by decide +kernel
theorem dX8_init_21 : decode cX8_init 21 = .ok (.bipush 6, 2) := by decide +kernel
theorem dX8_init_23 : decode cX8_init 23 = .ok (.newarray .int, 2) := by decide +kernel
theorem dX8_init_25 : decode cX8_init 25 = .ok (.putfield 18, 3) := by decide +kernel
theorem dX8_init_28 : decode cX8_init 28 = .ok (.aload_n 0, 1) := by decide +kernel
theorem dX8_init_29 : decode cX8_init 29 = .ok (.bipush 8, 2) := by decide +kernel
theorem dX8_init_31 : decode cX8_init 31 = .ok (.newarray .int, 2) := by decide +kernel
theorem dX8_init_33 : decode cX8_init 33 = .ok (.putfield 21, 3) := by decide +kernel
theorem dX8_init_36 : decode cX8_init 36 = .ok (.aload_n 0, 1) := by decide +kernel
theorem dX8_init_37 : decode cX8_init 37 = .ok (.aload_n 1, 1) := by decide +kernel
theorem dX8_init_38 : decode cX8_init 38 = .ok (.putfield 24, 3) := by decide +kernel
theorem dX8_init_41 : decode cX8_init 41 = .ok (.return_, 1) := by decide +kernel
theorem dX8_look_0 : decode cX8_look 0 = .ok (.aload_n 0, 1) := by decide +kernel
theorem dX8_look_1 : decode cX8_look 1 = .ok (.invokevirtual 28, 3) := by decide +kernel
theorem dX8_look_4 : decode cX8_look 4 = .ok (.iconst 0, 1) := by decide +kernel
theorem dX8_look_5 : decode cX8_look 5 = .ok (.istore_n 1, 1) := by decide +kernel
theorem dX8_look_6 : decode cX8_look 6 = .ok (.iload_n 1, 1) := by decide +kernel
theorem dX8_look_7 : decode cX8_look 7 = .ok (.aload_n 0, 1) := by decide +kernel
theorem dX8_look_8 : decode cX8_look 8 = .ok (.getfield 24, 3) := by decide +kernel
theorem dX8_look_11 : decode cX8_look 11 = .ok (.getfield 31, 3) := by decide +kernel
theorem dX8_look_14 : decode cX8_look 14 = .ok (.if_icmp .ge 23, 3) := by decide +kernel
theorem dX8_look_17 : decode cX8_look 17 = .ok (.aload_n 0, 1) := by decide +kernel
theorem dX8_look_18 : decode cX8_look 18 = .ok (.iload_n 1, 1) := by decide +kernel
theorem dX8_look_19 : decode cX8_look 19 = .ok (.aload_n 0, 1) := by decide +kernel
theorem dX8_look_20 : decode cX8_look 20 = .ok (.getfield 24, 3) := by decide +kernel
theorem dX8_look_23 : decode cX8_look 23 = .ok (.getfield 37, 3) := by decide +kernel
theorem dX8_look_26 : decode cX8_look 26 = .ok (.iload_n 1, 1) := by decide +kernel
theorem dX8_look_27 : decode cX8_look 27 = .ok (.aaload, 1) := by decide +kernel
theorem dX8_look_28 : decode cX8_look 28 = .ok (.invokevirtual 41, 3) := by decide +kernel
theorem dX8_look_31 : decode cX8_look 31 = .ok (.iinc 1 1, 3) := by decide +kernel
theorem dX8_look_34 : decode cX8_look 34 = .ok (.goto (-28), 3) := by decide +kernel
theorem dX8_look_37 : decode cX8_look 37 = .ok (.return_, 1) := by decide +kernel
theorem dX8_lack_0 : decode cX8_lack 0 = .ok (.iload_n 1, 1) := by decide +kernel
theorem dX8_lack_1 : decode cX8_lack 1 = .ok (.ineg, 1) := by decide +kernel
theorem dX8_lack_2 : decode cX8_lack 2 = .ok (.istore_n 2, 1) := by decide +kernel
theorem dX8_lack_3 : decode cX8_lack 3 = .ok (.iconst 0, 1) := by decide +kernel
theorem dX8_lack_4 : decode cX8_lack 4 = .ok (.istore_n 3, 1) := by decide +kernel
theorem dX8_lack_5 : decode cX8_lack 5 = .ok (.iload_n 3, 1) := by decide +kernel
theorem dX8_lack_6 : decode cX8_lack 6 = .ok (.aload_n 0, 1) := by decide +kernel
theorem dX8_lack_7 : decode cX8_lack 7 = .ok (.getfield 24, 3) := by decide +kernel
theorem dX8_lack_10 : decode cX8_lack 10 = .ok (.getfield 31, 3) := by decide +kernel
theorem dX8_lack_13 : decode cX8_lack 13 = .ok (.if_icmp .ge 18, 3) := by decide +kernel
theorem dX8_lack_16 : decode cX8_lack 16 = .ok (.iload_n 2, 1) := by decide +kernel
theorem dX8_lack_17 : decode cX8_lack 17 = .ok (.aload_n 0, 1) := by decide +kernel
theorem dX8_lack_18 : decode cX8_lack 18 = .ok (.getfield 18, 3) := by decide +kernel
theorem dX8_lack_21 : decode cX8_lack 21 = .ok (.iload_n 3, 1) := by decide +kernel
theorem dX8_lack_22 : decode cX8_lack 22 = .ok (.iaload, 1) := by decide +kernel
theorem dX8_lack_23 : decode cX8_lack 23 = .ok (.iadd, 1) := by decide +kernel
theorem dX8_lack_24 : decode cX8_lack 24 = .ok (.istore_n 2, 1) := by decide +kernel
theorem dX8_lack_25 : decode cX8_lack 25 = .ok (.iinc 3 1, 3) := by decide +kernel
theorem dX8_lack_28 : decode cX8_lack 28 = .ok (.goto (-23), 3) := by decide +kernel
theorem dX8_lack_31 : decode cX8_lack 31 = .ok (.iconst 0, 1) := by decide +kernel
theorem dX8_lack_32 : decode cX8_lack 32 = .ok (.istore_n 3, 1) := by decide +kernel
theorem dX8_lack_33 : decode cX8_lack 33 = .ok (.iload_n 3, 1) := by decide +kernel
theorem dX8_lack_34 : decode cX8_lack 34 = .ok (.aload_n 0, 1) := by decide +kernel
theorem dX8_lack_35 : decode cX8_lack 35 = .ok (.getfield 24, 3) := by decide +kernel
theorem dX8_lack_38 : decode cX8_lack 38 = .ok (.getfield 45, 3) := by decide +kernel
theorem dX8_lack_41 : decode cX8_lack 41 = .ok (.if_icmp .ge 18, 3) := by decide +kernel
theorem dX8_lack_44 : decode cX8_lack 44 = .ok (.iload_n 2, 1) := by decide +kernel
theorem dX8_lack_45 : decode cX8_lack 45 = .ok (.aload_n 0, 1) := by decide +kernel
theorem dX8_lack_46 : decode cX8_lack 46 = .ok (.getfield 9, 3) := by decide +kernel
theorem dX8_lack_49 : decode cX8_lack 49 = .ok (.iload_n 3, 1) := by decide +kernel
theorem dX8_lack_50 : decode cX8_lack 50 = .ok (.iaload, 1) := by decide +kernel
theorem dX8_lack_51 : decode cX8_lack 51 = .ok (.iadd, 1) := by decide +kernel
theorem dX8_lack_52 : decode cX8_lack 52 = .ok (.istore_n 2, 1) := by decide +kernel
theorem dX8_lack_53 : decode cX8_lack 53 = .ok (.iinc 3 1, 3) := by decide +kernel
theorem dX8_lack_56 : decode cX8_lack 56 = .ok (.goto (-23), 3) := by decide +kernel
theorem dX8_lack_59 : decode cX8_lack 59 = .ok (.iload_n 2, 1) := by decide +kernel
theorem dX8_lack_60 : decode cX8_lack 60 = .ok (.ireturn, 1) := by decide +kernel
theorem dX8_raise_0 : decode cX8_raise 0 = .ok (.iconst 0, 1) := by decide +kernel
theorem dX8_raise_1 : decode cX8_raise 1 = .ok (.istore_n 2, 1) := by decide +kernel
theorem dX8_raise_2 : decode cX8_raise 2 = .ok (.iload_n 2, 1) := by decide +kernel
theorem dX8_raise_3 : decode cX8_raise 3 = .ok (.aload_n 0, 1) := by decide +kernel
theorem dX8_raise_4 : decode cX8_raise 4 = .ok (.getfield 24, 3) := by decide +kernel
theorem dX8_raise_7 : decode cX8_raise 7 = .ok (.getfield 45, 3) := by decide +kernel
theorem dX8_raise_10 : decode cX8_raise 10 = .ok (.if_icmp .ge 16, 3) := by decide +kernel
theorem dX8_raise_13 : decode cX8_raise 13 = .ok (.aload_n 0, 1) := by decide +kernel
theorem dX8_raise_14 : decode cX8_raise 14 = .ok (.getfield 9, 3) := by decide +kernel
theorem dX8_raise_17 : decode cX8_raise 17 = .ok (.iload_n 2, 1) := by decide +kernel
theorem dX8_raise_18 : decode cX8_raise 18 = .ok (.iconst 0, 1) := by decide +kernel
theorem dX8_raise_19 : decode cX8_raise 19 = .ok (.iastore, 1) := by decide +kernel
theorem dX8_raise_20 : decode cX8_raise 20 = .ok (.iinc 2 1, 3) := by decide +kernel
theorem dX8_raise_23 : decode cX8_raise 23 = .ok (.goto (-21), 3) := by decide +kernel
theorem dX8_raise_26 : decode cX8_raise 26 = .ok (.iconst 0, 1) := by decide +kernel
theorem dX8_raise_27 : decode cX8_raise 27 = .ok (.istore_n 2, 1) := by decide +kernel
theorem dX8_raise_28 : decode cX8_raise 28 = .ok (.iload_n 2, 1) := by decide +kernel
theorem dX8_raise_29 : decode cX8_raise 29 = .ok (.sipush 300, 3) := by decide +kernel
theorem dX8_raise_32 : decode cX8_raise 32 = .ok (.if_icmp .gt 88, 3) := by decide +kernel
theorem dX8_raise_35 : decode cX8_raise 35 = .ok (.aload_n 0, 1) := by decide +kernel
theorem dX8_raise_36 : decode cX8_raise 36 = .ok (.iload_n 2, 1) := by decide +kernel
theorem dX8_raise_37 : decode cX8_raise 37 = .ok (.putfield 48, 3) := by decide +kernel
theorem dX8_raise_40 : decode cX8_raise 40 = .ok (.aload_n 0, 1) := by decide +kernel
theorem dX8_raise_41 : decode cX8_raise 41 = .ok (.invokevirtual 51, 3) := by decide +kernel
theorem dX8_raise_44 : decode cX8_raise 44 = .ok (.aload_n 0, 1) := by decide +kernel
theorem dX8_raise_45 : decode cX8_raise 45 = .ok (.aload_n 0, 1) := by decide +kernel
theorem dX8_raise_46 : decode cX8_raise 46 = .ok (.iload_n 1, 1) := by decide +kernel
theorem dX8_raise_47 : decode cX8_raise 47 = .ok (.invokevirtual 54, 3) := by decide +kernel
theorem dX8_raise_50 : decode cX8_raise 50 = .ok (.putfield 58, 3) := by decide +kernel
theorem dX8_raise_53 : decode cX8_raise 53 = .ok (.aload_n 0, 1) := by decide +kernel
theorem dX8_raise_54 : decode cX8_raise 54 = .ok (.invokevirtual 61, 3) := by decide +kernel
theorem dX8_raise_57 : decode cX8_raise 57 = .ok (.istore_n 3, 1) := by decide +kernel
theorem dX8_raise_58 : decode cX8_raise 58 = .ok (.aload_n 0, 1) := by decide +kernel
theorem dX8_raise_59 : decode cX8_raise 59 = .ok (.getfield 58, 3) := by decide +kernel
theorem dX8_raise_62 : decode cX8_raise 62 = .ok (.ifCond .eq 14, 3) := by decide +kernel
theorem dX8_raise_65 : decode cX8_raise 65 = .ok (.iload_n 3, 1) := by decide +kernel
theorem dX8_raise_66 : decode cX8_raise 66 = .ok (.ifCond .eq 10, 3) := by decide +kernel
theorem dX8_raise_69 : decode cX8_raise 69 = .ok (.iload_n 2, 1) := by decide +kernel
theorem dX8_raise_70 : decode cX8_raise 70 = .ok (.sipush 300, 3) := by decide +kernel
theorem dX8_raise_73 : decode cX8_raise 73 = .ok (.if_icmp .ne 4, 3) := by decide +kernel
theorem dX8_raise_76 : decode cX8_raise 76 = .ok (.return_, 1) := by decide +kernel
theorem dX8_raise_77 : decode cX8_raise 77 = .ok (.iconst 0, 1) := by decide +kernel
theorem dX8_raise_78 : decode cX8_raise 78 = .ok (.istore 4, 2) := by decide +kernel
theorem dX8_raise_80 : decode cX8_raise 80 = .ok (.iload 4, 2) := by decide +kernel
theorem dX8_raise_82 : decode cX8_raise 82 = .ok (.aload_n 0, 1) := by decide +kernel
theorem dX8_raise_83 : decode cX8_raise 83 = .ok (.getfield 24, 3) := by decide +kernel
theorem dX8_raise_86 : decode cX8_raise 86 = .ok (.getfield 45, 3) := by decide +kernel
theorem dX8_raise_89 : decode cX8_raise 89 = .ok (.if_icmp .ge 25, 3) := by decide +kernel
theorem dX8_raise_92 : decode cX8_raise 92 = .ok (.aload_n 0, 1) := by decide +kernel
theorem dX8_raise_93 : decode cX8_raise 93 = .ok (.getfield 9, 3) := by decide +kernel
theorem dX8_raise_96 : decode cX8_raise 96 = .ok (.iload 4, 2) := by decide +kernel
theorem dX8_raise_98 : decode cX8_raise 98 = .ok (.dup2, 1) := by decide +kernel
theorem dX8_raise_99 : decode cX8_raise 99 = .ok (.iaload, 1) := by decide +kernel
theorem dX8_raise_100 : decode cX8_raise 100 = .ok (.iload_n 3, 1) := by decide +kernel
theorem dX8_raise_101 : decode cX8_raise 101 = .ok (.iload 4, 2) := by decide +kernel
theorem dX8_raise_103 : decode cX8_raise 103 = .ok (.ishr, 1) := by decide +kernel
theorem dX8_raise_104 : decode cX8_raise 104 = .ok (.iconst 1, 1) := by decide +kernel
theorem dX8_raise_105 : decode cX8_raise 105 = .ok (.iand, 1) := by decide +kernel
theorem dX8_raise_106 : decode cX8_raise 106 = .ok (.iadd, 1) := by decide +kernel
theorem dX8_raise_107 : decode cX8_raise 107 = .ok (.iastore, 1) := by decide +kernel
theorem dX8_raise_108 : decode cX8_raise 108 = .ok (.iinc 4 1, 3) := by decide +kernel
theorem dX8_raise_111 : decode cX8_raise 111 = .ok (.goto (-31), 3) := by decide +kernel
theorem dX8_raise_114 : decode cX8_raise 114 = .ok (.iinc 2 1, 3) := by decide +kernel
theorem dX8_raise_117 : decode cX8_raise 117 = .ok (.goto (-89), 3) := by decide +kernel
theorem dX8_raise_120 : decode cX8_raise 120 = .ok (.return_, 1) := by decide +kernel
theorem dX8_wantedTwice_0 : decode cX8_wantedTwice 0 = .ok (.iconst 0, 1) := by decide +kernel
theorem dX8_wantedTwice_1 : decode cX8_wantedTwice 1 = .ok (.istore_n 1, 1) := by decide +kernel
theorem dX8_wantedTwice_2 : decode cX8_wantedTwice 2 = .ok (.iconst 0, 1) := by decide +kernel
theorem dX8_wantedTwice_3 : decode cX8_wantedTwice 3 = .ok (.istore_n 2, 1) := by decide +kernel
theorem dX8_wantedTwice_4 : decode cX8_wantedTwice 4 = .ok (.iconst 0, 1) := by decide +kernel
theorem dX8_wantedTwice_5 : decode cX8_wantedTwice 5 = .ok (.istore_n 3, 1) := by decide +kernel
theorem dX8_wantedTwice_6 : decode cX8_wantedTwice 6 = .ok (.iload_n 3, 1) := by decide +kernel
theorem dX8_wantedTwice_7 : decode cX8_wantedTwice 7 = .ok (.aload_n 0, 1) := by decide +kernel
theorem dX8_wantedTwice_8 : decode cX8_wantedTwice 8 = .ok (.getfield 24, 3) := by decide +kernel
theorem dX8_wantedTwice_11 : decode cX8_wantedTwice 11 = .ok (.getfield 31, 3) := by decide +kernel
theorem dX8_wantedTwice_14 : decode cX8_wantedTwice 14 = .ok (.if_icmp .ge 29, 3) := by decide +kernel
theorem dX8_wantedTwice_17 : decode cX8_wantedTwice 17 = .ok (.iload_n 2, 1) := by decide +kernel
theorem dX8_wantedTwice_18 : decode cX8_wantedTwice 18 = .ok (.iload_n 1, 1) := by decide +kernel
theorem dX8_wantedTwice_19 : decode cX8_wantedTwice 19 = .ok (.aload_n 0, 1) := by decide +kernel
theorem dX8_wantedTwice_20 : decode cX8_wantedTwice 20 = .ok (.getfield 15, 3) := by decide +kernel
theorem dX8_wantedTwice_23 : decode cX8_wantedTwice 23 = .ok (.iload_n 3, 1) := by decide +kernel
theorem dX8_wantedTwice_24 : decode cX8_wantedTwice 24 = .ok (.iaload, 1) := by decide +kernel
theorem dX8_wantedTwice_25 : decode cX8_wantedTwice 25 = .ok (.iand, 1) := by decide +kernel
theorem dX8_wantedTwice_26 : decode cX8_wantedTwice 26 = .ok (.ior, 1) := by decide +kernel
theorem dX8_wantedTwice_27 : decode cX8_wantedTwice 27 = .ok (.istore_n 2, 1) := by decide +kernel
theorem dX8_wantedTwice_28 : decode cX8_wantedTwice 28 = .ok (.iload_n 1, 1) := by decide +kernel
theorem dX8_wantedTwice_29 : decode cX8_wantedTwice 29 = .ok (.aload_n 0, 1) := by decide +kernel
theorem dX8_wantedTwice_30 : decode cX8_wantedTwice 30 = .ok (.getfield 15, 3) := by decide +kernel
theorem dX8_wantedTwice_33 : decode cX8_wantedTwice 33 = .ok (.iload_n 3, 1) := by decide +kernel
theorem dX8_wantedTwice_34 : decode cX8_wantedTwice 34 = .ok (.iaload, 1) := by decide +kernel
theorem dX8_wantedTwice_35 : decode cX8_wantedTwice 35 = .ok (.ior, 1) := by decide +kernel
theorem dX8_wantedTwice_36 : decode cX8_wantedTwice 36 = .ok (.istore_n 1, 1) := by decide +kernel
theorem dX8_wantedTwice_37 : decode cX8_wantedTwice 37 = .ok (.iinc 3 1, 3) := by decide +kernel
theorem dX8_wantedTwice_40 : decode cX8_wantedTwice 40 = .ok (.goto (-34), 3) := by decide +kernel
theorem dX8_wantedTwice_43 : decode cX8_wantedTwice 43 = .ok (.iload_n 2, 1) := by decide +kernel
theorem dX8_wantedTwice_44 : decode cX8_wantedTwice 44 = .ok (.ireturn, 1) := by decide +kernel
theorem dX8_sortByPrice_0 : decode cX8_sortByPrice 0 = .ok (.iconst 0, 1) := by decide +kernel
theorem dX8_sortByPrice_1 : decode cX8_sortByPrice 1 = .ok (.istore_n 1, 1) := by decide +kernel
theorem dX8_sortByPrice_2 : decode cX8_sortByPrice 2 = .ok (.iload_n 1, 1) := by decide +kernel
theorem dX8_sortByPrice_3 : decode cX8_sortByPrice 3 = .ok (.aload_n 0, 1) := by decide +kernel
theorem dX8_sortByPrice_4 : decode cX8_sortByPrice 4 = .ok (.getfield 24, 3) := by decide +kernel
theorem dX8_sortByPrice_7 : decode cX8_sortByPrice 7 = .ok (.getfield 45, 3) := by decide +kernel
theorem dX8_sortByPrice_10 : decode cX8_sortByPrice 10 = .ok (.if_icmp .ge 64, 3) := by decide +kernel
theorem dX8_sortByPrice_13 : decode cX8_sortByPrice 13 = .ok (.iload_n 1, 1) := by decide +kernel
theorem dX8_sortByPrice_14 : decode cX8_sortByPrice 14 = .ok (.istore_n 2, 1) := by decide +kernel
theorem dX8_sortByPrice_15 : decode cX8_sortByPrice 15 = .ok (.iload_n 2, 1) := by decide +kernel
theorem dX8_sortByPrice_16 : decode cX8_sortByPrice 16 = .ok (.ifCond .le 45, 3) := by decide +kernel
theorem dX8_sortByPrice_19 : decode cX8_sortByPrice 19 = .ok (.aload_n 0, 1) := by decide +kernel
theorem dX8_sortByPrice_20 : decode cX8_sortByPrice 20 = .ok (.getfield 9, 3) := by decide +kernel
theorem dX8_sortByPrice_23 : decode cX8_sortByPrice 23 = .ok (.aload_n 0, 1) := by decide +kernel
theorem dX8_sortByPrice_24 : decode cX8_sortByPrice 24 = .ok (.getfield 21, 3) := by decide +kernel
theorem dX8_sortByPrice_27 : decode cX8_sortByPrice 27 = .ok (.iload_n 2, 1) := by decide +kernel
theorem dX8_sortByPrice_28 : decode cX8_sortByPrice 28 = .ok (.iconst 1, 1) := by decide +kernel
theorem dX8_sortByPrice_29 : decode cX8_sortByPrice 29 = .ok (.isub, 1) := by decide +kernel
theorem dX8_sortByPrice_30 : decode cX8_sortByPrice 30 = .ok (.iaload, 1) := by decide +kernel
theorem dX8_sortByPrice_31 : decode cX8_sortByPrice 31 = .ok (.iaload, 1) := by decide +kernel
theorem dX8_sortByPrice_32 : decode cX8_sortByPrice 32 = .ok (.aload_n 0, 1) := by decide +kernel
theorem dX8_sortByPrice_33 : decode cX8_sortByPrice 33 = .ok (.getfield 9, 3) := by decide +kernel
theorem dX8_sortByPrice_36 : decode cX8_sortByPrice 36 = .ok (.iload_n 1, 1) := by decide +kernel
theorem dX8_sortByPrice_37 : decode cX8_sortByPrice 37 = .ok (.iaload, 1) := by decide +kernel
theorem dX8_sortByPrice_38 : decode cX8_sortByPrice 38 = .ok (.if_icmp .le 23, 3) := by decide +kernel
theorem dX8_sortByPrice_41 : decode cX8_sortByPrice 41 = .ok (.aload_n 0, 1) := by decide +kernel
theorem dX8_sortByPrice_42 : decode cX8_sortByPrice 42 = .ok (.getfield 21, 3) := by decide +kernel
theorem dX8_sortByPrice_45 : decode cX8_sortByPrice 45 = .ok (.iload_n 2, 1) := by decide +kernel
theorem dX8_sortByPrice_46 : decode cX8_sortByPrice 46 = .ok (.aload_n 0, 1) := by decide +kernel
theorem dX8_sortByPrice_47 : decode cX8_sortByPrice 47 = .ok (.getfield 21, 3) := by decide +kernel
theorem dX8_sortByPrice_50 : decode cX8_sortByPrice 50 = .ok (.iload_n 2, 1) := by decide +kernel
theorem dX8_sortByPrice_51 : decode cX8_sortByPrice 51 = .ok (.iconst 1, 1) := by decide +kernel
theorem dX8_sortByPrice_52 : decode cX8_sortByPrice 52 = .ok (.isub, 1) := by decide +kernel
theorem dX8_sortByPrice_53 : decode cX8_sortByPrice 53 = .ok (.iaload, 1) := by decide +kernel
theorem dX8_sortByPrice_54 : decode cX8_sortByPrice 54 = .ok (.iastore, 1) := by decide +kernel
theorem dX8_sortByPrice_55 : decode cX8_sortByPrice 55 = .ok (.iinc 2 (-1), 3) := by decide +kernel
theorem dX8_sortByPrice_58 : decode cX8_sortByPrice 58 = .ok (.goto (-43), 3) := by decide +kernel
theorem dX8_sortByPrice_61 : decode cX8_sortByPrice 61 = .ok (.aload_n 0, 1) := by decide +kernel
theorem dX8_sortByPrice_62 : decode cX8_sortByPrice 62 = .ok (.getfield 21, 3) := by decide +kernel
theorem dX8_sortByPrice_65 : decode cX8_sortByPrice 65 = .ok (.iload_n 2, 1) := by decide +kernel
theorem dX8_sortByPrice_66 : decode cX8_sortByPrice 66 = .ok (.iload_n 1, 1) := by decide +kernel
theorem dX8_sortByPrice_67 : decode cX8_sortByPrice 67 = .ok (.iastore, 1) := by decide +kernel
theorem dX8_sortByPrice_68 : decode cX8_sortByPrice 68 = .ok (.iinc 1 1, 3) := by decide +kernel
theorem dX8_sortByPrice_71 : decode cX8_sortByPrice 71 = .ok (.goto (-69), 3) := by decide +kernel
theorem dX8_sortByPrice_74 : decode cX8_sortByPrice 74 = .ok (.return_, 1) := by decide +kernel
theorem dX8_like_0 : decode cX8_like 0 = .ok (.iconst 0, 1) := by decide +kernel
theorem dX8_like_1 : decode cX8_like 1 = .ok (.istore_n 3, 1) := by decide +kernel
theorem dX8_like_2 : decode cX8_like 2 = .ok (.iconst 0, 1) := by decide +kernel
theorem dX8_like_3 : decode cX8_like 3 = .ok (.istore 4, 2) := by decide +kernel
theorem dX8_like_5 : decode cX8_like 5 = .ok (.iconst 0, 1) := by decide +kernel
theorem dX8_like_6 : decode cX8_like 6 = .ok (.istore 5, 2) := by decide +kernel
theorem dX8_like_8 : decode cX8_like 8 = .ok (.iload 5, 2) := by decide +kernel
theorem dX8_like_10 : decode cX8_like 10 = .ok (.aload_n 2, 1) := by decide +kernel
theorem dX8_like_11 : decode cX8_like 11 = .ok (.getfield 65, 3) := by decide +kernel
theorem dX8_like_14 : decode cX8_like 14 = .ok (.if_icmp .ge 109, 3) := by decide +kernel
theorem dX8_like_17 : decode cX8_like 17 = .ok (.aload_n 2, 1) := by decide +kernel
theorem dX8_like_18 : decode cX8_like 18 = .ok (.iload 5, 2) := by decide +kernel
theorem dX8_like_20 : decode cX8_like 20 = .ok (.invokevirtual 70, 3) := by decide +kernel
theorem dX8_like_23 : decode cX8_like 23 = .ok (.ifCond .eq 94, 3) := by decide +kernel
theorem dX8_like_26 : decode cX8_like 26 = .ok (.aload_n 2, 1) := by decide +kernel
theorem dX8_like_27 : decode cX8_like 27 = .ok (.getfield 74, 3) := by decide +kernel
theorem dX8_like_30 : decode cX8_like 30 = .ok (.iload 5, 2) := by decide +kernel
theorem dX8_like_32 : decode cX8_like 32 = .ok (.iaload, 1) := by decide +kernel
theorem dX8_like_33 : decode cX8_like 33 = .ok (.iload 4, 2) := by decide +kernel
theorem dX8_like_35 : decode cX8_like 35 = .ok (.if_icmp .lt 82, 3) := by decide +kernel
theorem dX8_like_38 : decode cX8_like 38 = .ok (.aload_n 0, 1) := by decide +kernel
theorem dX8_like_39 : decode cX8_like 39 = .ok (.getfield 24, 3) := by decide +kernel
theorem dX8_like_42 : decode cX8_like 42 = .ok (.aload_n 2, 1) := by decide +kernel
theorem dX8_like_43 : decode cX8_like 43 = .ok (.getfield 77, 3) := by decide +kernel
theorem dX8_like_46 : decode cX8_like 46 = .ok (.iload 5, 2) := by decide +kernel
theorem dX8_like_48 : decode cX8_like 48 = .ok (.iaload, 1) := by decide +kernel
theorem dX8_like_49 : decode cX8_like 49 = .ok (.aload_n 0, 1) := by decide +kernel
theorem dX8_like_50 : decode cX8_like 50 = .ok (.getfield 21, 3) := by decide +kernel
theorem dX8_like_53 : decode cX8_like 53 = .ok (.aload_n 0, 1) := by decide +kernel
theorem dX8_like_54 : decode cX8_like 54 = .ok (.getfield 24, 3) := by decide +kernel
theorem dX8_like_57 : decode cX8_like 57 = .ok (.invokevirtual 80, 3) := by decide +kernel
theorem dX8_like_60 : decode cX8_like 60 = .ok (.invokevirtual 83, 3) := by decide +kernel
theorem dX8_like_63 : decode cX8_like 63 = .ok (.istore 6, 2) := by decide +kernel
theorem dX8_like_65 : decode cX8_like 65 = .ok (.iload 6, 2) := by decide +kernel
theorem dX8_like_67 : decode cX8_like 67 = .ok (.ifCond .ge 7, 3) := by decide +kernel
theorem dX8_like_70 : decode cX8_like 70 = .ok (.iconst (-1), 1) := by decide +kernel
theorem dX8_like_71 : decode cX8_like 71 = .ok (.goto 17, 3) := by decide +kernel
theorem dX8_like_74 : decode cX8_like 74 = .ok (.aload_n 2, 1) := by decide +kernel
theorem dX8_like_75 : decode cX8_like 75 = .ok (.getfield 74, 3) := by decide +kernel
theorem dX8_like_78 : decode cX8_like 78 = .ok (.iload 5, 2) := by decide +kernel
theorem dX8_like_80 : decode cX8_like 80 = .ok (.iaload, 1) := by decide +kernel
theorem dX8_like_81 : decode cX8_like 81 = .ok (.aload_n 0, 1) := by decide +kernel
theorem dX8_like_82 : decode cX8_like 82 = .ok (.iload 6, 2) := by decide +kernel
theorem dX8_like_84 : decode cX8_like 84 = .ok (.invokevirtual 87, 3) := by decide +kernel
theorem dX8_like_87 : decode cX8_like 87 = .ok (.isub, 1) := by decide +kernel
theorem dX8_like_88 : decode cX8_like 88 = .ok (.istore 7, 2) := by decide +kernel
theorem dX8_like_90 : decode cX8_like 90 = .ok (.iload 7, 2) := by decide +kernel
theorem dX8_like_92 : decode cX8_like 92 = .ok (.iload 4, 2) := by decide +kernel
theorem dX8_like_94 : decode cX8_like 94 = .ok (.if_icmp .gt 16, 3) := by decide +kernel
theorem dX8_like_97 : decode cX8_like 97 = .ok (.iload 7, 2) := by decide +kernel
theorem dX8_like_99 : decode cX8_like 99 = .ok (.iload 4, 2) := by decide +kernel
theorem dX8_like_101 : decode cX8_like 101 = .ok (.if_icmp .ne 16, 3) := by decide +kernel
theorem dX8_like_104 : decode cX8_like 104 = .ok (.iload 6, 2) := by decide +kernel
theorem dX8_like_106 : decode cX8_like 106 = .ok (.iload_n 3, 1) := by decide +kernel
theorem dX8_like_107 : decode cX8_like 107 = .ok (.if_icmp .ge 10, 3) := by decide +kernel
theorem dX8_like_110 : decode cX8_like 110 = .ok (.iload 6, 2) := by decide +kernel
theorem dX8_like_112 : decode cX8_like 112 = .ok (.istore_n 3, 1) := by decide +kernel
theorem dX8_like_113 : decode cX8_like 113 = .ok (.iload 7, 2) := by decide +kernel
theorem dX8_like_115 : decode cX8_like 115 = .ok (.istore 4, 2) := by decide +kernel
theorem dX8_like_117 : decode cX8_like 117 = .ok (.iinc 5 1, 3) := by decide +kernel
theorem dX8_like_120 : decode cX8_like 120 = .ok (.goto (-112), 3) := by decide +kernel
theorem dX8_like_123 : decode cX8_like 123 = .ok (.aload_n 0, 1) := by decide +kernel
theorem dX8_like_124 : decode cX8_like 124 = .ok (.getfield 15, 3) := by decide +kernel
theorem dX8_like_127 : decode cX8_like 127 = .ok (.iload_n 1, 1) := by decide +kernel
theorem dX8_like_128 : decode cX8_like 128 = .ok (.iload_n 3, 1) := by decide +kernel
theorem dX8_like_129 : decode cX8_like 129 = .ok (.iastore, 1) := by decide +kernel
theorem dX8_like_130 : decode cX8_like 130 = .ok (.aload_n 0, 1) := by decide +kernel
theorem dX8_like_131 : decode cX8_like 131 = .ok (.getfield 18, 3) := by decide +kernel
theorem dX8_like_134 : decode cX8_like 134 = .ok (.iload_n 1, 1) := by decide +kernel
theorem dX8_like_135 : decode cX8_like 135 = .ok (.iload 4, 2) := by decide +kernel
theorem dX8_like_137 : decode cX8_like 137 = .ok (.iastore, 1) := by decide +kernel
theorem dX8_like_138 : decode cX8_like 138 = .ok (.return_, 1) := by decide +kernel
theorem dX8_costOf_0 : decode cX8_costOf 0 = .ok (.iconst 0, 1) := by decide +kernel
theorem dX8_costOf_1 : decode cX8_costOf 1 = .ok (.istore_n 2, 1) := by decide +kernel
theorem dX8_costOf_2 : decode cX8_costOf 2 = .ok (.iconst 0, 1) := by decide +kernel
theorem dX8_costOf_3 : decode cX8_costOf 3 = .ok (.istore_n 3, 1) := by decide +kernel
theorem dX8_costOf_4 : decode cX8_costOf 4 = .ok (.iload_n 3, 1) := by decide +kernel
theorem dX8_costOf_5 : decode cX8_costOf 5 = .ok (.aload_n 0, 1) := by decide +kernel
theorem dX8_costOf_6 : decode cX8_costOf 6 = .ok (.getfield 24, 3) := by decide +kernel
theorem dX8_costOf_9 : decode cX8_costOf 9 = .ok (.getfield 45, 3) := by decide +kernel
theorem dX8_costOf_12 : decode cX8_costOf 12 = .ok (.if_icmp .ge 26, 3) := by decide +kernel
theorem dX8_costOf_15 : decode cX8_costOf 15 = .ok (.iload_n 1, 1) := by decide +kernel
theorem dX8_costOf_16 : decode cX8_costOf 16 = .ok (.iload_n 3, 1) := by decide +kernel
theorem dX8_costOf_17 : decode cX8_costOf 17 = .ok (.ishr, 1) := by decide +kernel
theorem dX8_costOf_18 : decode cX8_costOf 18 = .ok (.iconst 1, 1) := by decide +kernel
theorem dX8_costOf_19 : decode cX8_costOf 19 = .ok (.iand, 1) := by decide +kernel
theorem dX8_costOf_20 : decode cX8_costOf 20 = .ok (.ifCond .eq 12, 3) := by decide +kernel
theorem dX8_costOf_23 : decode cX8_costOf 23 = .ok (.iload_n 2, 1) := by decide +kernel
theorem dX8_costOf_24 : decode cX8_costOf 24 = .ok (.aload_n 0, 1) := by decide +kernel
theorem dX8_costOf_25 : decode cX8_costOf 25 = .ok (.getfield 9, 3) := by decide +kernel
theorem dX8_costOf_28 : decode cX8_costOf 28 = .ok (.iload_n 3, 1) := by decide +kernel
theorem dX8_costOf_29 : decode cX8_costOf 29 = .ok (.iaload, 1) := by decide +kernel
theorem dX8_costOf_30 : decode cX8_costOf 30 = .ok (.iadd, 1) := by decide +kernel
theorem dX8_costOf_31 : decode cX8_costOf 31 = .ok (.istore_n 2, 1) := by decide +kernel
theorem dX8_costOf_32 : decode cX8_costOf 32 = .ok (.iinc 3 1, 3) := by decide +kernel
theorem dX8_costOf_35 : decode cX8_costOf 35 = .ok (.goto (-31), 3) := by decide +kernel
theorem dX8_costOf_38 : decode cX8_costOf 38 = .ok (.iload_n 2, 1) := by decide +kernel
theorem dX8_costOf_39 : decode cX8_costOf 39 = .ok (.ireturn, 1) := by decide +kernel
theorem dX9_init_0 : decode cX9_init 0 = .ok (.aload_n 0, 1) := by decide +kernel
theorem dX9_init_1 : decode cX9_init 1 = .ok (.invokespecial 3, 3) := by decide +kernel
theorem dX9_init_4 : decode cX9_init 4 = .ok (.aload_n 0, 1) := by decide +kernel
theorem dX9_init_5 : decode cX9_init 5 = .ok (.bipush 50, 2) := by decide +kernel
theorem dX9_init_7 : decode cX9_init 7 = .ok (.newarray .int, 2) := by decide +kernel
theorem dX9_init_9 : decode cX9_init 9 = .ok (.putfield 9, 3) := by decide +kernel
theorem dX9_init_12 : decode cX9_init 12 = .ok (.aload_n 0, 1) := by decide +kernel
theorem dX9_init_13 : decode cX9_init 13 = .ok (.bipush 6, 2) := by decide +kernel
theorem dX9_init_15 : decode cX9_init 15 = .ok (.newarray .int, 2) := by decide +kernel
theorem dX9_init_17 : decode cX9_init 17 = .ok (.putfield 15, 3) := by decide +kernel
theorem dX9_init_20 : decode cX9_init 20 = .ok (.aload_n 0, 1) := by decide +kernel
theorem dX9_init_21 : decode cX9_init 21 = .ok (.bipush 6, 2) := by decide +kernel
theorem dX9_init_23 : decode cX9_init 23 = .ok (.newarray .int, 2) := by decide +kernel
theorem dX9_init_25 : decode cX9_init 25 = .ok (.putfield 18, 3) := by decide +kernel
theorem dX9_init_28 : decode cX9_init 28 = .ok (.return_, 1) := by decide +kernel
theorem dX9_firstWrong_0 : decode cX9_firstWrong 0 = .ok (.aload_n 0, 1) := by decide +kernel
theorem dX9_firstWrong_1 : decode cX9_firstWrong 1 = .ok (.iconst 0, 1) := by decide +kernel
theorem dX9_firstWrong_2 : decode cX9_firstWrong 2 = .ok (.invokevirtual 21, 3) := by decide +kernel
theorem dX9_firstWrong_5 : decode cX9_firstWrong 5 = .ok (.iconst 0, 1) := by decide +kernel
theorem dX9_firstWrong_6 : decode cX9_firstWrong 6 = .ok (.istore_n 1, 1) := by decide +kernel
theorem dX9_firstWrong_7 : decode cX9_firstWrong 7 = .ok (.iload_n 1, 1) := by decide +kernel
theorem dX9_firstWrong_8 : decode cX9_firstWrong 8 = .ok (.aload_n 0, 1) := by decide +kernel
theorem dX9_firstWrong_9 : decode cX9_firstWrong 9 = .ok (.getfield 25, 3) := by decide +kernel
theorem dX9_firstWrong_12 : decode cX9_firstWrong 12 = .ok (.if_icmp .ge 24, 3) := by decide +kernel
theorem dX9_firstWrong_15 : decode cX9_firstWrong 15 = .ok (.aload_n 0, 1) := by decide +kernel
theorem dX9_firstWrong_16 : decode cX9_firstWrong 16 = .ok (.aload_n 0, 1) := by decide +kernel
theorem dX9_firstWrong_17 : decode cX9_firstWrong 17 = .ok (.getfield 9, 3) := by decide +kernel
theorem dX9_firstWrong_20 : decode cX9_firstWrong 20 = .ok (.iload_n 1, 1) := by decide +kernel
theorem dX9_firstWrong_21 : decode cX9_firstWrong 21 = .ok (.iaload, 1) := by decide +kernel
theorem dX9_firstWrong_22 : decode cX9_firstWrong 22 = .ok (.invokevirtual 29, 3) := by decide +kernel
theorem dX9_firstWrong_25 : decode cX9_firstWrong 25 = .ok (.ifCond .ne 5, 3) := by decide +kernel
theorem dX9_firstWrong_28 : decode cX9_firstWrong 28 = .ok (.iload_n 1, 1) := by decide +kernel
theorem dX9_firstWrong_29 : decode cX9_firstWrong 29 = .ok (.ireturn, 1) := by decide +kernel
theorem dX9_firstWrong_30 : decode cX9_firstWrong 30 = .ok (.iinc 1 1, 3) := by decide +kernel
theorem dX9_firstWrong_33 : decode cX9_firstWrong 33 = .ok (.goto (-26), 3) := by decide +kernel
theorem dX9_firstWrong_36 : decode cX9_firstWrong 36 = .ok (.aload_n 0, 1) := by decide +kernel
theorem dX9_firstWrong_37 : decode cX9_firstWrong 37 = .ok (.getfield 33, 3) := by decide +kernel
theorem dX9_firstWrong_40 : decode cX9_firstWrong 40 = .ok (.iconst 4, 1) := by decide +kernel
theorem dX9_firstWrong_41 : decode cX9_firstWrong 41 = .ok (.if_icmp .ne 8, 3) := by decide +kernel
theorem dX9_firstWrong_44 : decode cX9_firstWrong 44 = .ok (.bipush (-6), 2) := by decide +kernel
theorem dX9_firstWrong_46 : decode cX9_firstWrong 46 = .ok (.goto 7, 3) := by decide +kernel
theorem dX9_firstWrong_49 : decode cX9_firstWrong 49 = .ok (.aload_n 0, 1) := by decide +kernel
theorem dX9_firstWrong_50 : decode cX9_firstWrong 50 = .ok (.getfield 25, 3) := by decide +kernel
theorem dX9_firstWrong_53 : decode cX9_firstWrong 53 = .ok (.ireturn, 1) := by decide +kernel
theorem dX9_begin_0 : decode cX9_begin 0 = .ok (.aload_n 0, 1) := by decide +kernel
theorem dX9_begin_1 : decode cX9_begin 1 = .ok (.iload_n 1, 1) := by decide +kernel
theorem dX9_begin_2 : decode cX9_begin 2 = .ok (.putfield 36, 3) := by decide +kernel
theorem dX9_begin_5 : decode cX9_begin 5 = .ok (.aload_n 0, 1) := by decide +kernel
theorem dX9_begin_6 : decode cX9_begin 6 = .ok (.getfield 15, 3) := by decide +kernel
theorem dX9_begin_9 : decode cX9_begin 9 = .ok (.iload_n 1, 1) := by decide +kernel
theorem dX9_begin_10 : decode cX9_begin 10 = .ok (.iconst 0, 1) := by decide +kernel
theorem dX9_begin_11 : decode cX9_begin 11 = .ok (.iastore, 1) := by decide +kernel
theorem dX9_begin_12 : decode cX9_begin 12 = .ok (.aload_n 0, 1) := by decide +kernel
theorem dX9_begin_13 : decode cX9_begin 13 = .ok (.getfield 18, 3) := by decide +kernel
theorem dX9_begin_16 : decode cX9_begin 16 = .ok (.iload_n 1, 1) := by decide +kernel
theorem dX9_begin_17 : decode cX9_begin 17 = .ok (.iconst 0, 1) := by decide +kernel
theorem dX9_begin_18 : decode cX9_begin 18 = .ok (.iastore, 1) := by decide +kernel
theorem dX9_begin_19 : decode cX9_begin 19 = .ok (.aload_n 0, 1) := by decide +kernel
theorem dX9_begin_20 : decode cX9_begin 20 = .ok (.iconst 0, 1) := by decide +kernel
theorem dX9_begin_21 : decode cX9_begin 21 = .ok (.putfield 39, 3) := by decide +kernel
theorem dX9_begin_24 : decode cX9_begin 24 = .ok (.aload_n 0, 1) := by decide +kernel
theorem dX9_begin_25 : decode cX9_begin 25 = .ok (.iconst 0, 1) := by decide +kernel
theorem dX9_begin_26 : decode cX9_begin 26 = .ok (.putfield 42, 3) := by decide +kernel
theorem dX9_begin_29 : decode cX9_begin 29 = .ok (.aload_n 0, 1) := by decide +kernel
theorem dX9_begin_30 : decode cX9_begin 30 = .ok (.iconst 0, 1) := by decide +kernel
theorem dX9_begin_31 : decode cX9_begin 31 = .ok (.putfield 33, 3) := by decide +kernel
theorem dX9_begin_34 : decode cX9_begin 34 = .ok (.return_, 1) := by decide +kernel
theorem dX9_takes_0 : decode cX9_takes 0 = .ok (.aload_n 0, 1) := by decide +kernel
theorem dX9_takes_1 : decode cX9_takes 1 = .ok (.getfield 33, 3) := by decide +kernel
theorem dX9_takes_4 : decode cX9_takes 4 = .ok (.tableswitch 69 0 3 #[32, 38, 44, 63], 32) := by decide +kernel
theorem dX9_takes_36 : decode cX9_takes 36 = .ok (.aload_n 0, 1) := by decide +kernel
theorem dX9_takes_37 : decode cX9_takes 37 = .ok (.iload_n 1, 1) := by decide +kernel
theorem dX9_takes_38 : decode cX9_takes 38 = .ok (.invokevirtual 45, 3) := by decide +kernel
theorem dX9_takes_41 : decode cX9_takes 41 = .ok (.ireturn, 1) := by decide +kernel
theorem dX9_takes_42 : decode cX9_takes 42 = .ok (.aload_n 0, 1) := by decide +kernel
theorem dX9_takes_43 : decode cX9_takes 43 = .ok (.iload_n 1, 1) := by decide +kernel
theorem dX9_takes_44 : decode cX9_takes 44 = .ok (.invokevirtual 48, 3) := by decide +kernel
theorem dX9_takes_47 : decode cX9_takes 47 = .ok (.ireturn, 1) := by decide +kernel
theorem dX9_takes_48 : decode cX9_takes 48 = .ok (.iload_n 1, 1) := by decide +kernel
theorem dX9_takes_49 : decode cX9_takes 49 = .ok (.bipush 61, 2) := by decide +kernel
theorem dX9_takes_51 : decode cX9_takes 51 = .ok (.if_icmp .ne 10, 3) := by decide +kernel
theorem dX9_takes_54 : decode cX9_takes 54 = .ok (.aload_n 0, 1) := by decide +kernel
theorem dX9_takes_55 : decode cX9_takes 55 = .ok (.invokevirtual 51, 3) := by decide +kernel
theorem dX9_takes_58 : decode cX9_takes 58 = .ok (.goto 8, 3) := by decide +kernel
theorem dX9_takes_61 : decode cX9_takes 61 = .ok (.aload_n 0, 1) := by decide +kernel
theorem dX9_takes_62 : decode cX9_takes 62 = .ok (.iload_n 1, 1) := by decide +kernel
theorem dX9_takes_63 : decode cX9_takes 63 = .ok (.invokevirtual 45, 3) := by decide +kernel
theorem dX9_takes_66 : decode cX9_takes 66 = .ok (.ireturn, 1) := by decide +kernel
theorem dX9_takes_67 : decode cX9_takes 67 = .ok (.aload_n 0, 1) := by decide +kernel
theorem dX9_takes_68 : decode cX9_takes 68 = .ok (.iload_n 1, 1) := by decide +kernel
theorem dX9_takes_69 : decode cX9_takes 69 = .ok (.invokevirtual 55, 3) := by decide +kernel
theorem dX9_takes_72 : decode cX9_takes 72 = .ok (.ireturn, 1) := by decide +kernel
theorem dX9_takes_73 : decode cX9_takes 73 = .ok (.iload_n 1, 1) := by decide +kernel
theorem dX9_takes_74 : decode cX9_takes 74 = .ok (.bipush 124, 2) := by decide +kernel
theorem dX9_takes_76 : decode cX9_takes 76 = .ok (.if_icmp .ne 10, 3) := by decide +kernel
theorem dX9_takes_79 : decode cX9_takes 79 = .ok (.aload_n 0, 1) := by decide +kernel
theorem dX9_takes_80 : decode cX9_takes 80 = .ok (.invokevirtual 58, 3) := by decide +kernel
theorem dX9_takes_83 : decode cX9_takes 83 = .ok (.goto 8, 3) := by decide +kernel
theorem dX9_takes_86 : decode cX9_takes 86 = .ok (.aload_n 0, 1) := by decide +kernel
theorem dX9_takes_87 : decode cX9_takes 87 = .ok (.iload_n 1, 1) := by decide +kernel
theorem dX9_takes_88 : decode cX9_takes 88 = .ok (.invokevirtual 55, 3) := by decide +kernel
theorem dX9_takes_91 : decode cX9_takes 91 = .ok (.ireturn, 1) := by decide +kernel
theorem dX9_takesCount_0 : decode cX9_takesCount 0 = .ok (.iload_n 1, 1) := by decide +kernel
theorem dX9_takesCount_1 : decode cX9_takesCount 1 = .ok (.bipush 49, 2) := by decide +kernel
theorem dX9_takesCount_3 : decode cX9_takesCount 3 = .ok (.if_icmp .lt 17, 3) := by decide +kernel
theorem dX9_takesCount_6 : decode cX9_takesCount 6 = .ok (.iload_n 1, 1) := by decide +kernel
theorem dX9_takesCount_7 : decode cX9_takesCount 7 = .ok (.bipush 57, 2) := by decide +kernel
theorem dX9_takesCount_9 : decode cX9_takesCount 9 = .ok (.if_icmp .gt 11, 3) := by decide +kernel
theorem dX9_takesCount_12 : decode cX9_takesCount 12 = .ok (.aload_n 0, 1) := by decide +kernel
theorem dX9_takesCount_13 : decode cX9_takesCount 13 = .ok (.getfield 39, 3) := by decide +kernel
theorem dX9_takesCount_16 : decode cX9_takesCount 16 = .ok (.iconst 5, 1) := by decide +kernel
theorem dX9_takesCount_17 : decode cX9_takesCount 17 = .ok (.if_icmp .lt 5, 3) := by decide +kernel
theorem dX9_takesCount_20 : decode cX9_takesCount 20 = .ok (.iconst 0, 1) := by decide +kernel
theorem dX9_takesCount_21 : decode cX9_takesCount 21 = .ok (.ireturn, 1) := by decide +kernel
theorem dX9_takesCount_22 : decode cX9_takesCount 22 = .ok (.aload_n 0, 1) := by decide +kernel
theorem dX9_takesCount_23 : decode cX9_takesCount 23 = .ok (.iload_n 1, 1) := by decide +kernel
theorem dX9_takesCount_24 : decode cX9_takesCount 24 = .ok (.bipush 48, 2) := by decide +kernel
theorem dX9_takesCount_26 : decode cX9_takesCount 26 = .ok (.isub, 1) := by decide +kernel
theorem dX9_takesCount_27 : decode cX9_takesCount 27 = .ok (.putfield 61, 3) := by decide +kernel
theorem dX9_takesCount_30 : decode cX9_takesCount 30 = .ok (.aload_n 0, 1) := by decide +kernel
theorem dX9_takesCount_31 : decode cX9_takesCount 31 = .ok (.iconst 1, 1) := by decide +kernel
theorem dX9_takesCount_32 : decode cX9_takesCount 32 = .ok (.putfield 33, 3) := by decide +kernel
theorem dX9_takesCount_35 : decode cX9_takesCount 35 = .ok (.iconst 1, 1) := by decide +kernel
theorem dX9_takesCount_36 : decode cX9_takesCount 36 = .ok (.ireturn, 1) := by decide +kernel
theorem dX9_takesLetter_0 : decode cX9_takesLetter 0 = .ok (.iload_n 1, 1) := by decide +kernel
theorem dX9_takesLetter_1 : decode cX9_takesLetter 1 = .ok (.bipush 97, 2) := by decide +kernel
theorem dX9_takesLetter_3 : decode cX9_takesLetter 3 = .ok (.isub, 1) := by decide +kernel
theorem dX9_takesLetter_4 : decode cX9_takesLetter 4 = .ok (.istore_n 2, 1) := by decide +kernel
theorem dX9_takesLetter_5 : decode cX9_takesLetter 5 = .ok (.iload_n 2, 1) := by decide +kernel
theorem dX9_takesLetter_6 : decode cX9_takesLetter 6 = .ok (.aload_n 0, 1) := by decide +kernel
theorem dX9_takesLetter_7 : decode cX9_takesLetter 7 = .ok (.getfield 39, 3) := by decide +kernel
theorem dX9_takesLetter_10 : decode cX9_takesLetter 10 = .ok (.if_icmp .lt 8, 3) := by decide +kernel
theorem dX9_takesLetter_13 : decode cX9_takesLetter 13 = .ok (.iload_n 2, 1) := by decide +kernel
theorem dX9_takesLetter_14 : decode cX9_takesLetter 14 = .ok (.iconst 5, 1) := by decide +kernel
theorem dX9_takesLetter_15 : decode cX9_takesLetter 15 = .ok (.if_icmp .lt 5, 3) := by decide +kernel
theorem dX9_takesLetter_18 : decode cX9_takesLetter 18 = .ok (.iconst 0, 1) := by decide +kernel
theorem dX9_takesLetter_19 : decode cX9_takesLetter 19 = .ok (.ireturn, 1) := by decide +kernel
theorem dX9_takesLetter_20 : decode cX9_takesLetter 20 = .ok (.aload_n 0, 1) := by decide +kernel
theorem dX9_takesLetter_21 : decode cX9_takesLetter 21 = .ok (.getfield 18, 3) := by decide +kernel
theorem dX9_takesLetter_24 : decode cX9_takesLetter 24 = .ok (.aload_n 0, 1) := by decide +kernel
theorem dX9_takesLetter_25 : decode cX9_takesLetter 25 = .ok (.getfield 36, 3) := by decide +kernel
theorem dX9_takesLetter_28 : decode cX9_takesLetter 28 = .ok (.dup2, 1) := by decide +kernel
theorem dX9_takesLetter_29 : decode cX9_takesLetter 29 = .ok (.iaload, 1) := by decide +kernel
theorem dX9_takesLetter_30 : decode cX9_takesLetter 30 = .ok (.aload_n 0, 1) := by decide +kernel
theorem dX9_takesLetter_31 : decode cX9_takesLetter 31 = .ok (.getfield 61, 3) := by decide +kernel
theorem dX9_takesLetter_34 : decode cX9_takesLetter 34 = .ok (.iload_n 2, 1) := by decide +kernel
theorem dX9_takesLetter_35 : decode cX9_takesLetter 35 = .ok (.invokestatic 64, 3) := by decide +kernel
theorem dX9_takesLetter_38 : decode cX9_takesLetter 38 = .ok (.imul, 1) := by decide +kernel
theorem dX9_takesLetter_39 : decode cX9_takesLetter 39 = .ok (.iadd, 1) := by decide +kernel
theorem dX9_takesLetter_40 : decode cX9_takesLetter 40 = .ok (.iastore, 1) := by decide +kernel
theorem dX9_takesLetter_41 : decode cX9_takesLetter 41 = .ok (.aload_n 0, 1) := by decide +kernel
theorem dX9_takesLetter_42 : decode cX9_takesLetter 42 = .ok (.iload_n 2, 1) := by decide +kernel
theorem dX9_takesLetter_43 : decode cX9_takesLetter 43 = .ok (.iconst 1, 1) := by decide +kernel
theorem dX9_takesLetter_44 : decode cX9_takesLetter 44 = .ok (.iadd, 1) := by decide +kernel
theorem dX9_takesLetter_45 : decode cX9_takesLetter 45 = .ok (.putfield 39, 3) := by decide +kernel
theorem dX9_takesLetter_48 : decode cX9_takesLetter 48 = .ok (.aload_n 0, 1) := by decide +kernel
theorem dX9_takesLetter_49 : decode cX9_takesLetter 49 = .ok (.iconst 2, 1) := by decide +kernel
theorem dX9_takesLetter_50 : decode cX9_takesLetter 50 = .ok (.putfield 33, 3) := by decide +kernel
theorem dX9_takesLetter_53 : decode cX9_takesLetter 53 = .ok (.iconst 1, 1) := by decide +kernel
theorem dX9_takesLetter_54 : decode cX9_takesLetter 54 = .ok (.ireturn, 1) := by decide +kernel
theorem dX9_takesEquals_0 : decode cX9_takesEquals 0 = .ok (.aload_n 0, 1) := by decide +kernel
theorem dX9_takesEquals_1 : decode cX9_takesEquals 1 = .ok (.iconst 3, 1) := by decide +kernel
theorem dX9_takesEquals_2 : decode cX9_takesEquals 2 = .ok (.putfield 33, 3) := by decide +kernel
theorem dX9_takesEquals_5 : decode cX9_takesEquals 5 = .ok (.iconst 1, 1) := by decide +kernel
theorem dX9_takesEquals_6 : decode cX9_takesEquals 6 = .ok (.ireturn, 1) := by decide +kernel
theorem dX9_takesDigit_0 : decode cX9_takesDigit 0 = .ok (.iload_n 1, 1) := by decide +kernel
theorem dX9_takesDigit_1 : decode cX9_takesDigit 1 = .ok (.bipush 48, 2) := by decide +kernel
theorem dX9_takesDigit_3 : decode cX9_takesDigit 3 = .ok (.if_icmp .lt 17, 3) := by decide +kernel
theorem dX9_takesDigit_6 : decode cX9_takesDigit 6 = .ok (.iload_n 1, 1) := by decide +kernel
theorem dX9_takesDigit_7 : decode cX9_takesDigit 7 = .ok (.bipush 57, 2) := by decide +kernel
theorem dX9_takesDigit_9 : decode cX9_takesDigit 9 = .ok (.if_icmp .gt 11, 3) := by decide +kernel
theorem dX9_takesDigit_12 : decode cX9_takesDigit 12 = .ok (.aload_n 0, 1) := by decide +kernel
theorem dX9_takesDigit_13 : decode cX9_takesDigit 13 = .ok (.getfield 42, 3) := by decide +kernel
theorem dX9_takesDigit_16 : decode cX9_takesDigit 16 = .ok (.iconst 3, 1) := by decide +kernel
theorem dX9_takesDigit_17 : decode cX9_takesDigit 17 = .ok (.if_icmp .lt 5, 3) := by decide +kernel
theorem dX9_takesDigit_20 : decode cX9_takesDigit 20 = .ok (.iconst 0, 1) := by decide +kernel
theorem dX9_takesDigit_21 : decode cX9_takesDigit 21 = .ok (.ireturn, 1) := by decide +kernel
theorem dX9_takesDigit_22 : decode cX9_takesDigit 22 = .ok (.aload_n 0, 1) := by decide +kernel
theorem dX9_takesDigit_23 : decode cX9_takesDigit 23 = .ok (.getfield 15, 3) := by decide +kernel
theorem dX9_takesDigit_26 : decode cX9_takesDigit 26 = .ok (.aload_n 0, 1) := by decide +kernel
theorem dX9_takesDigit_27 : decode cX9_takesDigit 27 = .ok (.getfield 36, 3) := by decide +kernel
theorem dX9_takesDigit_30 : decode cX9_takesDigit 30 = .ok (.aload_n 0, 1) := by decide +kernel
theorem dX9_takesDigit_31 : decode cX9_takesDigit 31 = .ok (.getfield 15, 3) := by decide +kernel
theorem dX9_takesDigit_34 : decode cX9_takesDigit 34 = .ok (.aload_n 0, 1) := by decide +kernel
theorem dX9_takesDigit_35 : decode cX9_takesDigit 35 = .ok (.getfield 36, 3) := by decide +kernel
theorem dX9_takesDigit_38 : decode cX9_takesDigit 38 = .ok (.iaload, 1) := by decide +kernel
theorem dX9_takesDigit_39 : decode cX9_takesDigit 39 = .ok (.bipush 10, 2) := by decide +kernel
theorem dX9_takesDigit_41 : decode cX9_takesDigit 41 = .ok (.imul, 1) := by decide +kernel
theorem dX9_takesDigit_42 : decode cX9_takesDigit 42 = .ok (.iload_n 1, 1) := by decide +kernel
theorem dX9_takesDigit_43 : decode cX9_takesDigit 43 = .ok (.iadd, 1) := by decide +kernel
theorem dX9_takesDigit_44 : decode cX9_takesDigit 44 = .ok (.bipush 48, 2) := by decide +kernel
theorem dX9_takesDigit_46 : decode cX9_takesDigit 46 = .ok (.isub, 1) := by decide +kernel
theorem dX9_takesDigit_47 : decode cX9_takesDigit 47 = .ok (.iastore, 1) := by decide +kernel
theorem dX9_takesDigit_48 : decode cX9_takesDigit 48 = .ok (.aload_n 0, 1) := by decide +kernel
theorem dX9_takesDigit_49 : decode cX9_takesDigit 49 = .ok (.dup, 1) := by decide +kernel
theorem dX9_takesDigit_50 : decode cX9_takesDigit 50 = .ok (.getfield 42, 3) := by decide +kernel
theorem dX9_takesDigit_53 : decode cX9_takesDigit 53 = .ok (.iconst 1, 1) := by decide +kernel
theorem dX9_takesDigit_54 : decode cX9_takesDigit 54 = .ok (.iadd, 1) := by decide +kernel
theorem dX9_takesDigit_55 : decode cX9_takesDigit 55 = .ok (.putfield 42, 3) := by decide +kernel
theorem dX9_takesDigit_58 : decode cX9_takesDigit 58 = .ok (.aload_n 0, 1) := by decide +kernel
theorem dX9_takesDigit_59 : decode cX9_takesDigit 59 = .ok (.iconst 4, 1) := by decide +kernel
theorem dX9_takesDigit_60 : decode cX9_takesDigit 60 = .ok (.putfield 33, 3) := by decide +kernel
theorem dX9_takesDigit_63 : decode cX9_takesDigit 63 = .ok (.iconst 1, 1) := by decide +kernel
theorem dX9_takesDigit_64 : decode cX9_takesDigit 64 = .ok (.ireturn, 1) := by decide +kernel
theorem dX9_takesBar_0 : decode cX9_takesBar 0 = .ok (.aload_n 0, 1) := by decide +kernel
theorem dX9_takesBar_1 : decode cX9_takesBar 1 = .ok (.getfield 36, 3) := by decide +kernel
theorem dX9_takesBar_4 : decode cX9_takesBar 4 = .ok (.iconst 5, 1) := by decide +kernel
theorem dX9_takesBar_5 : decode cX9_takesBar 5 = .ok (.if_icmp .lt 5, 3) := by decide +kernel
theorem dX9_takesBar_8 : decode cX9_takesBar 8 = .ok (.iconst 0, 1) := by decide +kernel
theorem dX9_takesBar_9 : decode cX9_takesBar 9 = .ok (.ireturn, 1) := by decide +kernel
theorem dX9_takesBar_10 : decode cX9_takesBar 10 = .ok (.aload_n 0, 1) := by decide +kernel
theorem dX9_takesBar_11 : decode cX9_takesBar 11 = .ok (.aload_n 0, 1) := by decide +kernel
theorem dX9_takesBar_12 : decode cX9_takesBar 12 = .ok (.getfield 36, 3) := by decide +kernel
theorem dX9_takesBar_15 : decode cX9_takesBar 15 = .ok (.iconst 1, 1) := by decide +kernel
theorem dX9_takesBar_16 : decode cX9_takesBar 16 = .ok (.iadd, 1) := by decide +kernel
theorem dX9_takesBar_17 : decode cX9_takesBar 17 = .ok (.invokevirtual 21, 3) := by decide +kernel
theorem dX9_takesBar_20 : decode cX9_takesBar 20 = .ok (.iconst 1, 1) := by decide +kernel
theorem dX9_takesBar_21 : decode cX9_takesBar 21 = .ok (.ireturn, 1) := by decide +kernel
theorem dX10_init_0 : decode cX10_init 0 = .ok (.aload_n 0, 1) := by decide +kernel
theorem dX10_init_1 : decode cX10_init 1 = .ok (.invokespecial 1, 3) := by decide +kernel
theorem dX10_init_4 : decode cX10_init 4 = .ok (.aload_n 0, 1) := by decide +kernel
theorem dX10_init_5 : decode cX10_init 5 = .ok (.new 7, 3) := by decide +kernel
theorem dX10_init_8 : decode cX10_init 8 = .ok (.dup, 1) := by decide +kernel
theorem dX10_init_9 : decode cX10_init 9 = .ok (.invokespecial 9, 3) := by decide +kernel
theorem dX10_init_12 : decode cX10_init 12 = .ok (.putfield 10, 3) := by decide +kernel
theorem dX10_init_15 : decode cX10_init 15 = .ok (.aload_n 0, 1) := by decide +kernel
theorem dX10_init_16 : decode cX10_init 16 = .ok (.new 16, 3) := by decide +kernel
theorem dX10_init_19 : decode cX10_init 19 = .ok (.dup, 1) := by decide +kernel
theorem dX10_init_20 : decode cX10_init 20 = .ok (.invokespecial 18, 3) := by decide +kernel
theorem dX10_init_23 : decode cX10_init 23 = .ok (.putfield 19, 3) := by decide +kernel
theorem dX10_init_26 : decode cX10_init 26 = .ok (.aload_n 0, 1) := by decide +kernel
theorem dX10_init_27 : decode cX10_init 27 = .ok (.new 23, 3) := by decide +kernel
theorem dX10_init_30 : decode cX10_init 30 = .ok (.dup, 1) := by decide +kernel
theorem dX10_init_31 : decode cX10_init 31 = .ok (.aload_n 0, 1) := by decide +kernel
theorem dX10_init_32 : decode cX10_init 32 = .ok (.getfield 10, 3) := by decide +kernel
theorem dX10_init_35 : decode cX10_init 35 = .ok (.invokespecial 25, 3) := by decide +kernel
theorem dX10_init_38 : decode cX10_init 38 = .ok (.putfield 28, 3) := by decide +kernel
theorem dX10_init_41 : decode cX10_init 41 = .ok (.aload_n 0, 1) := by decide +kernel
theorem dX10_init_42 : decode cX10_init 42 = .ok (.new 32, 3) := by decide +kernel
theorem dX10_init_45 : decode cX10_init 45 = .ok (.dup, 1) := by decide +kernel
theorem dX10_init_46 : decode cX10_init 46 = .ok (.aload_n 0, 1) := by decide +kernel
theorem dX10_init_47 : decode cX10_init 47 = .ok (.getfield 10, 3) := by decide +kernel
theorem dX10_init_50 : decode cX10_init 50 = .ok (.invokespecial 34, 3) := by decide +kernel
theorem dX10_init_53 : decode cX10_init 53 = .ok (.putfield 35, 3) := by decide +kernel
theorem dX10_init_56 : decode cX10_init 56 = .ok (.aload_n 0, 1) := by decide +kernel
theorem dX10_init_57 : decode cX10_init 57 = .ok (.new 39, 3) := by decide +kernel
theorem dX10_init_60 : decode cX10_init 60 = .ok (.dup, 1) := by decide +kernel
theorem dX10_init_61 : decode cX10_init 61 = .ok (.aload_n 0, 1) := by decide +kernel
theorem dX10_init_62 : decode cX10_init 62 = .ok (.getfield 10, 3) := by decide +kernel
theorem dX10_init_65 : decode cX10_init 65 = .ok (.invokespecial 41, 3) := by decide +kernel
theorem dX10_init_68 : decode cX10_init 68 = .ok (.putfield 42, 3) := by decide +kernel
theorem dX10_init_71 : decode cX10_init 71 = .ok (.aload_n 0, 1) := by decide +kernel
theorem dX10_init_72 : decode cX10_init 72 = .ok (.new 39, 3) := by decide +kernel
theorem dX10_init_75 : decode cX10_init 75 = .ok (.dup, 1) := by decide +kernel
theorem dX10_init_76 : decode cX10_init 76 = .ok (.aload_n 0, 1) := by decide +kernel
theorem dX10_init_77 : decode cX10_init 77 = .ok (.getfield 10, 3) := by decide +kernel
theorem dX10_init_80 : decode cX10_init 80 = .ok (.invokespecial 41, 3) := by decide +kernel
theorem dX10_init_83 : decode cX10_init 83 = .ok (.putfield 46, 3) := by decide +kernel
theorem dX10_init_86 : decode cX10_init 86 = .ok (.aload_n 0, 1) := by decide +kernel
theorem dX10_init_87 : decode cX10_init 87 = .ok (.new 49, 3) := by decide +kernel
theorem dX10_init_90 : decode cX10_init 90 = .ok (.dup, 1) := by decide +kernel
theorem dX10_init_91 : decode cX10_init 91 = .ok (.aload_n 0, 1) := by decide +kernel
theorem dX10_init_92 : decode cX10_init 92 = .ok (.getfield 10, 3) := by decide +kernel
theorem dX10_init_95 : decode cX10_init 95 = .ok (.aload_n 0, 1) := by decide +kernel
theorem dX10_init_96 : decode cX10_init 96 = .ok (.getfield 28, 3) := by decide +kernel
theorem dX10_init_99 : decode cX10_init 99 = .ok (.invokespecial 51, 3) := by decide +kernel
theorem dX10_init_102 : decode cX10_init 102 = .ok (.putfield 54, 3) := by decide +kernel
theorem dX10_init_105 : decode cX10_init 105 = .ok (.aload_n 0, 1) := by decide +kernel
theorem dX10_init_106 : decode cX10_init 106 = .ok (.new 58, 3) := by decide +kernel
theorem dX10_init_109 : decode cX10_init 109 = .ok (.dup, 1) := by decide +kernel
theorem dX10_init_110 : decode cX10_init 110 = .ok (.aload_n 0, 1) := by decide +kernel
theorem dX10_init_111 : decode cX10_init 111 = .ok (.getfield 10, 3) := by decide +kernel
theorem dX10_init_114 : decode cX10_init 114 = .ok (.aload_n 0, 1) := by decide +kernel
theorem dX10_init_115 : decode cX10_init 115 = .ok (.getfield 35, 3) := by decide +kernel
theorem dX10_init_118 : decode cX10_init 118 = .ok (.aload_n 0, 1) := by decide +kernel
theorem dX10_init_119 : decode cX10_init 119 = .ok (.getfield 46, 3) := by decide +kernel
theorem dX10_init_122 : decode cX10_init 122 = .ok (.invokespecial 60, 3) := by decide +kernel
theorem dX10_init_125 : decode cX10_init 125 = .ok (.putfield 63, 3) := by decide +kernel
theorem dX10_init_128 : decode cX10_init 128 = .ok (.aload_n 0, 1) := by decide +kernel
theorem dX10_init_129 : decode cX10_init 129 = .ok (.new 67, 3) := by decide +kernel
theorem dX10_init_132 : decode cX10_init 132 = .ok (.dup, 1) := by decide +kernel
theorem dX10_init_133 : decode cX10_init 133 = .ok (.aload_n 0, 1) := by decide +kernel
theorem dX10_init_134 : decode cX10_init 134 = .ok (.getfield 28, 3) := by decide +kernel
theorem dX10_init_137 : decode cX10_init 137 = .ok (.invokespecial 69, 3) := by decide +kernel
theorem dX10_init_140 : decode cX10_init 140 = .ok (.putfield 72, 3) := by decide +kernel
theorem dX10_init_143 : decode cX10_init 143 = .ok (.return_, 1) := by decide +kernel
theorem dX10_lot_0 : decode cX10_lot 0 = .ok (.iload_n 1, 1) := by decide +kernel
theorem dX10_lot_1 : decode cX10_lot 1 = .ok (.iconst 0, 1) := by decide +kernel
theorem dX10_lot_2 : decode cX10_lot 2 = .ok (.iconst 4, 1) := by decide +kernel
theorem dX10_lot_3 : decode cX10_lot 3 = .ok (.invokestatic 76, 3) := by decide +kernel
theorem dX10_lot_6 : decode cX10_lot 6 = .ok (.ifCond .ne 23, 3) := by decide +kernel
theorem dX10_lot_9 : decode cX10_lot 9 = .ok (.iload_n 2, 1) := by decide +kernel
theorem dX10_lot_10 : decode cX10_lot 10 = .ok (.iconst 0, 1) := by decide +kernel
theorem dX10_lot_11 : decode cX10_lot 11 = .ok (.iconst 2, 1) := by decide +kernel
theorem dX10_lot_12 : decode cX10_lot 12 = .ok (.invokestatic 76, 3) := by decide +kernel
theorem dX10_lot_15 : decode cX10_lot 15 = .ok (.ifCond .ne 14, 3) := by decide +kernel
theorem dX10_lot_18 : decode cX10_lot 18 = .ok (.iload_n 3, 1) := by decide +kernel
theorem dX10_lot_19 : decode cX10_lot 19 = .ok (.iconst 0, 1) := by decide +kernel
theorem dX10_lot_20 : decode cX10_lot 20 = .ok (.sipush 200, 3) := by decide +kernel
theorem dX10_lot_23 : decode cX10_lot 23 = .ok (.invokestatic 76, 3) := by decide +kernel
theorem dX10_lot_26 : decode cX10_lot 26 = .ok (.ifCond .eq 6, 3) := by decide +kernel
theorem dX10_lot_29 : decode cX10_lot 29 = .ok (.bipush (-2), 2) := by decide +kernel
theorem dX10_lot_31 : decode cX10_lot 31 = .ok (.ireturn, 1) := by decide +kernel
theorem dX10_lot_32 : decode cX10_lot 32 = .ok (.aload_n 0, 1) := by decide +kernel
theorem dX10_lot_33 : decode cX10_lot 33 = .ok (.getfield 10, 3) := by decide +kernel
theorem dX10_lot_36 : decode cX10_lot 36 = .ok (.getfield 80, 3) := by decide +kernel
theorem dX10_lot_39 : decode cX10_lot 39 = .ok (.bipush 8, 2) := by decide +kernel
theorem dX10_lot_41 : decode cX10_lot 41 = .ok (.if_icmp .lt 6, 3) := by decide +kernel
theorem dX10_lot_44 : decode cX10_lot 44 = .ok (.bipush (-4), 2) := by decide +kernel
theorem dX10_lot_46 : decode cX10_lot 46 = .ok (.ireturn, 1) := by decide +kernel
theorem dX10_lot_47 : decode cX10_lot 47 = .ok (.aload_n 0, 1) := by decide +kernel
theorem dX10_lot_48 : decode cX10_lot 48 = .ok (.invokevirtual 84, 3) := by decide +kernel
theorem dX10_lot_51 : decode cX10_lot 51 = .ok (.aload_n 0, 1) := by decide +kernel
theorem dX10_lot_52 : decode cX10_lot 52 = .ok (.getfield 10, 3) := by decide +kernel
theorem dX10_lot_55 : decode cX10_lot 55 = .ok (.iload_n 1, 1) := by decide +kernel
theorem dX10_lot_56 : decode cX10_lot 56 = .ok (.iload_n 2, 1) := by decide +kernel
theorem dX10_lot_57 : decode cX10_lot 57 = .ok (.iload_n 3, 1) := by decide +kernel
theorem dX10_lot_58 : decode cX10_lot 58 = .ok (.invokevirtual 87, 3) := by decide +kernel
theorem dX10_lot_61 : decode cX10_lot 61 = .ok (.ireturn, 1) := by decide +kernel
theorem dX10_buyer_0 : decode cX10_buyer 0 = .ok (.aload_n 0, 1) := by decide +kernel
theorem dX10_buyer_1 : decode cX10_buyer 1 = .ok (.getfield 10, 3) := by decide +kernel
theorem dX10_buyer_4 : decode cX10_buyer 4 = .ok (.getfield 91, 3) := by decide +kernel
theorem dX10_buyer_7 : decode cX10_buyer 7 = .ok (.bipush 6, 2) := by decide +kernel
theorem dX10_buyer_9 : decode cX10_buyer 9 = .ok (.if_icmp .lt 6, 3) := by decide +kernel
theorem dX10_buyer_12 : decode cX10_buyer 12 = .ok (.bipush (-4), 2) := by decide +kernel
theorem dX10_buyer_14 : decode cX10_buyer 14 = .ok (.ireturn, 1) := by decide +kernel
theorem dX10_buyer_15 : decode cX10_buyer 15 = .ok (.aload_n 0, 1) := by decide +kernel
theorem dX10_buyer_16 : decode cX10_buyer 16 = .ok (.invokevirtual 84, 3) := by decide +kernel
theorem dX10_buyer_19 : decode cX10_buyer 19 = .ok (.aload_n 0, 1) := by decide +kernel
theorem dX10_buyer_20 : decode cX10_buyer 20 = .ok (.getfield 10, 3) := by decide +kernel
theorem dX10_buyer_23 : decode cX10_buyer 23 = .ok (.dup, 1) := by decide +kernel
theorem dX10_buyer_24 : decode cX10_buyer 24 = .ok (.getfield 91, 3) := by decide +kernel
theorem dX10_buyer_27 : decode cX10_buyer 27 = .ok (.iconst 1, 1) := by decide +kernel
theorem dX10_buyer_28 : decode cX10_buyer 28 = .ok (.iadd, 1) := by decide +kernel
theorem dX10_buyer_29 : decode cX10_buyer 29 = .ok (.putfield 91, 3) := by decide +kernel
theorem dX10_buyer_32 : decode cX10_buyer 32 = .ok (.aload_n 0, 1) := by decide +kernel
theorem dX10_buyer_33 : decode cX10_buyer 33 = .ok (.getfield 10, 3) := by decide +kernel
theorem dX10_buyer_36 : decode cX10_buyer 36 = .ok (.getfield 91, 3) := by decide +kernel
theorem dX10_buyer_39 : decode cX10_buyer 39 = .ok (.iconst 1, 1) := by decide +kernel
theorem dX10_buyer_40 : decode cX10_buyer 40 = .ok (.isub, 1) := by decide +kernel
theorem dX10_buyer_41 : decode cX10_buyer 41 = .ok (.ireturn, 1) := by decide +kernel
theorem dX10_set_0 : decode cX10_set 0 = .ok (.aload_n 0, 1) := by decide +kernel
theorem dX10_set_1 : decode cX10_set 1 = .ok (.getfield 10, 3) := by decide +kernel
theorem dX10_set_4 : decode cX10_set 4 = .ok (.iload_n 1, 1) := by decide +kernel
theorem dX10_set_5 : decode cX10_set 5 = .ok (.invokevirtual 94, 3) := by decide +kernel
theorem dX10_set_8 : decode cX10_set 8 = .ok (.ifCond .ne 5, 3) := by decide +kernel
theorem dX10_set_11 : decode cX10_set 11 = .ok (.iconst (-1), 1) := by decide +kernel
theorem dX10_set_12 : decode cX10_set 12 = .ok (.ireturn, 1) := by decide +kernel
theorem dX10_set_13 : decode cX10_set 13 = .ok (.iload_n 2, 1) := by decide +kernel
theorem dX10_set_14 : decode cX10_set 14 = .ok (.iconst 0, 1) := by decide +kernel
theorem dX10_set_15 : decode cX10_set 15 = .ok (.iconst 2, 1) := by decide +kernel
theorem dX10_set_16 : decode cX10_set 16 = .ok (.invokestatic 76, 3) := by decide +kernel
theorem dX10_set_19 : decode cX10_set 19 = .ok (.ifCond .ne 15, 3) := by decide +kernel
theorem dX10_set_22 : decode cX10_set 22 = .ok (.iload_n 3, 1) := by decide +kernel
theorem dX10_set_23 : decode cX10_set 23 = .ok (.iconst 0, 1) := by decide +kernel
theorem dX10_set_24 : decode cX10_set 24 = .ok (.iload_n 2, 1) := by decide +kernel
theorem dX10_set_25 : decode cX10_set 25 = .ok (.invokestatic 98, 3) := by decide +kernel
theorem dX10_set_28 : decode cX10_set 28 = .ok (.invokestatic 76, 3) := by decide +kernel
theorem dX10_set_31 : decode cX10_set 31 = .ok (.ifCond .eq 6, 3) := by decide +kernel
theorem dX10_set_34 : decode cX10_set 34 = .ok (.bipush (-2), 2) := by decide +kernel
theorem dX10_set_36 : decode cX10_set 36 = .ok (.ireturn, 1) := by decide +kernel
theorem dX10_set_37 : decode cX10_set 37 = .ok (.aload_n 0, 1) := by decide +kernel
theorem dX10_set_38 : decode cX10_set 38 = .ok (.invokevirtual 84, 3) := by decide +kernel
theorem dX10_set_41 : decode cX10_set 41 = .ok (.aload_n 0, 1) := by decide +kernel
theorem dX10_set_42 : decode cX10_set 42 = .ok (.getfield 10, 3) := by decide +kernel
theorem dX10_set_45 : decode cX10_set 45 = .ok (.getfield 104, 3) := by decide +kernel
theorem dX10_set_48 : decode cX10_set 48 = .ok (.iload_n 1, 1) := by decide +kernel
theorem dX10_set_49 : decode cX10_set 49 = .ok (.aaload, 1) := by decide +kernel
theorem dX10_set_50 : decode cX10_set 50 = .ok (.iload_n 2, 1) := by decide +kernel
theorem dX10_set_51 : decode cX10_set 51 = .ok (.iload_n 3, 1) := by decide +kernel
theorem dX10_set_52 : decode cX10_set 52 = .ok (.invokevirtual 108, 3) := by decide +kernel
theorem dX10_set_55 : decode cX10_set 55 = .ok (.ireturn, 1) := by decide +kernel
theorem dX10_say_0 : decode cX10_say 0 = .ok (.iload_n 1, 1) := by decide +kernel
theorem dX10_say_1 : decode cX10_say 1 = .ok (.bipush 33, 2) := by decide +kernel
theorem dX10_say_3 : decode cX10_say 3 = .ok (.bipush 126, 2) := by decide +kernel
theorem dX10_say_5 : decode cX10_say 5 = .ok (.invokestatic 76, 3) := by decide +kernel
theorem dX10_say_8 : decode cX10_say 8 = .ok (.ifCond .eq 6, 3) := by decide +kernel
theorem dX10_say_11 : decode cX10_say 11 = .ok (.bipush (-2), 2) := by decide +kernel
theorem dX10_say_13 : decode cX10_say 13 = .ok (.ireturn, 1) := by decide +kernel
theorem dX10_say_14 : decode cX10_say 14 = .ok (.aload_n 0, 1) := by decide +kernel
theorem dX10_say_15 : decode cX10_say 15 = .ok (.getfield 19, 3) := by decide +kernel
theorem dX10_say_18 : decode cX10_say 18 = .ok (.getfield 112, 3) := by decide +kernel
theorem dX10_say_21 : decode cX10_say 21 = .ok (.bipush 50, 2) := by decide +kernel
theorem dX10_say_23 : decode cX10_say 23 = .ok (.if_icmp .lt 6, 3) := by decide +kernel
theorem dX10_say_26 : decode cX10_say 26 = .ok (.bipush (-4), 2) := by decide +kernel
theorem dX10_say_28 : decode cX10_say 28 = .ok (.ireturn, 1) := by decide +kernel
theorem dX10_say_29 : decode cX10_say 29 = .ok (.aload_n 0, 1) := by decide +kernel
theorem dX10_say_30 : decode cX10_say 30 = .ok (.getfield 19, 3) := by decide +kernel
theorem dX10_say_33 : decode cX10_say 33 = .ok (.getfield 113, 3) := by decide +kernel
theorem dX10_say_36 : decode cX10_say 36 = .ok (.aload_n 0, 1) := by decide +kernel
theorem dX10_say_37 : decode cX10_say 37 = .ok (.getfield 19, 3) := by decide +kernel
theorem dX10_say_40 : decode cX10_say 40 = .ok (.getfield 112, 3) := by decide +kernel
theorem dX10_say_43 : decode cX10_say 43 = .ok (.iload_n 1, 1) := by decide +kernel
theorem dX10_say_44 : decode cX10_say 44 = .ok (.iastore, 1) := by decide +kernel
theorem dX10_say_45 : decode cX10_say 45 = .ok (.aload_n 0, 1) := by decide +kernel
theorem dX10_say_46 : decode cX10_say 46 = .ok (.getfield 19, 3) := by decide +kernel
theorem dX10_say_49 : decode cX10_say 49 = .ok (.dup, 1) := by decide +kernel
theorem dX10_say_50 : decode cX10_say 50 = .ok (.getfield 112, 3) := by decide +kernel
theorem dX10_say_53 : decode cX10_say 53 = .ok (.iconst 1, 1) := by decide +kernel
theorem dX10_say_54 : decode cX10_say 54 = .ok (.iadd, 1) := by decide +kernel
theorem dX10_say_55 : decode cX10_say 55 = .ok (.putfield 112, 3) := by decide +kernel
theorem dX10_say_58 : decode cX10_say 58 = .ok (.aload_n 0, 1) := by decide +kernel
theorem dX10_say_59 : decode cX10_say 59 = .ok (.getfield 19, 3) := by decide +kernel
theorem dX10_say_62 : decode cX10_say 62 = .ok (.getfield 112, 3) := by decide +kernel
theorem dX10_say_65 : decode cX10_say 65 = .ok (.ireturn, 1) := by decide +kernel
theorem dX10_wipe_0 : decode cX10_wipe 0 = .ok (.aload_n 0, 1) := by decide +kernel
theorem dX10_wipe_1 : decode cX10_wipe 1 = .ok (.getfield 19, 3) := by decide +kernel
theorem dX10_wipe_4 : decode cX10_wipe 4 = .ok (.getfield 112, 3) := by decide +kernel
theorem dX10_wipe_7 : decode cX10_wipe 7 = .ok (.istore_n 1, 1) := by decide +kernel
theorem dX10_wipe_8 : decode cX10_wipe 8 = .ok (.aload_n 0, 1) := by decide +kernel
theorem dX10_wipe_9 : decode cX10_wipe 9 = .ok (.getfield 19, 3) := by decide +kernel
theorem dX10_wipe_12 : decode cX10_wipe 12 = .ok (.iconst 0, 1) := by decide +kernel
theorem dX10_wipe_13 : decode cX10_wipe 13 = .ok (.putfield 112, 3) := by decide +kernel
theorem dX10_wipe_16 : decode cX10_wipe 16 = .ok (.iload_n 1, 1) := by decide +kernel
theorem dX10_wipe_17 : decode cX10_wipe 17 = .ok (.ireturn, 1) := by decide +kernel
theorem dX10_fault_0 : decode cX10_fault 0 = .ok (.aload_n 0, 1) := by decide +kernel
theorem dX10_fault_1 : decode cX10_fault 1 = .ok (.getfield 19, 3) := by decide +kernel
theorem dX10_fault_4 : decode cX10_fault 4 = .ok (.invokevirtual 117, 3) := by decide +kernel
theorem dX10_fault_7 : decode cX10_fault 7 = .ok (.ireturn, 1) := by decide +kernel
theorem dX10_wish_0 : decode cX10_wish 0 = .ok (.aload_n 0, 1) := by decide +kernel
theorem dX10_wish_1 : decode cX10_wish 1 = .ok (.getfield 10, 3) := by decide +kernel
theorem dX10_wish_4 : decode cX10_wish 4 = .ok (.iload_n 1, 1) := by decide +kernel
theorem dX10_wish_5 : decode cX10_wish 5 = .ok (.invokevirtual 94, 3) := by decide +kernel
theorem dX10_wish_8 : decode cX10_wish 8 = .ok (.ifCond .ne 5, 3) := by decide +kernel
theorem dX10_wish_11 : decode cX10_wish 11 = .ok (.iconst (-1), 1) := by decide +kernel
theorem dX10_wish_12 : decode cX10_wish 12 = .ok (.ireturn, 1) := by decide +kernel
theorem dX10_wish_13 : decode cX10_wish 13 = .ok (.aload_n 0, 1) := by decide +kernel
theorem dX10_wish_14 : decode cX10_wish 14 = .ok (.getfield 19, 3) := by decide +kernel
theorem dX10_wish_17 : decode cX10_wish 17 = .ok (.invokevirtual 117, 3) := by decide +kernel
theorem dX10_wish_20 : decode cX10_wish 20 = .ok (.bipush (-6), 2) := by decide +kernel
theorem dX10_wish_22 : decode cX10_wish 22 = .ok (.if_icmp .eq 6, 3) := by decide +kernel
theorem dX10_wish_25 : decode cX10_wish 25 = .ok (.bipush (-5), 2) := by decide +kernel
theorem dX10_wish_27 : decode cX10_wish 27 = .ok (.ireturn, 1) := by decide +kernel
theorem dX10_wish_28 : decode cX10_wish 28 = .ok (.aload_n 0, 1) := by decide +kernel
theorem dX10_wish_29 : decode cX10_wish 29 = .ok (.invokevirtual 84, 3) := by decide +kernel
theorem dX10_wish_32 : decode cX10_wish 32 = .ok (.aload_n 0, 1) := by decide +kernel
theorem dX10_wish_33 : decode cX10_wish 33 = .ok (.getfield 10, 3) := by decide +kernel
theorem dX10_wish_36 : decode cX10_wish 36 = .ok (.getfield 104, 3) := by decide +kernel
theorem dX10_wish_39 : decode cX10_wish 39 = .ok (.iload_n 1, 1) := by decide +kernel
theorem dX10_wish_40 : decode cX10_wish 40 = .ok (.aaload, 1) := by decide +kernel
theorem dX10_wish_41 : decode cX10_wish 41 = .ok (.aload_n 0, 1) := by decide +kernel
theorem dX10_wish_42 : decode cX10_wish 42 = .ok (.getfield 19, 3) := by decide +kernel
theorem dX10_wish_45 : decode cX10_wish 45 = .ok (.invokevirtual 121, 3) := by decide +kernel
theorem dX10_wish_48 : decode cX10_wish 48 = .ok (.aload_n 0, 1) := by decide +kernel
theorem dX10_wish_49 : decode cX10_wish 49 = .ok (.getfield 19, 3) := by decide +kernel
theorem dX10_wish_52 : decode cX10_wish 52 = .ok (.iconst 0, 1) := by decide +kernel
theorem dX10_wish_53 : decode cX10_wish 53 = .ok (.putfield 112, 3) := by decide +kernel
theorem dX10_wish_56 : decode cX10_wish 56 = .ok (.aload_n 0, 1) := by decide +kernel
theorem dX10_wish_57 : decode cX10_wish 57 = .ok (.getfield 10, 3) := by decide +kernel
theorem dX10_wish_60 : decode cX10_wish 60 = .ok (.getfield 104, 3) := by decide +kernel
theorem dX10_wish_63 : decode cX10_wish 63 = .ok (.iload_n 1, 1) := by decide +kernel
theorem dX10_wish_64 : decode cX10_wish 64 = .ok (.aaload, 1) := by decide +kernel
theorem dX10_wish_65 : decode cX10_wish 65 = .ok (.getfield 125, 3) := by decide +kernel
theorem dX10_wish_68 : decode cX10_wish 68 = .ok (.ireturn, 1) := by decide +kernel
theorem dX10_alternative_0 : decode cX10_alternative 0 = .ok (.aload_n 0, 1) := by decide +kernel
theorem dX10_alternative_1 : decode cX10_alternative 1 = .ok (.getfield 10, 3) := by decide +kernel
theorem dX10_alternative_4 : decode cX10_alternative 4 = .ok (.iload_n 1, 1) := by decide +kernel
theorem dX10_alternative_5 : decode cX10_alternative 5 = .ok (.invokevirtual 94, 3) := by decide +kernel
theorem dX10_alternative_8 : decode cX10_alternative 8 = .ok (.ifCond .eq 25, 3) := by decide +kernel
theorem dX10_alternative_11 : decode cX10_alternative 11 = .ok (.iload_n 2, 1) := by decide +kernel
theorem dX10_alternative_12 : decode cX10_alternative 12 = .ok (.iconst 0, 1) := by decide +kernel
theorem dX10_alternative_13 : decode cX10_alternative 13 = .ok (.aload_n 0, 1) := by decide +kernel
theorem dX10_alternative_14 : decode cX10_alternative 14 = .ok (.getfield 10, 3) := by decide +kernel
theorem dX10_alternative_17 : decode cX10_alternative 17 = .ok (.getfield 104, 3) := by decide +kernel
theorem dX10_alternative_20 : decode cX10_alternative 20 = .ok (.iload_n 1, 1) := by decide +kernel
theorem dX10_alternative_21 : decode cX10_alternative 21 = .ok (.aaload, 1) := by decide +kernel
theorem dX10_alternative_22 : decode cX10_alternative 22 = .ok (.getfield 125, 3) := by decide +kernel
theorem dX10_alternative_25 : decode cX10_alternative 25 = .ok (.iconst 1, 1) := by decide +kernel
theorem dX10_alternative_26 : decode cX10_alternative 26 = .ok (.isub, 1) := by decide +kernel
theorem dX10_alternative_27 : decode cX10_alternative 27 = .ok (.invokestatic 76, 3) := by decide +kernel
theorem dX10_alternative_30 : decode cX10_alternative 30 = .ok (.ifCond .eq 5, 3) := by decide +kernel
theorem dX10_alternative_33 : decode cX10_alternative 33 = .ok (.iconst (-1), 1) := by decide +kernel
theorem dX10_alternative_34 : decode cX10_alternative 34 = .ok (.ireturn, 1) := by decide +kernel
theorem dX10_alternative_35 : decode cX10_alternative 35 = .ok (.iload_n 3, 1) := by decide +kernel
theorem dX10_alternative_36 : decode cX10_alternative 36 = .ok (.iconst 0, 1) := by decide +kernel
theorem dX10_alternative_37 : decode cX10_alternative 37 = .ok (.iconst 5, 1) := by decide +kernel
theorem dX10_alternative_38 : decode cX10_alternative 38 = .ok (.invokestatic 76, 3) := by decide +kernel
theorem dX10_alternative_41 : decode cX10_alternative 41 = .ok (.ifCond .eq 6, 3) := by decide +kernel
theorem dX10_alternative_44 : decode cX10_alternative 44 = .ok (.bipush (-2), 2) := by decide +kernel
theorem dX10_alternative_46 : decode cX10_alternative 46 = .ok (.ireturn, 1) := by decide +kernel
theorem dX10_alternative_47 : decode cX10_alternative 47 = .ok (.aload_n 0, 1) := by decide +kernel
theorem dX10_alternative_48 : decode cX10_alternative 48 = .ok (.getfield 10, 3) := by decide +kernel
theorem dX10_alternative_51 : decode cX10_alternative 51 = .ok (.getfield 104, 3) := by decide +kernel
theorem dX10_alternative_54 : decode cX10_alternative 54 = .ok (.iload_n 1, 1) := by decide +kernel
theorem dX10_alternative_55 : decode cX10_alternative 55 = .ok (.aaload, 1) := by decide +kernel
theorem dX10_alternative_56 : decode cX10_alternative 56 = .ok (.astore 4, 2) := by decide +kernel
theorem dX10_alternative_58 : decode cX10_alternative 58 = .ok (.iload_n 3, 1) := by decide +kernel
theorem dX10_alternative_59 : decode cX10_alternative 59 = .ok (.ifCond .ne 13, 3) := by decide +kernel
theorem dX10_alternative_62 : decode cX10_alternative 62 = .ok (.aload 4, 2) := by decide +kernel
theorem dX10_alternative_64 : decode cX10_alternative 64 = .ok (.getfield 128, 3) := by decide +kernel
theorem dX10_alternative_67 : decode cX10_alternative 67 = .ok (.iload_n 2, 1) := by decide +kernel
theorem dX10_alternative_68 : decode cX10_alternative 68 = .ok (.iaload, 1) := by decide +kernel
theorem dX10_alternative_69 : decode cX10_alternative 69 = .ok (.goto 16, 3) := by decide +kernel
theorem dX10_alternative_72 : decode cX10_alternative 72 = .ok (.aload 4, 2) := by decide +kernel
theorem dX10_alternative_74 : decode cX10_alternative 74 = .ok (.getfield 131, 3) := by decide +kernel
theorem dX10_alternative_77 : decode cX10_alternative 77 = .ok (.iload_n 2, 1) := by decide +kernel
theorem dX10_alternative_78 : decode cX10_alternative 78 = .ok (.iaload, 1) := by decide +kernel
theorem dX10_alternative_79 : decode cX10_alternative 79 = .ok (.iload_n 3, 1) := by decide +kernel
theorem dX10_alternative_80 : decode cX10_alternative 80 = .ok (.iconst 1, 1) := by decide +kernel
theorem dX10_alternative_81 : decode cX10_alternative 81 = .ok (.isub, 1) := by decide +kernel
theorem dX10_alternative_82 : decode cX10_alternative 82 = .ok (.invokestatic 134, 3) := by decide +kernel
theorem dX10_alternative_85 : decode cX10_alternative 85 = .ok (.ireturn, 1) := by decide +kernel
theorem dX10_leave_0 : decode cX10_leave 0 = .ok (.aload_n 0, 1) := by decide +kernel
theorem dX10_leave_1 : decode cX10_leave 1 = .ok (.getfield 10, 3) := by decide +kernel
theorem dX10_leave_4 : decode cX10_leave 4 = .ok (.iload_n 1, 1) := by decide +kernel
theorem dX10_leave_5 : decode cX10_leave 5 = .ok (.invokevirtual 94, 3) := by decide +kernel
theorem dX10_leave_8 : decode cX10_leave 8 = .ok (.ifCond .ne 5, 3) := by decide +kernel
theorem dX10_leave_11 : decode cX10_leave 11 = .ok (.iconst (-1), 1) := by decide +kernel
theorem dX10_leave_12 : decode cX10_leave 12 = .ok (.ireturn, 1) := by decide +kernel
theorem dX10_leave_13 : decode cX10_leave 13 = .ok (.aload_n 0, 1) := by decide +kernel
theorem dX10_leave_14 : decode cX10_leave 14 = .ok (.getfield 10, 3) := by decide +kernel
theorem dX10_leave_17 : decode cX10_leave 17 = .ok (.getfield 104, 3) := by decide +kernel
theorem dX10_leave_20 : decode cX10_leave 20 = .ok (.iload_n 1, 1) := by decide +kernel
theorem dX10_leave_21 : decode cX10_leave 21 = .ok (.aaload, 1) := by decide +kernel
theorem dX10_leave_22 : decode cX10_leave 22 = .ok (.astore_n 3, 1) := by decide +kernel
theorem dX10_leave_23 : decode cX10_leave 23 = .ok (.iload_n 2, 1) := by decide +kernel
theorem dX10_leave_24 : decode cX10_leave 24 = .ok (.iconst 0, 1) := by decide +kernel
theorem dX10_leave_25 : decode cX10_leave 25 = .ok (.iconst 1, 1) := by decide +kernel
theorem dX10_leave_26 : decode cX10_leave 26 = .ok (.aload_n 3, 1) := by decide +kernel
theorem dX10_leave_27 : decode cX10_leave 27 = .ok (.getfield 125, 3) := by decide +kernel
theorem dX10_leave_30 : decode cX10_leave 30 = .ok (.ishl, 1) := by decide +kernel
theorem dX10_leave_31 : decode cX10_leave 31 = .ok (.iconst 1, 1) := by decide +kernel
theorem dX10_leave_32 : decode cX10_leave 32 = .ok (.isub, 1) := by decide +kernel
theorem dX10_leave_33 : decode cX10_leave 33 = .ok (.invokestatic 76, 3) := by decide +kernel
theorem dX10_leave_36 : decode cX10_leave 36 = .ok (.ifCond .eq 6, 3) := by decide +kernel
theorem dX10_leave_39 : decode cX10_leave 39 = .ok (.bipush (-2), 2) := by decide +kernel
theorem dX10_leave_41 : decode cX10_leave 41 = .ok (.ireturn, 1) := by decide +kernel
theorem dX10_leave_42 : decode cX10_leave 42 = .ok (.aload_n 0, 1) := by decide +kernel
theorem dX10_leave_43 : decode cX10_leave 43 = .ok (.invokevirtual 84, 3) := by decide +kernel
theorem dX10_leave_46 : decode cX10_leave 46 = .ok (.aload_n 3, 1) := by decide +kernel
theorem dX10_leave_47 : decode cX10_leave 47 = .ok (.getfield 139, 3) := by decide +kernel
theorem dX10_leave_50 : decode cX10_leave 50 = .ok (.istore 4, 2) := by decide +kernel
theorem dX10_leave_52 : decode cX10_leave 52 = .ok (.aload_n 3, 1) := by decide +kernel
theorem dX10_leave_53 : decode cX10_leave 53 = .ok (.iload_n 2, 1) := by decide +kernel
theorem dX10_leave_54 : decode cX10_leave 54 = .ok (.putfield 139, 3) := by decide +kernel
theorem dX10_leave_57 : decode cX10_leave 57 = .ok (.iload 4, 2) := by decide +kernel
theorem dX10_leave_59 : decode cX10_leave 59 = .ok (.ireturn, 1) := by decide +kernel
theorem dX10_worth_0 : decode cX10_worth 0 = .ok (.aload_n 0, 1) := by decide +kernel
theorem dX10_worth_1 : decode cX10_worth 1 = .ok (.getfield 10, 3) := by decide +kernel
theorem dX10_worth_4 : decode cX10_worth 4 = .ok (.iload_n 1, 1) := by decide +kernel
theorem dX10_worth_5 : decode cX10_worth 5 = .ok (.invokevirtual 94, 3) := by decide +kernel
theorem dX10_worth_8 : decode cX10_worth 8 = .ok (.ifCond .ne 5, 3) := by decide +kernel
theorem dX10_worth_11 : decode cX10_worth 11 = .ok (.iconst (-1), 1) := by decide +kernel
theorem dX10_worth_12 : decode cX10_worth 12 = .ok (.ireturn, 1) := by decide +kernel
theorem dX10_worth_13 : decode cX10_worth 13 = .ok (.iload_n 2, 1) := by decide +kernel
theorem dX10_worth_14 : decode cX10_worth 14 = .ok (.iconst 0, 1) := by decide +kernel
theorem dX10_worth_15 : decode cX10_worth 15 = .ok (.aload_n 0, 1) := by decide +kernel
theorem dX10_worth_16 : decode cX10_worth 16 = .ok (.getfield 10, 3) := by decide +kernel
theorem dX10_worth_19 : decode cX10_worth 19 = .ok (.invokevirtual 142, 3) := by decide +kernel
theorem dX10_worth_22 : decode cX10_worth 22 = .ok (.invokestatic 76, 3) := by decide +kernel
theorem dX10_worth_25 : decode cX10_worth 25 = .ok (.ifCond .eq 6, 3) := by decide +kernel
theorem dX10_worth_28 : decode cX10_worth 28 = .ok (.bipush (-2), 2) := by decide +kernel
theorem dX10_worth_30 : decode cX10_worth 30 = .ok (.ireturn, 1) := by decide +kernel
theorem dX10_worth_31 : decode cX10_worth 31 = .ok (.aload_n 0, 1) := by decide +kernel
theorem dX10_worth_32 : decode cX10_worth 32 = .ok (.getfield 10, 3) := by decide +kernel
theorem dX10_worth_35 : decode cX10_worth 35 = .ok (.getfield 104, 3) := by decide +kernel
theorem dX10_worth_38 : decode cX10_worth 38 = .ok (.iload_n 1, 1) := by decide +kernel
theorem dX10_worth_39 : decode cX10_worth 39 = .ok (.aaload, 1) := by decide +kernel
theorem dX10_worth_40 : decode cX10_worth 40 = .ok (.aload_n 0, 1) := by decide +kernel
theorem dX10_worth_41 : decode cX10_worth 41 = .ok (.getfield 10, 3) := by decide +kernel
theorem dX10_worth_44 : decode cX10_worth 44 = .ok (.iload_n 2, 1) := by decide +kernel
theorem dX10_worth_45 : decode cX10_worth 45 = .ok (.invokevirtual 145, 3) := by decide +kernel
theorem dX10_worth_48 : decode cX10_worth 48 = .ok (.invokevirtual 148, 3) := by decide +kernel
theorem dX10_worth_51 : decode cX10_worth 51 = .ok (.ireturn, 1) := by decide +kernel
theorem dX10_why_0 : decode cX10_why 0 = .ok (.aload_n 0, 1) := by decide +kernel
theorem dX10_why_1 : decode cX10_why 1 = .ok (.getfield 10, 3) := by decide +kernel
theorem dX10_why_4 : decode cX10_why 4 = .ok (.iload_n 1, 1) := by decide +kernel
theorem dX10_why_5 : decode cX10_why 5 = .ok (.invokevirtual 94, 3) := by decide +kernel
theorem dX10_why_8 : decode cX10_why 8 = .ok (.ifCond .ne 5, 3) := by decide +kernel
theorem dX10_why_11 : decode cX10_why 11 = .ok (.iconst (-1), 1) := by decide +kernel
theorem dX10_why_12 : decode cX10_why 12 = .ok (.ireturn, 1) := by decide +kernel
theorem dX10_why_13 : decode cX10_why 13 = .ok (.iload_n 2, 1) := by decide +kernel
theorem dX10_why_14 : decode cX10_why 14 = .ok (.iconst 0, 1) := by decide +kernel
theorem dX10_why_15 : decode cX10_why 15 = .ok (.aload_n 0, 1) := by decide +kernel
theorem dX10_why_16 : decode cX10_why 16 = .ok (.getfield 10, 3) := by decide +kernel
theorem dX10_why_19 : decode cX10_why 19 = .ok (.invokevirtual 142, 3) := by decide +kernel
theorem dX10_why_22 : decode cX10_why 22 = .ok (.invokestatic 76, 3) := by decide +kernel
theorem dX10_why_25 : decode cX10_why 25 = .ok (.ifCond .eq 6, 3) := by decide +kernel
theorem dX10_why_28 : decode cX10_why 28 = .ok (.bipush (-2), 2) := by decide +kernel
theorem dX10_why_30 : decode cX10_why 30 = .ok (.ireturn, 1) := by decide +kernel
theorem dX10_why_31 : decode cX10_why 31 = .ok (.aload_n 0, 1) := by decide +kernel
theorem dX10_why_32 : decode cX10_why 32 = .ok (.getfield 10, 3) := by decide +kernel
theorem dX10_why_35 : decode cX10_why 35 = .ok (.getfield 104, 3) := by decide +kernel
theorem dX10_why_38 : decode cX10_why 38 = .ok (.iload_n 1, 1) := by decide +kernel
theorem dX10_why_39 : decode cX10_why 39 = .ok (.aaload, 1) := by decide +kernel
theorem dX10_why_40 : decode cX10_why 40 = .ok (.astore_n 3, 1) := by decide +kernel
theorem dX10_why_41 : decode cX10_why 41 = .ok (.aload_n 0, 1) := by decide +kernel
theorem dX10_why_42 : decode cX10_why 42 = .ok (.getfield 10, 3) := by decide +kernel
theorem dX10_why_45 : decode cX10_why 45 = .ok (.iload_n 2, 1) := by decide +kernel
theorem dX10_why_46 : decode cX10_why 46 = .ok (.invokevirtual 145, 3) := by decide +kernel
theorem dX10_why_49 : decode cX10_why 49 = .ok (.istore 4, 2) := by decide +kernel
theorem dX10_why_51 : decode cX10_why 51 = .ok (.aload_n 3, 1) := by decide +kernel
theorem dX10_why_52 : decode cX10_why 52 = .ok (.iload 4, 2) := by decide +kernel
theorem dX10_why_54 : decode cX10_why 54 = .ok (.aload_n 3, 1) := by decide +kernel
theorem dX10_why_55 : decode cX10_why 55 = .ok (.iload 4, 2) := by decide +kernel
theorem dX10_why_57 : decode cX10_why 57 = .ok (.invokevirtual 148, 3) := by decide +kernel
theorem dX10_why_60 : decode cX10_why 60 = .ok (.invokevirtual 151, 3) := by decide +kernel
theorem dX10_why_63 : decode cX10_why 63 = .ok (.ireturn, 1) := by decide +kernel
theorem dX10_top_0 : decode cX10_top 0 = .ok (.iload_n 1, 1) := by decide +kernel
theorem dX10_top_1 : decode cX10_top 1 = .ok (.iconst 1, 1) := by decide +kernel
theorem dX10_top_2 : decode cX10_top 2 = .ok (.sipush 200, 3) := by decide +kernel
theorem dX10_top_5 : decode cX10_top 5 = .ok (.invokestatic 76, 3) := by decide +kernel
theorem dX10_top_8 : decode cX10_top 8 = .ok (.ifCond .eq 6, 3) := by decide +kernel
theorem dX10_top_11 : decode cX10_top 11 = .ok (.bipush (-2), 2) := by decide +kernel
theorem dX10_top_13 : decode cX10_top 13 = .ok (.ireturn, 1) := by decide +kernel
theorem dX10_top_14 : decode cX10_top 14 = .ok (.aload_n 0, 1) := by decide +kernel
theorem dX10_top_15 : decode cX10_top 15 = .ok (.invokevirtual 84, 3) := by decide +kernel
theorem dX10_top_18 : decode cX10_top 18 = .ok (.aload_n 0, 1) := by decide +kernel
theorem dX10_top_19 : decode cX10_top 19 = .ok (.getfield 10, 3) := by decide +kernel
theorem dX10_top_22 : decode cX10_top 22 = .ok (.getfield 154, 3) := by decide +kernel
theorem dX10_top_25 : decode cX10_top 25 = .ok (.istore_n 2, 1) := by decide +kernel
theorem dX10_top_26 : decode cX10_top 26 = .ok (.aload_n 0, 1) := by decide +kernel
theorem dX10_top_27 : decode cX10_top 27 = .ok (.getfield 10, 3) := by decide +kernel
theorem dX10_top_30 : decode cX10_top 30 = .ok (.iload_n 1, 1) := by decide +kernel
theorem dX10_top_31 : decode cX10_top 31 = .ok (.putfield 154, 3) := by decide +kernel
theorem dX10_top_34 : decode cX10_top 34 = .ok (.iload_n 2, 1) := by decide +kernel
theorem dX10_top_35 : decode cX10_top 35 = .ok (.ireturn, 1) := by decide +kernel
theorem dX10_swap_0 : decode cX10_swap 0 = .ok (.aload_n 0, 1) := by decide +kernel
theorem dX10_swap_1 : decode cX10_swap 1 = .ok (.getfield 10, 3) := by decide +kernel
theorem dX10_swap_4 : decode cX10_swap 4 = .ok (.iload_n 1, 1) := by decide +kernel
theorem dX10_swap_5 : decode cX10_swap 5 = .ok (.invokevirtual 157, 3) := by decide +kernel
theorem dX10_swap_8 : decode cX10_swap 8 = .ok (.ifCond .eq 14, 3) := by decide +kernel
theorem dX10_swap_11 : decode cX10_swap 11 = .ok (.aload_n 0, 1) := by decide +kernel
theorem dX10_swap_12 : decode cX10_swap 12 = .ok (.getfield 10, 3) := by decide +kernel
theorem dX10_swap_15 : decode cX10_swap 15 = .ok (.iload_n 2, 1) := by decide +kernel
theorem dX10_swap_16 : decode cX10_swap 16 = .ok (.invokevirtual 157, 3) := by decide +kernel
theorem dX10_swap_19 : decode cX10_swap 19 = .ok (.ifCond .ne 5, 3) := by decide +kernel
theorem dX10_swap_22 : decode cX10_swap 22 = .ok (.iconst (-1), 1) := by decide +kernel
theorem dX10_swap_23 : decode cX10_swap 23 = .ok (.ireturn, 1) := by decide +kernel
theorem dX10_swap_24 : decode cX10_swap 24 = .ok (.aload_n 0, 1) := by decide +kernel
theorem dX10_swap_25 : decode cX10_swap 25 = .ok (.getfield 10, 3) := by decide +kernel
theorem dX10_swap_28 : decode cX10_swap 28 = .ok (.iload_n 1, 1) := by decide +kernel
theorem dX10_swap_29 : decode cX10_swap 29 = .ok (.iload_n 2, 1) := by decide +kernel
theorem dX10_swap_30 : decode cX10_swap 30 = .ok (.invokevirtual 160, 3) := by decide +kernel
theorem dX10_swap_33 : decode cX10_swap 33 = .ok (.iconst 1, 1) := by decide +kernel
theorem dX10_swap_34 : decode cX10_swap 34 = .ok (.ireturn, 1) := by decide +kernel
theorem dX10_order_0 : decode cX10_order 0 = .ok (.aload_n 0, 1) := by decide +kernel
theorem dX10_order_1 : decode cX10_order 1 = .ok (.getfield 10, 3) := by decide +kernel
theorem dX10_order_4 : decode cX10_order 4 = .ok (.iload_n 1, 1) := by decide +kernel
theorem dX10_order_5 : decode cX10_order 5 = .ok (.invokevirtual 157, 3) := by decide +kernel
theorem dX10_order_8 : decode cX10_order 8 = .ok (.ifCond .eq 15, 3) := by decide +kernel
theorem dX10_order_11 : decode cX10_order 11 = .ok (.aload_n 0, 1) := by decide +kernel
theorem dX10_order_12 : decode cX10_order 12 = .ok (.getfield 10, 3) := by decide +kernel
theorem dX10_order_15 : decode cX10_order 15 = .ok (.getfield 164, 3) := by decide +kernel
theorem dX10_order_18 : decode cX10_order 18 = .ok (.iload_n 1, 1) := by decide +kernel
theorem dX10_order_19 : decode cX10_order 19 = .ok (.iaload, 1) := by decide +kernel
theorem dX10_order_20 : decode cX10_order 20 = .ok (.goto 5, 3) := by decide +kernel
theorem dX10_order_23 : decode cX10_order 23 = .ok (.bipush (-6), 2) := by decide +kernel
theorem dX10_order_25 : decode cX10_order 25 = .ok (.ireturn, 1) := by decide +kernel
theorem dX10_sold_0 : decode cX10_sold 0 = .ok (.aload_n 0, 1) := by decide +kernel
theorem dX10_sold_1 : decode cX10_sold 1 = .ok (.getfield 10, 3) := by decide +kernel
theorem dX10_sold_4 : decode cX10_sold 4 = .ok (.iload_n 1, 1) := by decide +kernel
theorem dX10_sold_5 : decode cX10_sold 5 = .ok (.invokevirtual 157, 3) := by decide +kernel
theorem dX10_sold_8 : decode cX10_sold 8 = .ok (.ifCond .ne 5, 3) := by decide +kernel
theorem dX10_sold_11 : decode cX10_sold 11 = .ok (.iconst (-1), 1) := by decide +kernel
theorem dX10_sold_12 : decode cX10_sold 12 = .ok (.ireturn, 1) := by decide +kernel
theorem dX10_sold_13 : decode cX10_sold 13 = .ok (.iload_n 2, 1) := by decide +kernel
theorem dX10_sold_14 : decode cX10_sold 14 = .ok (.iconst 0, 1) := by decide +kernel
theorem dX10_sold_15 : decode cX10_sold 15 = .ok (.iconst 2, 1) := by decide +kernel
theorem dX10_sold_16 : decode cX10_sold 16 = .ok (.invokestatic 76, 3) := by decide +kernel
theorem dX10_sold_19 : decode cX10_sold 19 = .ok (.ifCond .eq 6, 3) := by decide +kernel
theorem dX10_sold_22 : decode cX10_sold 22 = .ok (.bipush (-2), 2) := by decide +kernel
theorem dX10_sold_24 : decode cX10_sold 24 = .ok (.ireturn, 1) := by decide +kernel
theorem dX10_sold_25 : decode cX10_sold 25 = .ok (.aload_n 0, 1) := by decide +kernel
theorem dX10_sold_26 : decode cX10_sold 26 = .ok (.getfield 28, 3) := by decide +kernel
theorem dX10_sold_29 : decode cX10_sold 29 = .ok (.invokevirtual 167, 3) := by decide +kernel
theorem dX10_sold_32 : decode cX10_sold 32 = .ok (.iload_n 2, 1) := by decide +kernel
theorem dX10_sold_33 : decode cX10_sold 33 = .ok (.ifCond .ne 13, 3) := by decide +kernel
theorem dX10_sold_36 : decode cX10_sold 36 = .ok (.aload_n 0, 1) := by decide +kernel
theorem dX10_sold_37 : decode cX10_sold 37 = .ok (.getfield 28, 3) := by decide +kernel
theorem dX10_sold_40 : decode cX10_sold 40 = .ok (.getfield 170, 3) := by decide +kernel
theorem dX10_sold_43 : decode cX10_sold 43 = .ok (.iload_n 1, 1) := by decide +kernel
theorem dX10_sold_44 : decode cX10_sold 44 = .ok (.iaload, 1) := by decide +kernel
theorem dX10_sold_45 : decode cX10_sold 45 = .ok (.ireturn, 1) := by decide +kernel
theorem dX10_sold_46 : decode cX10_sold 46 = .ok (.iload_n 2, 1) := by decide +kernel
theorem dX10_sold_47 : decode cX10_sold 47 = .ok (.iconst 1, 1) := by decide +kernel
theorem dX10_sold_48 : decode cX10_sold 48 = .ok (.if_icmp .ne 15, 3) := by decide +kernel
theorem dX10_sold_51 : decode cX10_sold 51 = .ok (.aload_n 0, 1) := by decide +kernel
theorem dX10_sold_52 : decode cX10_sold 52 = .ok (.getfield 28, 3) := by decide +kernel
theorem dX10_sold_55 : decode cX10_sold 55 = .ok (.getfield 173, 3) := by decide +kernel
theorem dX10_sold_58 : decode cX10_sold 58 = .ok (.iload_n 1, 1) := by decide +kernel
theorem dX10_sold_59 : decode cX10_sold 59 = .ok (.iaload, 1) := by decide +kernel
theorem dX10_sold_60 : decode cX10_sold 60 = .ok (.goto 12, 3) := by decide +kernel
theorem dX10_sold_63 : decode cX10_sold 63 = .ok (.aload_n 0, 1) := by decide +kernel
theorem dX10_sold_64 : decode cX10_sold 64 = .ok (.getfield 28, 3) := by decide +kernel
theorem dX10_sold_67 : decode cX10_sold 67 = .ok (.getfield 176, 3) := by decide +kernel
theorem dX10_sold_70 : decode cX10_sold 70 = .ok (.iload_n 1, 1) := by decide +kernel
theorem dX10_sold_71 : decode cX10_sold 71 = .ok (.iaload, 1) := by decide +kernel
theorem dX10_sold_72 : decode cX10_sold 72 = .ok (.ireturn, 1) := by decide +kernel
theorem dX10_day_0 : decode cX10_day 0 = .ok (.aload_n 0, 1) := by decide +kernel
theorem dX10_day_1 : decode cX10_day 1 = .ok (.getfield 10, 3) := by decide +kernel
theorem dX10_day_4 : decode cX10_day 4 = .ok (.iload_n 1, 1) := by decide +kernel
theorem dX10_day_5 : decode cX10_day 5 = .ok (.invokevirtual 94, 3) := by decide +kernel
theorem dX10_day_8 : decode cX10_day 8 = .ok (.ifCond .ne 5, 3) := by decide +kernel
theorem dX10_day_11 : decode cX10_day 11 = .ok (.iconst (-1), 1) := by decide +kernel
theorem dX10_day_12 : decode cX10_day 12 = .ok (.ireturn, 1) := by decide +kernel
theorem dX10_day_13 : decode cX10_day 13 = .ok (.iload_n 2, 1) := by decide +kernel
theorem dX10_day_14 : decode cX10_day 14 = .ok (.iconst 0, 1) := by decide +kernel
theorem dX10_day_15 : decode cX10_day 15 = .ok (.iconst 3, 1) := by decide +kernel
theorem dX10_day_16 : decode cX10_day 16 = .ok (.invokestatic 76, 3) := by decide +kernel
theorem dX10_day_19 : decode cX10_day 19 = .ok (.ifCond .eq 6, 3) := by decide +kernel
theorem dX10_day_22 : decode cX10_day 22 = .ok (.bipush (-2), 2) := by decide +kernel
theorem dX10_day_24 : decode cX10_day 24 = .ok (.ireturn, 1) := by decide +kernel
theorem dX10_day_25 : decode cX10_day 25 = .ok (.aload_n 0, 1) := by decide +kernel
theorem dX10_day_26 : decode cX10_day 26 = .ok (.getfield 28, 3) := by decide +kernel
theorem dX10_day_29 : decode cX10_day 29 = .ok (.invokevirtual 167, 3) := by decide +kernel
theorem dX10_day_32 : decode cX10_day 32 = .ok (.iload_n 2, 1) := by decide +kernel
theorem dX10_day_33 : decode cX10_day 33 = .ok (.tableswitch 57 0 2 #[27, 37, 47], 27) := by decide +kernel
theorem dX10_day_60 : decode cX10_day 60 = .ok (.aload_n 0, 1) := by decide +kernel
theorem dX10_day_61 : decode cX10_day 61 = .ok (.getfield 28, 3) := by decide +kernel
theorem dX10_day_64 : decode cX10_day 64 = .ok (.getfield 179, 3) := by decide +kernel
theorem dX10_day_67 : decode cX10_day 67 = .ok (.iload_n 1, 1) := by decide +kernel
theorem dX10_day_68 : decode cX10_day 68 = .ok (.iaload, 1) := by decide +kernel
theorem dX10_day_69 : decode cX10_day 69 = .ok (.ireturn, 1) := by decide +kernel
theorem dX10_day_70 : decode cX10_day 70 = .ok (.aload_n 0, 1) := by decide +kernel
theorem dX10_day_71 : decode cX10_day 71 = .ok (.getfield 28, 3) := by decide +kernel
theorem dX10_day_74 : decode cX10_day 74 = .ok (.getfield 182, 3) := by decide +kernel
theorem dX10_day_77 : decode cX10_day 77 = .ok (.iload_n 1, 1) := by decide +kernel
theorem dX10_day_78 : decode cX10_day 78 = .ok (.iaload, 1) := by decide +kernel
theorem dX10_day_79 : decode cX10_day 79 = .ok (.ireturn, 1) := by decide +kernel
theorem dX10_day_80 : decode cX10_day 80 = .ok (.aload_n 0, 1) := by decide +kernel
theorem dX10_day_81 : decode cX10_day 81 = .ok (.getfield 28, 3) := by decide +kernel
theorem dX10_day_84 : decode cX10_day 84 = .ok (.getfield 185, 3) := by decide +kernel
theorem dX10_day_87 : decode cX10_day 87 = .ok (.iload_n 1, 1) := by decide +kernel
theorem dX10_day_88 : decode cX10_day 88 = .ok (.iaload, 1) := by decide +kernel
theorem dX10_day_89 : decode cX10_day 89 = .ok (.ireturn, 1) := by decide +kernel
theorem dX10_day_90 : decode cX10_day 90 = .ok (.aload_n 0, 1) := by decide +kernel
theorem dX10_day_91 : decode cX10_day 91 = .ok (.getfield 28, 3) := by decide +kernel
theorem dX10_day_94 : decode cX10_day 94 = .ok (.getfield 188, 3) := by decide +kernel
theorem dX10_day_97 : decode cX10_day 97 = .ok (.iload_n 1, 1) := by decide +kernel
theorem dX10_day_98 : decode cX10_day 98 = .ok (.iaload, 1) := by decide +kernel
theorem dX10_day_99 : decode cX10_day 99 = .ok (.ireturn, 1) := by decide +kernel
theorem dX10_dealt_0 : decode cX10_dealt 0 = .ok (.iload_n 1, 1) := by decide +kernel
theorem dX10_dealt_1 : decode cX10_dealt 1 = .ok (.iconst (-1), 1) := by decide +kernel
theorem dX10_dealt_2 : decode cX10_dealt 2 = .ok (.if_icmp .eq 16, 3) := by decide +kernel
theorem dX10_dealt_5 : decode cX10_dealt 5 = .ok (.aload_n 0, 1) := by decide +kernel
theorem dX10_dealt_6 : decode cX10_dealt 6 = .ok (.getfield 10, 3) := by decide +kernel
theorem dX10_dealt_9 : decode cX10_dealt 9 = .ok (.iload_n 1, 1) := by decide +kernel
theorem dX10_dealt_10 : decode cX10_dealt 10 = .ok (.invokevirtual 94, 3) := by decide +kernel
theorem dX10_dealt_13 : decode cX10_dealt 13 = .ok (.ifCond .ne 5, 3) := by decide +kernel
theorem dX10_dealt_16 : decode cX10_dealt 16 = .ok (.iconst (-1), 1) := by decide +kernel
theorem dX10_dealt_17 : decode cX10_dealt 17 = .ok (.ireturn, 1) := by decide +kernel
theorem dX10_dealt_18 : decode cX10_dealt 18 = .ok (.aload_n 0, 1) := by decide +kernel
theorem dX10_dealt_19 : decode cX10_dealt 19 = .ok (.getfield 35, 3) := by decide +kernel
theorem dX10_dealt_22 : decode cX10_dealt 22 = .ok (.invokevirtual 191, 3) := by decide +kernel
theorem dX10_dealt_25 : decode cX10_dealt 25 = .ok (.istore_n 2, 1) := by decide +kernel
theorem dX10_dealt_26 : decode cX10_dealt 26 = .ok (.iload_n 1, 1) := by decide +kernel
theorem dX10_dealt_27 : decode cX10_dealt 27 = .ok (.iconst (-1), 1) := by decide +kernel
theorem dX10_dealt_28 : decode cX10_dealt 28 = .ok (.if_icmp .ne 5, 3) := by decide +kernel
theorem dX10_dealt_31 : decode cX10_dealt 31 = .ok (.iload_n 2, 1) := by decide +kernel
theorem dX10_dealt_32 : decode cX10_dealt 32 = .ok (.ireturn, 1) := by decide +kernel
theorem dX10_dealt_33 : decode cX10_dealt 33 = .ok (.aload_n 0, 1) := by decide +kernel
theorem dX10_dealt_34 : decode cX10_dealt 34 = .ok (.getfield 35, 3) := by decide +kernel
theorem dX10_dealt_37 : decode cX10_dealt 37 = .ok (.invokevirtual 194, 3) := by decide +kernel
theorem dX10_dealt_40 : decode cX10_dealt 40 = .ok (.aload_n 0, 1) := by decide +kernel
theorem dX10_dealt_41 : decode cX10_dealt 41 = .ok (.getfield 35, 3) := by decide +kernel
theorem dX10_dealt_44 : decode cX10_dealt 44 = .ok (.getfield 197, 3) := by decide +kernel
theorem dX10_dealt_47 : decode cX10_dealt 47 = .ok (.iload_n 1, 1) := by decide +kernel
theorem dX10_dealt_48 : decode cX10_dealt 48 = .ok (.iaload, 1) := by decide +kernel
theorem dX10_dealt_49 : decode cX10_dealt 49 = .ok (.ireturn, 1) := by decide +kernel
theorem dX10_price_0 : decode cX10_price 0 = .ok (.aload_n 0, 1) := by decide +kernel
theorem dX10_price_1 : decode cX10_price 1 = .ok (.getfield 10, 3) := by decide +kernel
theorem dX10_price_4 : decode cX10_price 4 = .ok (.iload_n 1, 1) := by decide +kernel
theorem dX10_price_5 : decode cX10_price 5 = .ok (.invokevirtual 157, 3) := by decide +kernel
theorem dX10_price_8 : decode cX10_price 8 = .ok (.ifCond .ne 5, 3) := by decide +kernel
theorem dX10_price_11 : decode cX10_price 11 = .ok (.iconst (-1), 1) := by decide +kernel
theorem dX10_price_12 : decode cX10_price 12 = .ok (.ireturn, 1) := by decide +kernel
theorem dX10_price_13 : decode cX10_price 13 = .ok (.iload_n 2, 1) := by decide +kernel
theorem dX10_price_14 : decode cX10_price 14 = .ok (.iconst 0, 1) := by decide +kernel
theorem dX10_price_15 : decode cX10_price 15 = .ok (.sipush 1000, 3) := by decide +kernel
theorem dX10_price_18 : decode cX10_price 18 = .ok (.invokestatic 76, 3) := by decide +kernel
theorem dX10_price_21 : decode cX10_price 21 = .ok (.ifCond .eq 6, 3) := by decide +kernel
theorem dX10_price_24 : decode cX10_price 24 = .ok (.bipush (-2), 2) := by decide +kernel
theorem dX10_price_26 : decode cX10_price 26 = .ok (.ireturn, 1) := by decide +kernel
theorem dX10_price_27 : decode cX10_price 27 = .ok (.aload_n 0, 1) := by decide +kernel
theorem dX10_price_28 : decode cX10_price 28 = .ok (.getfield 42, 3) := by decide +kernel
theorem dX10_price_31 : decode cX10_price 31 = .ok (.getfield 200, 3) := by decide +kernel
theorem dX10_price_34 : decode cX10_price 34 = .ok (.iload_n 1, 1) := by decide +kernel
theorem dX10_price_35 : decode cX10_price 35 = .ok (.iaload, 1) := by decide +kernel
theorem dX10_price_36 : decode cX10_price 36 = .ok (.istore_n 3, 1) := by decide +kernel
theorem dX10_price_37 : decode cX10_price 37 = .ok (.aload_n 0, 1) := by decide +kernel
theorem dX10_price_38 : decode cX10_price 38 = .ok (.getfield 42, 3) := by decide +kernel
theorem dX10_price_41 : decode cX10_price 41 = .ok (.getfield 200, 3) := by decide +kernel
theorem dX10_price_44 : decode cX10_price 44 = .ok (.iload_n 1, 1) := by decide +kernel
theorem dX10_price_45 : decode cX10_price 45 = .ok (.iload_n 2, 1) := by decide +kernel
theorem dX10_price_46 : decode cX10_price 46 = .ok (.iastore, 1) := by decide +kernel
theorem dX10_price_47 : decode cX10_price 47 = .ok (.iload_n 3, 1) := by decide +kernel
theorem dX10_price_48 : decode cX10_price 48 = .ok (.ireturn, 1) := by decide +kernel
theorem dX10_likes_0 : decode cX10_likes 0 = .ok (.aload_n 0, 1) := by decide +kernel
theorem dX10_likes_1 : decode cX10_likes 1 = .ok (.getfield 10, 3) := by decide +kernel
theorem dX10_likes_4 : decode cX10_likes 4 = .ok (.iload_n 1, 1) := by decide +kernel
theorem dX10_likes_5 : decode cX10_likes 5 = .ok (.invokevirtual 94, 3) := by decide +kernel
theorem dX10_likes_8 : decode cX10_likes 8 = .ok (.ifCond .ne 5, 3) := by decide +kernel
theorem dX10_likes_11 : decode cX10_likes 11 = .ok (.iconst (-1), 1) := by decide +kernel
theorem dX10_likes_12 : decode cX10_likes 12 = .ok (.ireturn, 1) := by decide +kernel
theorem dX10_likes_13 : decode cX10_likes 13 = .ok (.iload_n 2, 1) := by decide +kernel
theorem dX10_likes_14 : decode cX10_likes 14 = .ok (.iconst 0, 1) := by decide +kernel
theorem dX10_likes_15 : decode cX10_likes 15 = .ok (.iconst 1, 1) := by decide +kernel
theorem dX10_likes_16 : decode cX10_likes 16 = .ok (.invokestatic 76, 3) := by decide +kernel
theorem dX10_likes_19 : decode cX10_likes 19 = .ok (.ifCond .eq 6, 3) := by decide +kernel
theorem dX10_likes_22 : decode cX10_likes 22 = .ok (.bipush (-2), 2) := by decide +kernel
theorem dX10_likes_24 : decode cX10_likes 24 = .ok (.ireturn, 1) := by decide +kernel
theorem dX10_likes_25 : decode cX10_likes 25 = .ok (.aload_n 0, 1) := by decide +kernel
theorem dX10_likes_26 : decode cX10_likes 26 = .ok (.getfield 42, 3) := by decide +kernel
theorem dX10_likes_29 : decode cX10_likes 29 = .ok (.invokevirtual 201, 3) := by decide +kernel
theorem dX10_likes_32 : decode cX10_likes 32 = .ok (.iload_n 2, 1) := by decide +kernel
theorem dX10_likes_33 : decode cX10_likes 33 = .ok (.ifCond .ne 15, 3) := by decide +kernel
theorem dX10_likes_36 : decode cX10_likes 36 = .ok (.aload_n 0, 1) := by decide +kernel
theorem dX10_likes_37 : decode cX10_likes 37 = .ok (.getfield 42, 3) := by decide +kernel
theorem dX10_likes_40 : decode cX10_likes 40 = .ok (.getfield 204, 3) := by decide +kernel
theorem dX10_likes_43 : decode cX10_likes 43 = .ok (.iload_n 1, 1) := by decide +kernel
theorem dX10_likes_44 : decode cX10_likes 44 = .ok (.iaload, 1) := by decide +kernel
theorem dX10_likes_45 : decode cX10_likes 45 = .ok (.goto 12, 3) := by decide +kernel
theorem dX10_likes_48 : decode cX10_likes 48 = .ok (.aload_n 0, 1) := by decide +kernel
theorem dX10_likes_49 : decode cX10_likes 49 = .ok (.getfield 42, 3) := by decide +kernel
theorem dX10_likes_52 : decode cX10_likes 52 = .ok (.getfield 205, 3) := by decide +kernel
theorem dX10_likes_55 : decode cX10_likes 55 = .ok (.iload_n 1, 1) := by decide +kernel
theorem dX10_likes_56 : decode cX10_likes 56 = .ok (.iaload, 1) := by decide +kernel
theorem dX10_likes_57 : decode cX10_likes 57 = .ok (.ireturn, 1) := by decide +kernel
theorem dX10_missing_0 : decode cX10_missing 0 = .ok (.aload_n 0, 1) := by decide +kernel
theorem dX10_missing_1 : decode cX10_missing 1 = .ok (.getfield 42, 3) := by decide +kernel
theorem dX10_missing_4 : decode cX10_missing 4 = .ok (.invokevirtual 201, 3) := by decide +kernel
theorem dX10_missing_7 : decode cX10_missing 7 = .ok (.aload_n 0, 1) := by decide +kernel
theorem dX10_missing_8 : decode cX10_missing 8 = .ok (.getfield 42, 3) := by decide +kernel
theorem dX10_missing_11 : decode cX10_missing 11 = .ok (.aload_n 0, 1) := by decide +kernel
theorem dX10_missing_12 : decode cX10_missing 12 = .ok (.getfield 35, 3) := by decide +kernel
theorem dX10_missing_15 : decode cX10_missing 15 = .ok (.invokevirtual 191, 3) := by decide +kernel
theorem dX10_missing_18 : decode cX10_missing 18 = .ok (.invokevirtual 208, 3) := by decide +kernel
theorem dX10_missing_21 : decode cX10_missing 21 = .ok (.ireturn, 1) := by decide +kernel
theorem dX10_raised_0 : decode cX10_raised 0 = .ok (.iload_n 1, 1) := by decide +kernel
theorem dX10_raised_1 : decode cX10_raised 1 = .ok (.bipush 10, 2) := by decide +kernel
theorem dX10_raised_3 : decode cX10_raised 3 = .ok (.bipush 17, 2) := by decide +kernel
theorem dX10_raised_5 : decode cX10_raised 5 = .ok (.invokestatic 76, 3) := by decide +kernel
theorem dX10_raised_8 : decode cX10_raised 8 = .ok (.ifCond .ne 19, 3) := by decide +kernel
theorem dX10_raised_11 : decode cX10_raised 11 = .ok (.aload_n 0, 1) := by decide +kernel
theorem dX10_raised_12 : decode cX10_raised 12 = .ok (.getfield 10, 3) := by decide +kernel
theorem dX10_raised_15 : decode cX10_raised 15 = .ok (.iload_n 1, 1) := by decide +kernel
theorem dX10_raised_16 : decode cX10_raised 16 = .ok (.bipush 10, 2) := by decide +kernel
theorem dX10_raised_18 : decode cX10_raised 18 = .ok (.isub, 1) := by decide +kernel
theorem dX10_raised_19 : decode cX10_raised 19 = .ok (.invokevirtual 157, 3) := by decide +kernel
theorem dX10_raised_22 : decode cX10_raised 22 = .ok (.ifCond .ne 5, 3) := by decide +kernel
theorem dX10_raised_25 : decode cX10_raised 25 = .ok (.iconst (-1), 1) := by decide +kernel
theorem dX10_raised_26 : decode cX10_raised 26 = .ok (.ireturn, 1) := by decide +kernel
theorem dX10_raised_27 : decode cX10_raised 27 = .ok (.iload_n 1, 1) := by decide +kernel
theorem dX10_raised_28 : decode cX10_raised 28 = .ok (.iconst 0, 1) := by decide +kernel
theorem dX10_raised_29 : decode cX10_raised 29 = .ok (.iconst 1, 1) := by decide +kernel
theorem dX10_raised_30 : decode cX10_raised 30 = .ok (.invokestatic 76, 3) := by decide +kernel
theorem dX10_raised_33 : decode cX10_raised 33 = .ok (.ifCond .eq 17, 3) := by decide +kernel
theorem dX10_raised_36 : decode cX10_raised 36 = .ok (.iload_n 1, 1) := by decide +kernel
theorem dX10_raised_37 : decode cX10_raised 37 = .ok (.bipush 10, 2) := by decide +kernel
theorem dX10_raised_39 : decode cX10_raised 39 = .ok (.bipush 17, 2) := by decide +kernel
theorem dX10_raised_41 : decode cX10_raised 41 = .ok (.invokestatic 76, 3) := by decide +kernel
theorem dX10_raised_44 : decode cX10_raised 44 = .ok (.ifCond .eq 6, 3) := by decide +kernel
theorem dX10_raised_47 : decode cX10_raised 47 = .ok (.bipush (-2), 2) := by decide +kernel
theorem dX10_raised_49 : decode cX10_raised 49 = .ok (.ireturn, 1) := by decide +kernel
theorem dX10_raised_50 : decode cX10_raised 50 = .ok (.aload_n 0, 1) := by decide +kernel
theorem dX10_raised_51 : decode cX10_raised 51 = .ok (.getfield 46, 3) := by decide +kernel
theorem dX10_raised_54 : decode cX10_raised 54 = .ok (.aload_n 0, 1) := by decide +kernel
theorem dX10_raised_55 : decode cX10_raised 55 = .ok (.getfield 35, 3) := by decide +kernel
theorem dX10_raised_58 : decode cX10_raised 58 = .ok (.invokevirtual 191, 3) := by decide +kernel
theorem dX10_raised_61 : decode cX10_raised 61 = .ok (.invokevirtual 211, 3) := by decide +kernel
theorem dX10_raised_64 : decode cX10_raised 64 = .ok (.iload_n 1, 1) := by decide +kernel
theorem dX10_raised_65 : decode cX10_raised 65 = .ok (.ifCond .ne 11, 3) := by decide +kernel
theorem dX10_raised_68 : decode cX10_raised 68 = .ok (.aload_n 0, 1) := by decide +kernel
theorem dX10_raised_69 : decode cX10_raised 69 = .ok (.getfield 46, 3) := by decide +kernel
theorem dX10_raised_72 : decode cX10_raised 72 = .ok (.getfield 215, 3) := by decide +kernel
theorem dX10_raised_75 : decode cX10_raised 75 = .ok (.ireturn, 1) := by decide +kernel
theorem dX10_raised_76 : decode cX10_raised 76 = .ok (.iload_n 1, 1) := by decide +kernel
theorem dX10_raised_77 : decode cX10_raised 77 = .ok (.iconst 1, 1) := by decide +kernel
theorem dX10_raised_78 : decode cX10_raised 78 = .ok (.if_icmp .ne 13, 3) := by decide +kernel
theorem dX10_raised_81 : decode cX10_raised 81 = .ok (.aload_n 0, 1) := by decide +kernel
theorem dX10_raised_82 : decode cX10_raised 82 = .ok (.getfield 46, 3) := by decide +kernel
theorem dX10_raised_85 : decode cX10_raised 85 = .ok (.getfield 218, 3) := by decide +kernel
theorem dX10_raised_88 : decode cX10_raised 88 = .ok (.goto 15, 3) := by decide +kernel
theorem dX10_raised_91 : decode cX10_raised 91 = .ok (.aload_n 0, 1) := by decide +kernel
theorem dX10_raised_92 : decode cX10_raised 92 = .ok (.getfield 46, 3) := by decide +kernel
theorem dX10_raised_95 : decode cX10_raised 95 = .ok (.getfield 200, 3) := by decide +kernel
theorem dX10_raised_98 : decode cX10_raised 98 = .ok (.iload_n 1, 1) := by decide +kernel
theorem dX10_raised_99 : decode cX10_raised 99 = .ok (.bipush 10, 2) := by decide +kernel
theorem dX10_raised_101 : decode cX10_raised 101 = .ok (.isub, 1) := by decide +kernel
theorem dX10_raised_102 : decode cX10_raised 102 = .ok (.iaload, 1) := by decide +kernel
theorem dX10_raised_103 : decode cX10_raised 103 = .ok (.ireturn, 1) := by decide +kernel
theorem dX10_orders_0 : decode cX10_orders 0 = .ok (.iload_n 1, 1) := by decide +kernel
theorem dX10_orders_1 : decode cX10_orders 1 = .ok (.iconst 0, 1) := by decide +kernel
theorem dX10_orders_2 : decode cX10_orders 2 = .ok (.iconst 1, 1) := by decide +kernel
theorem dX10_orders_3 : decode cX10_orders 3 = .ok (.invokestatic 76, 3) := by decide +kernel
theorem dX10_orders_6 : decode cX10_orders 6 = .ok (.ifCond .eq 28, 3) := by decide +kernel
theorem dX10_orders_9 : decode cX10_orders 9 = .ok (.iload_n 1, 1) := by decide +kernel
theorem dX10_orders_10 : decode cX10_orders 10 = .ok (.bipush 10, 2) := by decide +kernel
theorem dX10_orders_12 : decode cX10_orders 12 = .ok (.bipush 15, 2) := by decide +kernel
theorem dX10_orders_14 : decode cX10_orders 14 = .ok (.invokestatic 76, 3) := by decide +kernel
theorem dX10_orders_17 : decode cX10_orders 17 = .ok (.ifCond .eq 17, 3) := by decide +kernel
theorem dX10_orders_20 : decode cX10_orders 20 = .ok (.iload_n 1, 1) := by decide +kernel
theorem dX10_orders_21 : decode cX10_orders 21 = .ok (.bipush 20, 2) := by decide +kernel
theorem dX10_orders_23 : decode cX10_orders 23 = .ok (.bipush 25, 2) := by decide +kernel
theorem dX10_orders_25 : decode cX10_orders 25 = .ok (.invokestatic 76, 3) := by decide +kernel
theorem dX10_orders_28 : decode cX10_orders 28 = .ok (.ifCond .eq 6, 3) := by decide +kernel
theorem dX10_orders_31 : decode cX10_orders 31 = .ok (.bipush (-2), 2) := by decide +kernel
theorem dX10_orders_33 : decode cX10_orders 33 = .ok (.ireturn, 1) := by decide +kernel
theorem dX10_orders_34 : decode cX10_orders 34 = .ok (.aload_n 0, 1) := by decide +kernel
theorem dX10_orders_35 : decode cX10_orders 35 = .ok (.getfield 10, 3) := by decide +kernel
theorem dX10_orders_38 : decode cX10_orders 38 = .ok (.getfield 80, 3) := by decide +kernel
theorem dX10_orders_41 : decode cX10_orders 41 = .ok (.bipush 6, 2) := by decide +kernel
theorem dX10_orders_43 : decode cX10_orders 43 = .ok (.if_icmp .le 6, 3) := by decide +kernel
theorem dX10_orders_46 : decode cX10_orders 46 = .ok (.bipush (-3), 2) := by decide +kernel
theorem dX10_orders_48 : decode cX10_orders 48 = .ok (.ireturn, 1) := by decide +kernel
theorem dX10_orders_49 : decode cX10_orders 49 = .ok (.aload_n 0, 1) := by decide +kernel
theorem dX10_orders_50 : decode cX10_orders 50 = .ok (.getfield 54, 3) := by decide +kernel
theorem dX10_orders_53 : decode cX10_orders 53 = .ok (.invokevirtual 221, 3) := by decide +kernel
theorem dX10_orders_56 : decode cX10_orders 56 = .ok (.iload_n 1, 1) := by decide +kernel
theorem dX10_orders_57 : decode cX10_orders 57 = .ok (.bipush 10, 2) := by decide +kernel
theorem dX10_orders_59 : decode cX10_orders 59 = .ok (.if_icmp .ge 25, 3) := by decide +kernel
theorem dX10_orders_62 : decode cX10_orders 62 = .ok (.iload_n 1, 1) := by decide +kernel
theorem dX10_orders_63 : decode cX10_orders 63 = .ok (.ifCond .ne 13, 3) := by decide +kernel
theorem dX10_orders_66 : decode cX10_orders 66 = .ok (.aload_n 0, 1) := by decide +kernel
theorem dX10_orders_67 : decode cX10_orders 67 = .ok (.getfield 54, 3) := by decide +kernel
theorem dX10_orders_70 : decode cX10_orders 70 = .ok (.getfield 224, 3) := by decide +kernel
theorem dX10_orders_73 : decode cX10_orders 73 = .ok (.goto 10, 3) := by decide +kernel
theorem dX10_orders_76 : decode cX10_orders 76 = .ok (.aload_n 0, 1) := by decide +kernel
theorem dX10_orders_77 : decode cX10_orders 77 = .ok (.getfield 54, 3) := by decide +kernel
theorem dX10_orders_80 : decode cX10_orders 80 = .ok (.getfield 226, 3) := by decide +kernel
theorem dX10_orders_83 : decode cX10_orders 83 = .ok (.ireturn, 1) := by decide +kernel
theorem dX10_orders_84 : decode cX10_orders 84 = .ok (.iload_n 1, 1) := by decide +kernel
theorem dX10_orders_85 : decode cX10_orders 85 = .ok (.bipush 20, 2) := by decide +kernel
theorem dX10_orders_87 : decode cX10_orders 87 = .ok (.if_icmp .ge 10, 3) := by decide +kernel
theorem dX10_orders_90 : decode cX10_orders 90 = .ok (.iload_n 1, 1) := by decide +kernel
theorem dX10_orders_91 : decode cX10_orders 91 = .ok (.bipush 10, 2) := by decide +kernel
theorem dX10_orders_93 : decode cX10_orders 93 = .ok (.isub, 1) := by decide +kernel
theorem dX10_orders_94 : decode cX10_orders 94 = .ok (.goto 7, 3) := by decide +kernel
theorem dX10_orders_97 : decode cX10_orders 97 = .ok (.iload_n 1, 1) := by decide +kernel
theorem dX10_orders_98 : decode cX10_orders 98 = .ok (.bipush 20, 2) := by decide +kernel
theorem dX10_orders_100 : decode cX10_orders 100 = .ok (.isub, 1) := by decide +kernel
theorem dX10_orders_101 : decode cX10_orders 101 = .ok (.istore_n 2, 1) := by decide +kernel
theorem dX10_orders_102 : decode cX10_orders 102 = .ok (.iload_n 2, 1) := by decide +kernel
theorem dX10_orders_103 : decode cX10_orders 103 = .ok (.aload_n 0, 1) := by decide +kernel
theorem dX10_orders_104 : decode cX10_orders 104 = .ok (.getfield 10, 3) := by decide +kernel
theorem dX10_orders_107 : decode cX10_orders 107 = .ok (.getfield 80, 3) := by decide +kernel
theorem dX10_orders_110 : decode cX10_orders 110 = .ok (.if_icmp .lt 6, 3) := by decide +kernel
theorem dX10_orders_113 : decode cX10_orders 113 = .ok (.bipush (-6), 2) := by decide +kernel
theorem dX10_orders_115 : decode cX10_orders 115 = .ok (.ireturn, 1) := by decide +kernel
theorem dX10_orders_116 : decode cX10_orders 116 = .ok (.iload_n 1, 1) := by decide +kernel
theorem dX10_orders_117 : decode cX10_orders 117 = .ok (.bipush 20, 2) := by decide +kernel
theorem dX10_orders_119 : decode cX10_orders 119 = .ok (.if_icmp .ge 15, 3) := by decide +kernel
theorem dX10_orders_122 : decode cX10_orders 122 = .ok (.aload_n 0, 1) := by decide +kernel
theorem dX10_orders_123 : decode cX10_orders 123 = .ok (.getfield 54, 3) := by decide +kernel
theorem dX10_orders_126 : decode cX10_orders 126 = .ok (.getfield 229, 3) := by decide +kernel
theorem dX10_orders_129 : decode cX10_orders 129 = .ok (.iload_n 2, 1) := by decide +kernel
theorem dX10_orders_130 : decode cX10_orders 130 = .ok (.iaload, 1) := by decide +kernel
theorem dX10_orders_131 : decode cX10_orders 131 = .ok (.goto 12, 3) := by decide +kernel
theorem dX10_orders_134 : decode cX10_orders 134 = .ok (.aload_n 0, 1) := by decide +kernel
theorem dX10_orders_135 : decode cX10_orders 135 = .ok (.getfield 54, 3) := by decide +kernel
theorem dX10_orders_138 : decode cX10_orders 138 = .ok (.getfield 232, 3) := by decide +kernel
theorem dX10_orders_141 : decode cX10_orders 141 = .ok (.iload_n 2, 1) := by decide +kernel
theorem dX10_orders_142 : decode cX10_orders 142 = .ok (.iaload, 1) := by decide +kernel
theorem dX10_orders_143 : decode cX10_orders 143 = .ok (.ireturn, 1) := by decide +kernel
theorem dX10_gain_0 : decode cX10_gain 0 = .ok (.aload_n 0, 1) := by decide +kernel
theorem dX10_gain_1 : decode cX10_gain 1 = .ok (.getfield 10, 3) := by decide +kernel
theorem dX10_gain_4 : decode cX10_gain 4 = .ok (.iload_n 1, 1) := by decide +kernel
theorem dX10_gain_5 : decode cX10_gain 5 = .ok (.invokevirtual 94, 3) := by decide +kernel
theorem dX10_gain_8 : decode cX10_gain 8 = .ok (.ifCond .ne 6, 3) := by decide +kernel
theorem dX10_gain_11 : decode cX10_gain 11 = .ok (.ldc 235, 2) := by decide +kernel
theorem dX10_gain_13 : decode cX10_gain 13 = .ok (.ireturn, 1) := by decide +kernel
theorem dX10_gain_14 : decode cX10_gain 14 = .ok (.aload_n 0, 1) := by decide +kernel
theorem dX10_gain_15 : decode cX10_gain 15 = .ok (.getfield 28, 3) := by decide +kernel
theorem dX10_gain_18 : decode cX10_gain 18 = .ok (.invokevirtual 167, 3) := by decide +kernel
theorem dX10_gain_21 : decode cX10_gain 21 = .ok (.aload_n 0, 1) := by decide +kernel
theorem dX10_gain_22 : decode cX10_gain 22 = .ok (.getfield 28, 3) := by decide +kernel
theorem dX10_gain_25 : decode cX10_gain 25 = .ok (.iload_n 1, 1) := by decide +kernel
theorem dX10_gain_26 : decode cX10_gain 26 = .ok (.invokevirtual 236, 3) := by decide +kernel
theorem dX10_gain_29 : decode cX10_gain 29 = .ok (.ireturn, 1) := by decide +kernel
theorem dX10_cut_0 : decode cX10_cut 0 = .ok (.aload_n 0, 1) := by decide +kernel
theorem dX10_cut_1 : decode cX10_cut 1 = .ok (.getfield 10, 3) := by decide +kernel
theorem dX10_cut_4 : decode cX10_cut 4 = .ok (.iload_n 1, 1) := by decide +kernel
theorem dX10_cut_5 : decode cX10_cut 5 = .ok (.invokevirtual 94, 3) := by decide +kernel
theorem dX10_cut_8 : decode cX10_cut 8 = .ok (.ifCond .ne 6, 3) := by decide +kernel
theorem dX10_cut_11 : decode cX10_cut 11 = .ok (.ldc 235, 2) := by decide +kernel
theorem dX10_cut_13 : decode cX10_cut 13 = .ok (.ireturn, 1) := by decide +kernel
theorem dX10_cut_14 : decode cX10_cut 14 = .ok (.iload_n 2, 1) := by decide +kernel
theorem dX10_cut_15 : decode cX10_cut 15 = .ok (.iconst 0, 1) := by decide +kernel
theorem dX10_cut_16 : decode cX10_cut 16 = .ok (.iconst 1, 1) := by decide +kernel
theorem dX10_cut_17 : decode cX10_cut 17 = .ok (.invokestatic 76, 3) := by decide +kernel
theorem dX10_cut_20 : decode cX10_cut 20 = .ok (.ifCond .eq 6, 3) := by decide +kernel
theorem dX10_cut_23 : decode cX10_cut 23 = .ok (.ldc 239, 2) := by decide +kernel
theorem dX10_cut_25 : decode cX10_cut 25 = .ok (.ireturn, 1) := by decide +kernel
theorem dX10_cut_26 : decode cX10_cut 26 = .ok (.iconst 0, 1) := by decide +kernel
theorem dX10_cut_27 : decode cX10_cut 27 = .ok (.istore_n 3, 1) := by decide +kernel
theorem dX10_cut_28 : decode cX10_cut 28 = .ok (.aload_n 0, 1) := by decide +kernel
theorem dX10_cut_29 : decode cX10_cut 29 = .ok (.getfield 28, 3) := by decide +kernel
theorem dX10_cut_32 : decode cX10_cut 32 = .ok (.iload_n 1, 1) := by decide +kernel
theorem dX10_cut_33 : decode cX10_cut 33 = .ok (.iconst 0, 1) := by decide +kernel
theorem dX10_cut_34 : decode cX10_cut 34 = .ok (.aload_n 0, 1) := by decide +kernel
theorem dX10_cut_35 : decode cX10_cut 35 = .ok (.getfield 10, 3) := by decide +kernel
theorem dX10_cut_38 : decode cX10_cut 38 = .ok (.getfield 154, 3) := by decide +kernel
theorem dX10_cut_41 : decode cX10_cut 41 = .ok (.invokevirtual 240, 3) := by decide +kernel
theorem dX10_cut_44 : decode cX10_cut 44 = .ok (.istore 4, 2) := by decide +kernel
theorem dX10_cut_46 : decode cX10_cut 46 = .ok (.iconst 1, 1) := by decide +kernel
theorem dX10_cut_47 : decode cX10_cut 47 = .ok (.istore 5, 2) := by decide +kernel
theorem dX10_cut_49 : decode cX10_cut 49 = .ok (.iload 5, 2) := by decide +kernel
theorem dX10_cut_51 : decode cX10_cut 51 = .ok (.bipush 99, 2) := by decide +kernel
theorem dX10_cut_53 : decode cX10_cut 53 = .ok (.if_icmp .gt 42, 3) := by decide +kernel
theorem dX10_cut_56 : decode cX10_cut 56 = .ok (.aload_n 0, 1) := by decide +kernel
theorem dX10_cut_57 : decode cX10_cut 57 = .ok (.getfield 28, 3) := by decide +kernel
theorem dX10_cut_60 : decode cX10_cut 60 = .ok (.iload_n 1, 1) := by decide +kernel
theorem dX10_cut_61 : decode cX10_cut 61 = .ok (.iload 5, 2) := by decide +kernel
theorem dX10_cut_63 : decode cX10_cut 63 = .ok (.aload_n 0, 1) := by decide +kernel
theorem dX10_cut_64 : decode cX10_cut 64 = .ok (.getfield 10, 3) := by decide +kernel
theorem dX10_cut_67 : decode cX10_cut 67 = .ok (.getfield 154, 3) := by decide +kernel
theorem dX10_cut_70 : decode cX10_cut 70 = .ok (.invokevirtual 240, 3) := by decide +kernel
theorem dX10_cut_73 : decode cX10_cut 73 = .ok (.istore 6, 2) := by decide +kernel
theorem dX10_cut_75 : decode cX10_cut 75 = .ok (.iload 6, 2) := by decide +kernel
theorem dX10_cut_77 : decode cX10_cut 77 = .ok (.iload 4, 2) := by decide +kernel
theorem dX10_cut_79 : decode cX10_cut 79 = .ok (.if_icmp .le 10, 3) := by decide +kernel
theorem dX10_cut_82 : decode cX10_cut 82 = .ok (.iload 6, 2) := by decide +kernel
theorem dX10_cut_84 : decode cX10_cut 84 = .ok (.istore 4, 2) := by decide +kernel
theorem dX10_cut_86 : decode cX10_cut 86 = .ok (.iload 5, 2) := by decide +kernel
theorem dX10_cut_88 : decode cX10_cut 88 = .ok (.istore_n 3, 1) := by decide +kernel
theorem dX10_cut_89 : decode cX10_cut 89 = .ok (.iinc 5 1, 3) := by decide +kernel
theorem dX10_cut_92 : decode cX10_cut 92 = .ok (.goto (-43), 3) := by decide +kernel
theorem dX10_cut_95 : decode cX10_cut 95 = .ok (.iload_n 2, 1) := by decide +kernel
theorem dX10_cut_96 : decode cX10_cut 96 = .ok (.ifCond .ne 7, 3) := by decide +kernel
theorem dX10_cut_99 : decode cX10_cut 99 = .ok (.iload_n 3, 1) := by decide +kernel
theorem dX10_cut_100 : decode cX10_cut 100 = .ok (.goto 5, 3) := by decide +kernel
theorem dX10_cut_103 : decode cX10_cut 103 = .ok (.iload 4, 2) := by decide +kernel
theorem dX10_cut_105 : decode cX10_cut 105 = .ok (.ireturn, 1) := by decide +kernel
theorem dX10_broken_0 : decode cX10_broken 0 = .ok (.iload_n 1, 1) := by decide +kernel
theorem dX10_broken_1 : decode cX10_broken 1 = .ok (.iconst 0, 1) := by decide +kernel
theorem dX10_broken_2 : decode cX10_broken 2 = .ok (.iconst 1, 1) := by decide +kernel
theorem dX10_broken_3 : decode cX10_broken 3 = .ok (.invokestatic 76, 3) := by decide +kernel
theorem dX10_broken_6 : decode cX10_broken 6 = .ok (.ifCond .eq 6, 3) := by decide +kernel
theorem dX10_broken_9 : decode cX10_broken 9 = .ok (.bipush (-2), 2) := by decide +kernel
theorem dX10_broken_11 : decode cX10_broken 11 = .ok (.ireturn, 1) := by decide +kernel
theorem dX10_broken_12 : decode cX10_broken 12 = .ok (.aload_n 0, 1) := by decide +kernel
theorem dX10_broken_13 : decode cX10_broken 13 = .ok (.getfield 10, 3) := by decide +kernel
theorem dX10_broken_16 : decode cX10_broken 16 = .ok (.invokevirtual 243, 3) := by decide +kernel
theorem dX10_broken_19 : decode cX10_broken 19 = .ok (.bipush 8, 2) := by decide +kernel
theorem dX10_broken_21 : decode cX10_broken 21 = .ok (.if_icmp .le 6, 3) := by decide +kernel
theorem dX10_broken_24 : decode cX10_broken 24 = .ok (.bipush (-3), 2) := by decide +kernel
theorem dX10_broken_26 : decode cX10_broken 26 = .ok (.ireturn, 1) := by decide +kernel
theorem dX10_broken_27 : decode cX10_broken 27 = .ok (.aload_n 0, 1) := by decide +kernel
theorem dX10_broken_28 : decode cX10_broken 28 = .ok (.getfield 63, 3) := by decide +kernel
theorem dX10_broken_31 : decode cX10_broken 31 = .ok (.invokevirtual 245, 3) := by decide +kernel
theorem dX10_broken_34 : decode cX10_broken 34 = .ok (.iload_n 1, 1) := by decide +kernel
theorem dX10_broken_35 : decode cX10_broken 35 = .ok (.ifCond .ne 13, 3) := by decide +kernel
theorem dX10_broken_38 : decode cX10_broken 38 = .ok (.aload_n 0, 1) := by decide +kernel
theorem dX10_broken_39 : decode cX10_broken 39 = .ok (.getfield 63, 3) := by decide +kernel
theorem dX10_broken_42 : decode cX10_broken 42 = .ok (.getfield 248, 3) := by decide +kernel
theorem dX10_broken_45 : decode cX10_broken 45 = .ok (.goto 13, 3) := by decide +kernel
theorem dX10_broken_48 : decode cX10_broken 48 = .ok (.aload_n 0, 1) := by decide +kernel
theorem dX10_broken_49 : decode cX10_broken 49 = .ok (.getfield 63, 3) := by decide +kernel
theorem dX10_broken_52 : decode cX10_broken 52 = .ok (.getfield 248, 3) := by decide +kernel
theorem dX10_broken_55 : decode cX10_broken 55 = .ok (.invokestatic 251, 3) := by decide +kernel
theorem dX10_broken_58 : decode cX10_broken 58 = .ok (.ireturn, 1) := by decide +kernel
theorem dX10_lesson_0 : decode cX10_lesson 0 = .ok (.iload_n 1, 1) := by decide +kernel
theorem dX10_lesson_1 : decode cX10_lesson 1 = .ok (.iconst 1, 1) := by decide +kernel
theorem dX10_lesson_2 : decode cX10_lesson 2 = .ok (.sipush 200, 3) := by decide +kernel
theorem dX10_lesson_5 : decode cX10_lesson 5 = .ok (.invokestatic 76, 3) := by decide +kernel
theorem dX10_lesson_8 : decode cX10_lesson 8 = .ok (.ifCond .eq 6, 3) := by decide +kernel
theorem dX10_lesson_11 : decode cX10_lesson 11 = .ok (.bipush (-2), 2) := by decide +kernel
theorem dX10_lesson_13 : decode cX10_lesson 13 = .ok (.ireturn, 1) := by decide +kernel
theorem dX10_lesson_14 : decode cX10_lesson 14 = .ok (.aload_n 0, 1) := by decide +kernel
theorem dX10_lesson_15 : decode cX10_lesson 15 = .ok (.getfield 72, 3) := by decide +kernel
theorem dX10_lesson_18 : decode cX10_lesson 18 = .ok (.getfield 256, 3) := by decide +kernel
theorem dX10_lesson_21 : decode cX10_lesson 21 = .ok (.bipush 8, 2) := by decide +kernel
theorem dX10_lesson_23 : decode cX10_lesson 23 = .ok (.if_icmp .lt 6, 3) := by decide +kernel
theorem dX10_lesson_26 : decode cX10_lesson 26 = .ok (.bipush (-4), 2) := by decide +kernel
theorem dX10_lesson_28 : decode cX10_lesson 28 = .ok (.ireturn, 1) := by decide +kernel
theorem dX10_lesson_29 : decode cX10_lesson 29 = .ok (.aload_n 0, 1) := by decide +kernel
theorem dX10_lesson_30 : decode cX10_lesson 30 = .ok (.getfield 72, 3) := by decide +kernel
theorem dX10_lesson_33 : decode cX10_lesson 33 = .ok (.getfield 257, 3) := by decide +kernel
theorem dX10_lesson_36 : decode cX10_lesson 36 = .ok (.aload_n 0, 1) := by decide +kernel
theorem dX10_lesson_37 : decode cX10_lesson 37 = .ok (.getfield 72, 3) := by decide +kernel
theorem dX10_lesson_40 : decode cX10_lesson 40 = .ok (.getfield 256, 3) := by decide +kernel
theorem dX10_lesson_43 : decode cX10_lesson 43 = .ok (.iload_n 1, 1) := by decide +kernel
theorem dX10_lesson_44 : decode cX10_lesson 44 = .ok (.iastore, 1) := by decide +kernel
theorem dX10_lesson_45 : decode cX10_lesson 45 = .ok (.aload_n 0, 1) := by decide +kernel
theorem dX10_lesson_46 : decode cX10_lesson 46 = .ok (.getfield 72, 3) := by decide +kernel
theorem dX10_lesson_49 : decode cX10_lesson 49 = .ok (.dup, 1) := by decide +kernel
theorem dX10_lesson_50 : decode cX10_lesson 50 = .ok (.getfield 256, 3) := by decide +kernel
theorem dX10_lesson_53 : decode cX10_lesson 53 = .ok (.iconst 1, 1) := by decide +kernel
theorem dX10_lesson_54 : decode cX10_lesson 54 = .ok (.iadd, 1) := by decide +kernel
theorem dX10_lesson_55 : decode cX10_lesson 55 = .ok (.putfield 256, 3) := by decide +kernel
theorem dX10_lesson_58 : decode cX10_lesson 58 = .ok (.aload_n 0, 1) := by decide +kernel
theorem dX10_lesson_59 : decode cX10_lesson 59 = .ok (.getfield 72, 3) := by decide +kernel
theorem dX10_lesson_62 : decode cX10_lesson 62 = .ok (.getfield 256, 3) := by decide +kernel
theorem dX10_lesson_65 : decode cX10_lesson 65 = .ok (.ireturn, 1) := by decide +kernel
theorem dX10_unlearn_0 : decode cX10_unlearn 0 = .ok (.aload_n 0, 1) := by decide +kernel
theorem dX10_unlearn_1 : decode cX10_unlearn 1 = .ok (.getfield 72, 3) := by decide +kernel
theorem dX10_unlearn_4 : decode cX10_unlearn 4 = .ok (.getfield 256, 3) := by decide +kernel
theorem dX10_unlearn_7 : decode cX10_unlearn 7 = .ok (.istore_n 1, 1) := by decide +kernel
theorem dX10_unlearn_8 : decode cX10_unlearn 8 = .ok (.aload_n 0, 1) := by decide +kernel
theorem dX10_unlearn_9 : decode cX10_unlearn 9 = .ok (.getfield 72, 3) := by decide +kernel
theorem dX10_unlearn_12 : decode cX10_unlearn 12 = .ok (.iconst 0, 1) := by decide +kernel
theorem dX10_unlearn_13 : decode cX10_unlearn 13 = .ok (.putfield 256, 3) := by decide +kernel
theorem dX10_unlearn_16 : decode cX10_unlearn 16 = .ok (.iload_n 1, 1) := by decide +kernel
theorem dX10_unlearn_17 : decode cX10_unlearn 17 = .ok (.ireturn, 1) := by decide +kernel
theorem dX10_learn_0 : decode cX10_learn 0 = .ok (.aload_n 0, 1) := by decide +kernel
theorem dX10_learn_1 : decode cX10_learn 1 = .ok (.getfield 10, 3) := by decide +kernel
theorem dX10_learn_4 : decode cX10_learn 4 = .ok (.iload_n 1, 1) := by decide +kernel
theorem dX10_learn_5 : decode cX10_learn 5 = .ok (.invokevirtual 94, 3) := by decide +kernel
theorem dX10_learn_8 : decode cX10_learn 8 = .ok (.ifCond .ne 6, 3) := by decide +kernel
theorem dX10_learn_11 : decode cX10_learn 11 = .ok (.ldc 235, 2) := by decide +kernel
theorem dX10_learn_13 : decode cX10_learn 13 = .ok (.ireturn, 1) := by decide +kernel
theorem dX10_learn_14 : decode cX10_learn 14 = .ok (.iload_n 2, 1) := by decide +kernel
theorem dX10_learn_15 : decode cX10_learn 15 = .ok (.iconst 0, 1) := by decide +kernel
theorem dX10_learn_16 : decode cX10_learn 16 = .ok (.bipush 79, 2) := by decide +kernel
theorem dX10_learn_18 : decode cX10_learn 18 = .ok (.invokestatic 76, 3) := by decide +kernel
theorem dX10_learn_21 : decode cX10_learn 21 = .ok (.ifCond .ne 23, 3) := by decide +kernel
theorem dX10_learn_24 : decode cX10_learn 24 = .ok (.iload_n 3, 1) := by decide +kernel
theorem dX10_learn_25 : decode cX10_learn 25 = .ok (.iconst 0, 1) := by decide +kernel
theorem dX10_learn_26 : decode cX10_learn 26 = .ok (.iconst 2, 1) := by decide +kernel
theorem dX10_learn_27 : decode cX10_learn 27 = .ok (.invokestatic 76, 3) := by decide +kernel
theorem dX10_learn_30 : decode cX10_learn 30 = .ok (.ifCond .eq 17, 3) := by decide +kernel
theorem dX10_learn_33 : decode cX10_learn 33 = .ok (.iload_n 3, 1) := by decide +kernel
theorem dX10_learn_34 : decode cX10_learn 34 = .ok (.bipush 10, 2) := by decide +kernel
theorem dX10_learn_36 : decode cX10_learn 36 = .ok (.bipush 17, 2) := by decide +kernel
theorem dX10_learn_38 : decode cX10_learn 38 = .ok (.invokestatic 76, 3) := by decide +kernel
theorem dX10_learn_41 : decode cX10_learn 41 = .ok (.ifCond .eq 6, 3) := by decide +kernel
theorem dX10_learn_44 : decode cX10_learn 44 = .ok (.ldc 239, 2) := by decide +kernel
theorem dX10_learn_46 : decode cX10_learn 46 = .ok (.ireturn, 1) := by decide +kernel
theorem dX10_learn_47 : decode cX10_learn 47 = .ok (.iload_n 3, 1) := by decide +kernel
theorem dX10_learn_48 : decode cX10_learn 48 = .ok (.bipush 10, 2) := by decide +kernel
theorem dX10_learn_50 : decode cX10_learn 50 = .ok (.if_icmp .lt 20, 3) := by decide +kernel
theorem dX10_learn_53 : decode cX10_learn 53 = .ok (.iload_n 3, 1) := by decide +kernel
theorem dX10_learn_54 : decode cX10_learn 54 = .ok (.bipush 10, 2) := by decide +kernel
theorem dX10_learn_56 : decode cX10_learn 56 = .ok (.isub, 1) := by decide +kernel
theorem dX10_learn_57 : decode cX10_learn 57 = .ok (.aload_n 0, 1) := by decide +kernel
theorem dX10_learn_58 : decode cX10_learn 58 = .ok (.getfield 72, 3) := by decide +kernel
theorem dX10_learn_61 : decode cX10_learn 61 = .ok (.getfield 256, 3) := by decide +kernel
theorem dX10_learn_64 : decode cX10_learn 64 = .ok (.if_icmp .lt 6, 3) := by decide +kernel
theorem dX10_learn_67 : decode cX10_learn 67 = .ok (.bipush (-6), 2) := by decide +kernel
theorem dX10_learn_69 : decode cX10_learn 69 = .ok (.ireturn, 1) := by decide +kernel
theorem dX10_learn_70 : decode cX10_learn 70 = .ok (.aload_n 0, 1) := by decide +kernel
theorem dX10_learn_71 : decode cX10_learn 71 = .ok (.getfield 72, 3) := by decide +kernel
theorem dX10_learn_74 : decode cX10_learn 74 = .ok (.iload_n 1, 1) := by decide +kernel
theorem dX10_learn_75 : decode cX10_learn 75 = .ok (.iload_n 2, 1) := by decide +kernel
theorem dX10_learn_76 : decode cX10_learn 76 = .ok (.invokevirtual 260, 3) := by decide +kernel
theorem dX10_learn_79 : decode cX10_learn 79 = .ok (.iload_n 3, 1) := by decide +kernel
theorem dX10_learn_80 : decode cX10_learn 80 = .ok (.bipush 10, 2) := by decide +kernel
theorem dX10_learn_82 : decode cX10_learn 82 = .ok (.if_icmp .lt 16, 3) := by decide +kernel
theorem dX10_learn_85 : decode cX10_learn 85 = .ok (.aload_n 0, 1) := by decide +kernel
theorem dX10_learn_86 : decode cX10_learn 86 = .ok (.getfield 72, 3) := by decide +kernel
theorem dX10_learn_89 : decode cX10_learn 89 = .ok (.getfield 263, 3) := by decide +kernel
theorem dX10_learn_92 : decode cX10_learn 92 = .ok (.iload_n 3, 1) := by decide +kernel
theorem dX10_learn_93 : decode cX10_learn 93 = .ok (.bipush 10, 2) := by decide +kernel
theorem dX10_learn_95 : decode cX10_learn 95 = .ok (.isub, 1) := by decide +kernel
theorem dX10_learn_96 : decode cX10_learn 96 = .ok (.iaload, 1) := by decide +kernel
theorem dX10_learn_97 : decode cX10_learn 97 = .ok (.ireturn, 1) := by decide +kernel
theorem dX10_learn_98 : decode cX10_learn 98 = .ok (.aload_n 0, 1) := by decide +kernel
theorem dX10_learn_99 : decode cX10_learn 99 = .ok (.getfield 72, 3) := by decide +kernel
theorem dX10_learn_102 : decode cX10_learn 102 = .ok (.getfield 266, 3) := by decide +kernel
theorem dX10_learn_105 : decode cX10_learn 105 = .ok (.aload_n 0, 1) := by decide +kernel
theorem dX10_learn_106 : decode cX10_learn 106 = .ok (.getfield 72, 3) := by decide +kernel
theorem dX10_learn_109 : decode cX10_learn 109 = .ok (.invokevirtual 269, 3) := by decide +kernel
theorem dX10_learn_112 : decode cX10_learn 112 = .ok (.iaload, 1) := by decide +kernel
theorem dX10_learn_113 : decode cX10_learn 113 = .ok (.istore 4, 2) := by decide +kernel
theorem dX10_learn_115 : decode cX10_learn 115 = .ok (.iload_n 3, 1) := by decide +kernel
theorem dX10_learn_116 : decode cX10_learn 116 = .ok (.ifCond .ne 11, 3) := by decide +kernel
theorem dX10_learn_119 : decode cX10_learn 119 = .ok (.aload_n 0, 1) := by decide +kernel
theorem dX10_learn_120 : decode cX10_learn 120 = .ok (.getfield 72, 3) := by decide +kernel
theorem dX10_learn_123 : decode cX10_learn 123 = .ok (.getfield 272, 3) := by decide +kernel
theorem dX10_learn_126 : decode cX10_learn 126 = .ok (.ireturn, 1) := by decide +kernel
theorem dX10_learn_127 : decode cX10_learn 127 = .ok (.iload_n 3, 1) := by decide +kernel
theorem dX10_learn_128 : decode cX10_learn 128 = .ok (.iconst 1, 1) := by decide +kernel
theorem dX10_learn_129 : decode cX10_learn 129 = .ok (.if_icmp .ne 8, 3) := by decide +kernel
theorem dX10_learn_132 : decode cX10_learn 132 = .ok (.iload 4, 2) := by decide +kernel
theorem dX10_learn_134 : decode cX10_learn 134 = .ok (.goto 13, 3) := by decide +kernel
theorem dX10_learn_137 : decode cX10_learn 137 = .ok (.iload 4, 2) := by decide +kernel
theorem dX10_learn_139 : decode cX10_learn 139 = .ok (.aload_n 0, 1) := by decide +kernel
theorem dX10_learn_140 : decode cX10_learn 140 = .ok (.getfield 72, 3) := by decide +kernel
theorem dX10_learn_143 : decode cX10_learn 143 = .ok (.getfield 272, 3) := by decide +kernel
theorem dX10_learn_146 : decode cX10_learn 146 = .ok (.isub, 1) := by decide +kernel
theorem dX10_learn_147 : decode cX10_learn 147 = .ok (.ireturn, 1) := by decide +kernel
theorem dX10_told_0 : decode cX10_told 0 = .ok (.iload_n 1, 1) := by decide +kernel
theorem dX10_told_1 : decode cX10_told 1 = .ok (.tableswitch 75 0 4 #[35, 43, 51, 59, 67], 35) := by decide +kernel
theorem dX10_told_36 : decode cX10_told 36 = .ok (.aload_n 0, 1) := by decide +kernel
theorem dX10_told_37 : decode cX10_told 37 = .ok (.getfield 10, 3) := by decide +kernel
theorem dX10_told_40 : decode cX10_told 40 = .ok (.getfield 80, 3) := by decide +kernel
theorem dX10_told_43 : decode cX10_told 43 = .ok (.ireturn, 1) := by decide +kernel
theorem dX10_told_44 : decode cX10_told 44 = .ok (.aload_n 0, 1) := by decide +kernel
theorem dX10_told_45 : decode cX10_told 45 = .ok (.getfield 10, 3) := by decide +kernel
theorem dX10_told_48 : decode cX10_told 48 = .ok (.getfield 91, 3) := by decide +kernel
theorem dX10_told_51 : decode cX10_told 51 = .ok (.ireturn, 1) := by decide +kernel
theorem dX10_told_52 : decode cX10_told 52 = .ok (.aload_n 0, 1) := by decide +kernel
theorem dX10_told_53 : decode cX10_told 53 = .ok (.getfield 19, 3) := by decide +kernel
theorem dX10_told_56 : decode cX10_told 56 = .ok (.getfield 112, 3) := by decide +kernel
theorem dX10_told_59 : decode cX10_told 59 = .ok (.ireturn, 1) := by decide +kernel
theorem dX10_told_60 : decode cX10_told 60 = .ok (.aload_n 0, 1) := by decide +kernel
theorem dX10_told_61 : decode cX10_told 61 = .ok (.getfield 72, 3) := by decide +kernel
theorem dX10_told_64 : decode cX10_told 64 = .ok (.getfield 256, 3) := by decide +kernel
theorem dX10_told_67 : decode cX10_told 67 = .ok (.ireturn, 1) := by decide +kernel
theorem dX10_told_68 : decode cX10_told 68 = .ok (.aload_n 0, 1) := by decide +kernel
theorem dX10_told_69 : decode cX10_told 69 = .ok (.getfield 10, 3) := by decide +kernel
theorem dX10_told_72 : decode cX10_told 72 = .ok (.getfield 154, 3) := by decide +kernel
theorem dX10_told_75 : decode cX10_told 75 = .ok (.ireturn, 1) := by decide +kernel
theorem dX10_told_76 : decode cX10_told 76 = .ok (.iload_n 1, 1) := by decide +kernel
theorem dX10_told_77 : decode cX10_told 77 = .ok (.bipush 10, 2) := by decide +kernel
theorem dX10_told_79 : decode cX10_told 79 = .ok (.bipush 15, 2) := by decide +kernel
theorem dX10_told_81 : decode cX10_told 81 = .ok (.invokestatic 76, 3) := by decide +kernel
theorem dX10_told_84 : decode cX10_told 84 = .ok (.ifCond .eq 8, 3) := by decide +kernel
theorem dX10_told_87 : decode cX10_told 87 = .ok (.bipush (-2), 2) := by decide +kernel
theorem dX10_told_89 : decode cX10_told 89 = .ok (.goto 18, 3) := by decide +kernel
theorem dX10_told_92 : decode cX10_told 92 = .ok (.aload_n 0, 1) := by decide +kernel
theorem dX10_told_93 : decode cX10_told 93 = .ok (.getfield 10, 3) := by decide +kernel
theorem dX10_told_96 : decode cX10_told 96 = .ok (.getfield 104, 3) := by decide +kernel
theorem dX10_told_99 : decode cX10_told 99 = .ok (.iload_n 1, 1) := by decide +kernel
theorem dX10_told_100 : decode cX10_told 100 = .ok (.bipush 10, 2) := by decide +kernel
theorem dX10_told_102 : decode cX10_told 102 = .ok (.isub, 1) := by decide +kernel
theorem dX10_told_103 : decode cX10_told 103 = .ok (.aaload, 1) := by decide +kernel
theorem dX10_told_104 : decode cX10_told 104 = .ok (.getfield 125, 3) := by decide +kernel
theorem dX10_told_107 : decode cX10_told 107 = .ok (.ireturn, 1) := by decide +kernel
theorem dX10_isNot_0 : decode cX10_isNot 0 = .ok (.iload_n 0, 1) := by decide +kernel
theorem dX10_isNot_1 : decode cX10_isNot 1 = .ok (.iload_n 1, 1) := by decide +kernel
theorem dX10_isNot_2 : decode cX10_isNot 2 = .ok (.if_icmp .lt 8, 3) := by decide +kernel
theorem dX10_isNot_5 : decode cX10_isNot 5 = .ok (.iload_n 0, 1) := by decide +kernel
theorem dX10_isNot_6 : decode cX10_isNot 6 = .ok (.iload_n 2, 1) := by decide +kernel
theorem dX10_isNot_7 : decode cX10_isNot 7 = .ok (.if_icmp .le 7, 3) := by decide +kernel
theorem dX10_isNot_10 : decode cX10_isNot 10 = .ok (.iconst 1, 1) := by decide +kernel
theorem dX10_isNot_11 : decode cX10_isNot 11 = .ok (.goto 4, 3) := by decide +kernel
theorem dX10_isNot_14 : decode cX10_isNot 14 = .ok (.iconst 0, 1) := by decide +kernel
theorem dX10_isNot_15 : decode cX10_isNot 15 = .ok (.ireturn, 1) := by decide +kernel
theorem dX10_forget_0 : decode cX10_forget 0 = .ok (.aload_n 0, 1) := by decide +kernel
theorem dX10_forget_1 : decode cX10_forget 1 = .ok (.getfield 54, 3) := by decide +kernel
theorem dX10_forget_4 : decode cX10_forget 4 = .ok (.iconst 0, 1) := by decide +kernel
theorem dX10_forget_5 : decode cX10_forget 5 = .ok (.putfield 275, 3) := by decide +kernel
theorem dX10_forget_8 : decode cX10_forget 8 = .ok (.aload_n 0, 1) := by decide +kernel
theorem dX10_forget_9 : decode cX10_forget 9 = .ok (.getfield 63, 3) := by decide +kernel
theorem dX10_forget_12 : decode cX10_forget 12 = .ok (.iconst 0, 1) := by decide +kernel
theorem dX10_forget_13 : decode cX10_forget 13 = .ok (.putfield 279, 3) := by decide +kernel
theorem dX10_forget_16 : decode cX10_forget 16 = .ok (.return_, 1) := by decide +kernel
theorem dJ6_bitCount_0f7a4_0 : decode cJ6_bitCount_0f7a4 0 = .ok (.iload_n 0, 1) := by decide +kernel
theorem dJ6_bitCount_0f7a4_1 : decode cJ6_bitCount_0f7a4 1 = .ok (.iload_n 0, 1) := by decide +kernel
theorem dJ6_bitCount_0f7a4_2 : decode cJ6_bitCount_0f7a4 2 = .ok (.iconst 1, 1) := by decide +kernel
theorem dJ6_bitCount_0f7a4_3 : decode cJ6_bitCount_0f7a4 3 = .ok (.iushr, 1) := by decide +kernel
theorem dJ6_bitCount_0f7a4_4 : decode cJ6_bitCount_0f7a4 4 = .ok (.ldc_w 265, 3) := by decide +kernel
theorem dJ6_bitCount_0f7a4_7 : decode cJ6_bitCount_0f7a4 7 = .ok (.iand, 1) := by decide +kernel
theorem dJ6_bitCount_0f7a4_8 : decode cJ6_bitCount_0f7a4 8 = .ok (.isub, 1) := by decide +kernel
theorem dJ6_bitCount_0f7a4_9 : decode cJ6_bitCount_0f7a4 9 = .ok (.istore_n 0, 1) := by decide +kernel
theorem dJ6_bitCount_0f7a4_10 : decode cJ6_bitCount_0f7a4 10 = .ok (.iload_n 0, 1) := by decide +kernel
theorem dJ6_bitCount_0f7a4_11 : decode cJ6_bitCount_0f7a4 11 = .ok (.ldc_w 266, 3) := by decide +kernel
theorem dJ6_bitCount_0f7a4_14 : decode cJ6_bitCount_0f7a4 14 = .ok (.iand, 1) := by decide +kernel
theorem dJ6_bitCount_0f7a4_15 : decode cJ6_bitCount_0f7a4 15 = .ok (.iload_n 0, 1) := by decide +kernel
theorem dJ6_bitCount_0f7a4_16 : decode cJ6_bitCount_0f7a4 16 = .ok (.iconst 2, 1) := by decide +kernel
theorem dJ6_bitCount_0f7a4_17 : decode cJ6_bitCount_0f7a4 17 = .ok (.iushr, 1) := by decide +kernel
theorem dJ6_bitCount_0f7a4_18 : decode cJ6_bitCount_0f7a4 18 = .ok (.ldc_w 266, 3) := by decide +kernel
theorem dJ6_bitCount_0f7a4_21 : decode cJ6_bitCount_0f7a4 21 = .ok (.iand, 1) := by decide +kernel
theorem dJ6_bitCount_0f7a4_22 : decode cJ6_bitCount_0f7a4 22 = .ok (.iadd, 1) := by decide +kernel
theorem dJ6_bitCount_0f7a4_23 : decode cJ6_bitCount_0f7a4 23 = .ok (.istore_n 0, 1) := by decide +kernel
theorem dJ6_bitCount_0f7a4_24 : decode cJ6_bitCount_0f7a4 24 = .ok (.iload_n 0, 1) := by decide +kernel
theorem dJ6_bitCount_0f7a4_25 : decode cJ6_bitCount_0f7a4 25 = .ok (.iload_n 0, 1) := by decide +kernel
theorem dJ6_bitCount_0f7a4_26 : decode cJ6_bitCount_0f7a4 26 = .ok (.iconst 4, 1) := by decide +kernel
theorem dJ6_bitCount_0f7a4_27 : decode cJ6_bitCount_0f7a4 27 = .ok (.iushr, 1) := by decide +kernel
theorem dJ6_bitCount_0f7a4_28 : decode cJ6_bitCount_0f7a4 28 = .ok (.iadd, 1) := by decide +kernel
theorem dJ6_bitCount_0f7a4_29 : decode cJ6_bitCount_0f7a4 29 = .ok (.ldc_w 267, 3) := by decide +kernel
theorem dJ6_bitCount_0f7a4_32 : decode cJ6_bitCount_0f7a4 32 = .ok (.iand, 1) := by decide +kernel
theorem dJ6_bitCount_0f7a4_33 : decode cJ6_bitCount_0f7a4 33 = .ok (.istore_n 0, 1) := by decide +kernel
theorem dJ6_bitCount_0f7a4_34 : decode cJ6_bitCount_0f7a4 34 = .ok (.iload_n 0, 1) := by decide +kernel
theorem dJ6_bitCount_0f7a4_35 : decode cJ6_bitCount_0f7a4 35 = .ok (.iload_n 0, 1) := by decide +kernel
theorem dJ6_bitCount_0f7a4_36 : decode cJ6_bitCount_0f7a4 36 = .ok (.bipush 8, 2) := by decide +kernel
theorem dJ6_bitCount_0f7a4_38 : decode cJ6_bitCount_0f7a4 38 = .ok (.iushr, 1) := by decide +kernel
theorem dJ6_bitCount_0f7a4_39 : decode cJ6_bitCount_0f7a4 39 = .ok (.iadd, 1) := by decide +kernel
theorem dJ6_bitCount_0f7a4_40 : decode cJ6_bitCount_0f7a4 40 = .ok (.istore_n 0, 1) := by decide +kernel
theorem dJ6_bitCount_0f7a4_41 : decode cJ6_bitCount_0f7a4 41 = .ok (.iload_n 0, 1) := by decide +kernel
theorem dJ6_bitCount_0f7a4_42 : decode cJ6_bitCount_0f7a4 42 = .ok (.iload_n 0, 1) := by decide +kernel
theorem dJ6_bitCount_0f7a4_43 : decode cJ6_bitCount_0f7a4 43 = .ok (.bipush 16, 2) := by decide +kernel
theorem dJ6_bitCount_0f7a4_45 : decode cJ6_bitCount_0f7a4 45 = .ok (.iushr, 1) := by decide +kernel
theorem dJ6_bitCount_0f7a4_46 : decode cJ6_bitCount_0f7a4 46 = .ok (.iadd, 1) := by decide +kernel
theorem dJ6_bitCount_0f7a4_47 : decode cJ6_bitCount_0f7a4 47 = .ok (.istore_n 0, 1) := by decide +kernel
theorem dJ6_bitCount_0f7a4_48 : decode cJ6_bitCount_0f7a4 48 = .ok (.iload_n 0, 1) := by decide +kernel
theorem dJ6_bitCount_0f7a4_49 : decode cJ6_bitCount_0f7a4 49 = .ok (.bipush 63, 2) := by decide +kernel
theorem dJ6_bitCount_0f7a4_51 : decode cJ6_bitCount_0f7a4 51 = .ok (.iand, 1) := by decide +kernel
theorem dJ6_bitCount_0f7a4_52 : decode cJ6_bitCount_0f7a4 52 = .ok (.ireturn, 1) := by decide +kernel
theorem dJ9_max_7cf53_0 : decode cJ9_max_7cf53 0 = .ok (.iload_n 0, 1) := by decide +kernel
theorem dJ9_max_7cf53_1 : decode cJ9_max_7cf53 1 = .ok (.iload_n 1, 1) := by decide +kernel
theorem dJ9_max_7cf53_2 : decode cJ9_max_7cf53 2 = .ok (.if_icmp .lt 7, 3) := by decide +kernel
theorem dJ9_max_7cf53_5 : decode cJ9_max_7cf53 5 = .ok (.iload_n 0, 1) := by decide +kernel
theorem dJ9_max_7cf53_6 : decode cJ9_max_7cf53 6 = .ok (.goto 4, 3) := by decide +kernel
theorem dJ9_max_7cf53_9 : decode cJ9_max_7cf53 9 = .ok (.iload_n 1, 1) := by decide +kernel
theorem dJ9_max_7cf53_10 : decode cJ9_max_7cf53 10 = .ok (.ireturn, 1) := by decide +kernel
theorem dJ9_min_7cf53_0 : decode cJ9_min_7cf53 0 = .ok (.iload_n 0, 1) := by decide +kernel
theorem dJ9_min_7cf53_1 : decode cJ9_min_7cf53 1 = .ok (.iload_n 1, 1) := by decide +kernel
theorem dJ9_min_7cf53_2 : decode cJ9_min_7cf53 2 = .ok (.if_icmp .gt 7, 3) := by decide +kernel
theorem dJ9_min_7cf53_5 : decode cJ9_min_7cf53 5 = .ok (.iload_n 0, 1) := by decide +kernel
theorem dJ9_min_7cf53_6 : decode cJ9_min_7cf53 6 = .ok (.goto 4, 3) := by decide +kernel
theorem dJ9_min_7cf53_9 : decode cJ9_min_7cf53 9 = .ok (.iload_n 1, 1) := by decide +kernel
theorem dJ9_min_7cf53_10 : decode cJ9_min_7cf53 10 = .ok (.ireturn, 1) := by decide +kernel
