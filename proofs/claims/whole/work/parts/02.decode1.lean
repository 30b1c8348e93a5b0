theorem dX4_solve_69 : decode cX4_solve 69 = .ok (.idiv, 1) := by decide +kernel
theorem dX4_solve_70 : decode cX4_solve 70 = .ok (.putfield 32, 3) := by decide +kernel
theorem dX4_solve_73 : decode cX4_solve 73 = .ok (.aload_n 0, 1) := by decide +kernel
theorem dX4_solve_74 : decode cX4_solve 74 = .ok (.dup, 1) := by decide +kernel
theorem dX4_solve_75 : decode cX4_solve 75 = .ok (.getfield 35, 3) := by decide +kernel
theorem dX4_solve_78 : decode cX4_solve 78 = .ok (.iload 5, 2) := by decide +kernel
theorem dX4_solve_80 : decode cX4_solve 80 = .ok (.idiv, 1) := by decide +kernel
theorem dX4_solve_81 : decode cX4_solve 81 = .ok (.putfield 35, 3) := by decide +kernel
theorem dX4_solve_84 : decode cX4_solve 84 = .ok (.aload_n 0, 1) := by decide +kernel
theorem dX4_solve_85 : decode cX4_solve 85 = .ok (.getfield 42, 3) := by decide +kernel
theorem dX4_solve_88 : decode cX4_solve 88 = .ok (.aload_n 0, 1) := by decide +kernel
theorem dX4_solve_89 : decode cX4_solve 89 = .ok (.getfield 45, 3) := by decide +kernel
theorem dX4_solve_92 : decode cX4_solve 92 = .ok (.invokestatic 38, 3) := by decide +kernel
theorem dX4_solve_95 : decode cX4_solve 95 = .ok (.istore 6, 2) := by decide +kernel
theorem dX4_solve_97 : decode cX4_solve 97 = .ok (.aload_n 0, 1) := by decide +kernel
theorem dX4_solve_98 : decode cX4_solve 98 = .ok (.dup, 1) := by decide +kernel
theorem dX4_solve_99 : decode cX4_solve 99 = .ok (.getfield 42, 3) := by decide +kernel
theorem dX4_solve_102 : decode cX4_solve 102 = .ok (.iload 6, 2) := by decide +kernel
theorem dX4_solve_104 : decode cX4_solve 104 = .ok (.idiv, 1) := by decide +kernel
theorem dX4_solve_105 : decode cX4_solve 105 = .ok (.putfield 42, 3) := by decide +kernel
theorem dX4_solve_108 : decode cX4_solve 108 = .ok (.aload_n 0, 1) := by decide +kernel
theorem dX4_solve_109 : decode cX4_solve 109 = .ok (.dup, 1) := by decide +kernel
theorem dX4_solve_110 : decode cX4_solve 110 = .ok (.getfield 45, 3) := by decide +kernel
theorem dX4_solve_113 : decode cX4_solve 113 = .ok (.iload 6, 2) := by decide +kernel
theorem dX4_solve_115 : decode cX4_solve 115 = .ok (.idiv, 1) := by decide +kernel
theorem dX4_solve_116 : decode cX4_solve 116 = .ok (.putfield 45, 3) := by decide +kernel
theorem dX4_solve_119 : decode cX4_solve 119 = .ok (.return_, 1) := by decide +kernel
theorem dX4_tryEvenOdds_0 : decode cX4_tryEvenOdds 0 = .ok (.iload_n 1, 1) := by decide +kernel
theorem dX4_tryEvenOdds_1 : decode cX4_tryEvenOdds 1 = .ok (.invokestatic 48, 3) := by decide +kernel
theorem dX4_tryEvenOdds_4 : decode cX4_tryEvenOdds 4 = .ok (.istore_n 3, 1) := by decide +kernel
theorem dX4_tryEvenOdds_5 : decode cX4_tryEvenOdds 5 = .ok (.iload_n 1, 1) := by decide +kernel
theorem dX4_tryEvenOdds_6 : decode cX4_tryEvenOdds 6 = .ok (.ifCond .ge 8, 3) := by decide +kernel
theorem dX4_tryEvenOdds_9 : decode cX4_tryEvenOdds 9 = .ok (.iload_n 2, 1) := by decide +kernel
theorem dX4_tryEvenOdds_10 : decode cX4_tryEvenOdds 10 = .ok (.ineg, 1) := by decide +kernel
theorem dX4_tryEvenOdds_11 : decode cX4_tryEvenOdds 11 = .ok (.goto 4, 3) := by decide +kernel
theorem dX4_tryEvenOdds_14 : decode cX4_tryEvenOdds 14 = .ok (.iload_n 2, 1) := by decide +kernel
theorem dX4_tryEvenOdds_15 : decode cX4_tryEvenOdds 15 = .ok (.istore 4, 2) := by decide +kernel
theorem dX4_tryEvenOdds_17 : decode cX4_tryEvenOdds 17 = .ok (.iload 4, 2) := by decide +kernel
theorem dX4_tryEvenOdds_19 : decode cX4_tryEvenOdds 19 = .ok (.ifCond .le 16, 3) := by decide +kernel
theorem dX4_tryEvenOdds_22 : decode cX4_tryEvenOdds 22 = .ok (.iload 4, 2) := by decide +kernel
theorem dX4_tryEvenOdds_24 : decode cX4_tryEvenOdds 24 = .ok (.iload_n 3, 1) := by decide +kernel
theorem dX4_tryEvenOdds_25 : decode cX4_tryEvenOdds 25 = .ok (.if_icmp .ge 10, 3) := by decide +kernel
theorem dX4_tryEvenOdds_28 : decode cX4_tryEvenOdds 28 = .ok (.aload_n 0, 1) := by decide +kernel
theorem dX4_tryEvenOdds_29 : decode cX4_tryEvenOdds 29 = .ok (.iload 4, 2) := by decide +kernel
theorem dX4_tryEvenOdds_31 : decode cX4_tryEvenOdds 31 = .ok (.iload_n 3, 1) := by decide +kernel
theorem dX4_tryEvenOdds_32 : decode cX4_tryEvenOdds 32 = .ok (.invokevirtual 29, 3) := by decide +kernel
theorem dX4_tryEvenOdds_35 : decode cX4_tryEvenOdds 35 = .ok (.return_, 1) := by decide +kernel
theorem dX4_tryOdds_0 : decode cX4_tryOdds 0 = .ok (.aload_n 0, 1) := by decide +kernel
theorem dX4_tryOdds_1 : decode cX4_tryOdds 1 = .ok (.iload_n 1, 1) := by decide +kernel
theorem dX4_tryOdds_2 : decode cX4_tryOdds 2 = .ok (.iload_n 2, 1) := by decide +kernel
theorem dX4_tryOdds_3 : decode cX4_tryOdds 3 = .ok (.invokevirtual 54, 3) := by decide +kernel
theorem dX4_tryOdds_6 : decode cX4_tryOdds 6 = .ok (.aload_n 0, 1) := by decide +kernel
theorem dX4_tryOdds_7 : decode cX4_tryOdds 7 = .ok (.getfield 35, 3) := by decide +kernel
theorem dX4_tryOdds_10 : decode cX4_tryOdds 10 = .ok (.imul, 1) := by decide +kernel
theorem dX4_tryOdds_11 : decode cX4_tryOdds 11 = .ok (.aload_n 0, 1) := by decide +kernel
theorem dX4_tryOdds_12 : decode cX4_tryOdds 12 = .ok (.getfield 32, 3) := by decide +kernel
theorem dX4_tryOdds_15 : decode cX4_tryOdds 15 = .ok (.iload_n 2, 1) := by decide +kernel
theorem dX4_tryOdds_16 : decode cX4_tryOdds 16 = .ok (.imul, 1) := by decide +kernel
theorem dX4_tryOdds_17 : decode cX4_tryOdds 17 = .ok (.if_icmp .le 9, 3) := by decide +kernel
theorem dX4_tryOdds_20 : decode cX4_tryOdds 20 = .ok (.aload_n 0, 1) := by decide +kernel
theorem dX4_tryOdds_21 : decode cX4_tryOdds 21 = .ok (.iload_n 1, 1) := by decide +kernel
theorem dX4_tryOdds_22 : decode cX4_tryOdds 22 = .ok (.iload_n 2, 1) := by decide +kernel
theorem dX4_tryOdds_23 : decode cX4_tryOdds 23 = .ok (.invokevirtual 22, 3) := by decide +kernel
theorem dX4_tryOdds_26 : decode cX4_tryOdds 26 = .ok (.return_, 1) := by decide +kernel
theorem dX4_setOdds_0 : decode cX4_setOdds 0 = .ok (.aload_n 0, 1) := by decide +kernel
theorem dX4_setOdds_1 : decode cX4_setOdds 1 = .ok (.iload_n 1, 1) := by decide +kernel
theorem dX4_setOdds_2 : decode cX4_setOdds 2 = .ok (.putfield 42, 3) := by decide +kernel
theorem dX4_setOdds_5 : decode cX4_setOdds 5 = .ok (.aload_n 0, 1) := by decide +kernel
theorem dX4_setOdds_6 : decode cX4_setOdds 6 = .ok (.iload_n 2, 1) := by decide +kernel
theorem dX4_setOdds_7 : decode cX4_setOdds 7 = .ok (.putfield 45, 3) := by decide +kernel
theorem dX4_setOdds_10 : decode cX4_setOdds 10 = .ok (.aload_n 0, 1) := by decide +kernel
theorem dX4_setOdds_11 : decode cX4_setOdds 11 = .ok (.aload_n 0, 1) := by decide +kernel
theorem dX4_setOdds_12 : decode cX4_setOdds 12 = .ok (.iload_n 1, 1) := by decide +kernel
theorem dX4_setOdds_13 : decode cX4_setOdds 13 = .ok (.iload_n 2, 1) := by decide +kernel
theorem dX4_setOdds_14 : decode cX4_setOdds 14 = .ok (.invokevirtual 54, 3) := by decide +kernel
theorem dX4_setOdds_17 : decode cX4_setOdds 17 = .ok (.putfield 32, 3) := by decide +kernel
theorem dX4_setOdds_20 : decode cX4_setOdds 20 = .ok (.aload_n 0, 1) := by decide +kernel
theorem dX4_setOdds_21 : decode cX4_setOdds 21 = .ok (.iload_n 2, 1) := by decide +kernel
theorem dX4_setOdds_22 : decode cX4_setOdds 22 = .ok (.putfield 35, 3) := by decide +kernel
theorem dX4_setOdds_25 : decode cX4_setOdds 25 = .ok (.return_, 1) := by decide +kernel
theorem dX4_valueOf_0 : decode cX4_valueOf 0 = .ok (.aload_n 0, 1) := by decide +kernel
theorem dX4_valueOf_1 : decode cX4_valueOf 1 = .ok (.getfield 7, 3) := by decide +kernel
theorem dX4_valueOf_4 : decode cX4_valueOf 4 = .ok (.iload_n 1, 1) := by decide +kernel
theorem dX4_valueOf_5 : decode cX4_valueOf 5 = .ok (.imul, 1) := by decide +kernel
theorem dX4_valueOf_6 : decode cX4_valueOf 6 = .ok (.aload_n 0, 1) := by decide +kernel
theorem dX4_valueOf_7 : decode cX4_valueOf 7 = .ok (.getfield 16, 3) := by decide +kernel
theorem dX4_valueOf_10 : decode cX4_valueOf 10 = .ok (.iload_n 2, 1) := by decide +kernel
theorem dX4_valueOf_11 : decode cX4_valueOf 11 = .ok (.iload_n 1, 1) := by decide +kernel
theorem dX4_valueOf_12 : decode cX4_valueOf 12 = .ok (.isub, 1) := by decide +kernel
theorem dX4_valueOf_13 : decode cX4_valueOf 13 = .ok (.imul, 1) := by decide +kernel
theorem dX4_valueOf_14 : decode cX4_valueOf 14 = .ok (.iadd, 1) := by decide +kernel
theorem dX4_valueOf_15 : decode cX4_valueOf 15 = .ok (.istore_n 3, 1) := by decide +kernel
theorem dX4_valueOf_16 : decode cX4_valueOf 16 = .ok (.aload_n 0, 1) := by decide +kernel
theorem dX4_valueOf_17 : decode cX4_valueOf 17 = .ok (.getfield 13, 3) := by decide +kernel
theorem dX4_valueOf_20 : decode cX4_valueOf 20 = .ok (.iload_n 1, 1) := by decide +kernel
theorem dX4_valueOf_21 : decode cX4_valueOf 21 = .ok (.imul, 1) := by decide +kernel
theorem dX4_valueOf_22 : decode cX4_valueOf 22 = .ok (.aload_n 0, 1) := by decide +kernel
theorem dX4_valueOf_23 : decode cX4_valueOf 23 = .ok (.getfield 19, 3) := by decide +kernel
theorem dX4_valueOf_26 : decode cX4_valueOf 26 = .ok (.iload_n 2, 1) := by decide +kernel
theorem dX4_valueOf_27 : decode cX4_valueOf 27 = .ok (.iload_n 1, 1) := by decide +kernel
theorem dX4_valueOf_28 : decode cX4_valueOf 28 = .ok (.isub, 1) := by decide +kernel
theorem dX4_valueOf_29 : decode cX4_valueOf 29 = .ok (.imul, 1) := by decide +kernel
theorem dX4_valueOf_30 : decode cX4_valueOf 30 = .ok (.iadd, 1) := by decide +kernel
theorem dX4_valueOf_31 : decode cX4_valueOf 31 = .ok (.istore 4, 2) := by decide +kernel
theorem dX4_valueOf_33 : decode cX4_valueOf 33 = .ok (.iload_n 3, 1) := by decide +kernel
theorem dX4_valueOf_34 : decode cX4_valueOf 34 = .ok (.iload 4, 2) := by decide +kernel
theorem dX4_valueOf_36 : decode cX4_valueOf 36 = .ok (.invokestatic 57, 3) := by decide +kernel
theorem dX4_valueOf_39 : decode cX4_valueOf 39 = .ok (.ireturn, 1) := by decide +kernel
theorem dX4_greatestCommonPart_0 : decode cX4_greatestCommonPart 0 = .ok (.iload_n 0, 1) := by decide +kernel
theorem dX4_greatestCommonPart_1 : decode cX4_greatestCommonPart 1 = .ok (.iload_n 1, 1) := by decide +kernel
theorem dX4_greatestCommonPart_2 : decode cX4_greatestCommonPart 2 = .ok (.invokestatic 60, 3) := by decide +kernel
theorem dX4_greatestCommonPart_5 : decode cX4_greatestCommonPart 5 = .ok (.istore_n 2, 1) := by decide +kernel
theorem dX4_greatestCommonPart_6 : decode cX4_greatestCommonPart 6 = .ok (.iload_n 0, 1) := by decide +kernel
theorem dX4_greatestCommonPart_7 : decode cX4_greatestCommonPart 7 = .ok (.iload_n 1, 1) := by decide +kernel
theorem dX4_greatestCommonPart_8 : decode cX4_greatestCommonPart 8 = .ok (.invokestatic 57, 3) := by decide +kernel
theorem dX4_greatestCommonPart_11 : decode cX4_greatestCommonPart 11 = .ok (.istore_n 3, 1) := by decide +kernel
theorem dX4_greatestCommonPart_12 : decode cX4_greatestCommonPart 12 = .ok (.iconst 0, 1) := by decide +kernel
theorem dX4_greatestCommonPart_13 : decode cX4_greatestCommonPart 13 = .ok (.istore 4, 2) := by decide +kernel
theorem dX4_greatestCommonPart_15 : decode cX4_greatestCommonPart 15 = .ok (.iload 4, 2) := by decide +kernel
theorem dX4_greatestCommonPart_17 : decode cX4_greatestCommonPart 17 = .ok (.bipush 100, 2) := by decide +kernel
theorem dX4_greatestCommonPart_19 : decode cX4_greatestCommonPart 19 = .ok (.if_icmp .ge 23, 3) := by decide +kernel
theorem dX4_greatestCommonPart_22 : decode cX4_greatestCommonPart 22 = .ok (.iload_n 3, 1) := by decide +kernel
theorem dX4_greatestCommonPart_23 : decode cX4_greatestCommonPart 23 = .ok (.ifCond .le 19, 3) := by decide +kernel
theorem dX4_greatestCommonPart_26 : decode cX4_greatestCommonPart 26 = .ok (.iload_n 2, 1) := by decide +kernel
theorem dX4_greatestCommonPart_27 : decode cX4_greatestCommonPart 27 = .ok (.iload_n 3, 1) := by decide +kernel
theorem dX4_greatestCommonPart_28 : decode cX4_greatestCommonPart 28 = .ok (.irem, 1) := by decide +kernel
theorem dX4_greatestCommonPart_29 : decode cX4_greatestCommonPart 29 = .ok (.istore 5, 2) := by decide +kernel
theorem dX4_greatestCommonPart_31 : decode cX4_greatestCommonPart 31 = .ok (.iload_n 3, 1) := by decide +kernel
theorem dX4_greatestCommonPart_32 : decode cX4_greatestCommonPart 32 = .ok (.istore_n 2, 1) := by decide +kernel
theorem dX4_greatestCommonPart_33 : decode cX4_greatestCommonPart 33 = .ok (.iload 5, 2) := by decide +kernel
theorem dX4_greatestCommonPart_35 : decode cX4_greatestCommonPart 35 = .ok (.istore_n 3, 1) := by decide +kernel
theorem dX4_greatestCommonPart_36 : decode cX4_greatestCommonPart 36 = .ok (.iinc 4 1, 3) := by decide +kernel
theorem dX4_greatestCommonPart_39 : decode cX4_greatestCommonPart 39 = .ok (.goto (-24), 3) := by decide +kernel
theorem dX4_greatestCommonPart_42 : decode cX4_greatestCommonPart 42 = .ok (.iconst 1, 1) := by decide +kernel
theorem dX4_greatestCommonPart_43 : decode cX4_greatestCommonPart 43 = .ok (.iload_n 2, 1) := by decide +kernel
theorem dX4_greatestCommonPart_44 : decode cX4_greatestCommonPart 44 = .ok (.invokestatic 60, 3) := by decide +kernel
theorem dX4_greatestCommonPart_47 : decode cX4_greatestCommonPart 47 = .ok (.ireturn, 1) := by decide +kernel
theorem dX5_init_0 : decode cX5_init 0 = .ok (.aload_n 0, 1) := by decide +kernel
theorem dX5_init_1 : decode cX5_init 1 = .ok (.invokespecial 3, 3) := by decide +kernel
theorem dX5_init_4 : decode cX5_init 4 = .ok (.aload_n 0, 1) := by decide +kernel
theorem dX5_init_5 : decode cX5_init 5 = .ok (.bipush 60, 2) := by decide +kernel
theorem dX5_init_7 : decode cX5_init 7 = .ok (.anewarray 9, 3) := by decide +kernel
theorem dX5_init_10 : decode cX5_init 10 = .ok (.putfield 11, 3) := by decide +kernel
theorem dX5_init_13 : decode cX5_init 13 = .ok (.iconst 0, 1) := by decide +kernel
theorem dX5_init_14 : decode cX5_init 14 = .ok (.istore_n 2, 1) := by decide +kernel
theorem dX5_init_15 : decode cX5_init 15 = .ok (.iload_n 2, 1) := by decide +kernel
theorem dX5_init_16 : decode cX5_init 16 = .ok (.bipush 60, 2) := by decide +kernel
theorem dX5_init_18 : decode cX5_init 18 = .ok (.if_icmp .ge 23, 3) := by decide +kernel
theorem dX5_init_21 : decode cX5_init 21 = .ok (.aload_n 0, 1) := by decide +kernel
theorem dX5_init_22 : decode cX5_init 22 = .ok (.getfield 11, 3) := by decide +kernel
theorem dX5_init_25 : decode cX5_init 25 = .ok (.iload_n 2, 1) := by decide +kernel
theorem dX5_init_26 : decode cX5_init 26 = .ok (.new 9, 3) := by decide +kernel
theorem dX5_init_29 : decode cX5_init 29 = .ok (.dup, 1) := by decide +kernel
theorem dX5_init_30 : decode cX5_init 30 = .ok (.aload_n 1, 1) := by decide +kernel
theorem dX5_init_31 : decode cX5_init 31 = .ok (.invokespecial 17, 3) := by decide +kernel
theorem dX5_init_34 : decode cX5_init 34 = .ok (.aastore, 1) := by decide +kernel
theorem dX5_init_35 : decode cX5_init 35 = .ok (.iinc 2 1, 3) := by decide +kernel
theorem dX5_init_38 : decode cX5_init 38 = .ok (.goto (-23), 3) := by decide +kernel
theorem dX5_init_41 : decode cX5_init 41 = .ok (.return_, 1) := by decide +kernel
theorem dX5_forget_0 : decode cX5_forget 0 = .ok (.aload_n 0, 1) := by decide +kernel
theorem dX5_forget_1 : decode cX5_forget 1 = .ok (.iconst 0, 1) := by decide +kernel
theorem dX5_forget_2 : decode cX5_forget 2 = .ok (.putfield 20, 3) := by decide +kernel
theorem dX5_forget_5 : decode cX5_forget 5 = .ok (.aload_n 0, 1) := by decide +kernel
theorem dX5_forget_6 : decode cX5_forget 6 = .ok (.iconst 0, 1) := by decide +kernel
theorem dX5_forget_7 : decode cX5_forget 7 = .ok (.putfield 24, 3) := by decide +kernel
theorem dX5_forget_10 : decode cX5_forget 10 = .ok (.return_, 1) := by decide +kernel
theorem dX5_add_0 : decode cX5_add 0 = .ok (.aload_n 0, 1) := by decide +kernel
theorem dX5_add_1 : decode cX5_add 1 = .ok (.getfield 11, 3) := by decide +kernel
theorem dX5_add_4 : decode cX5_add 4 = .ok (.aload_n 0, 1) := by decide +kernel
theorem dX5_add_5 : decode cX5_add 5 = .ok (.getfield 24, 3) := by decide +kernel
theorem dX5_add_8 : decode cX5_add 8 = .ok (.aaload, 1) := by decide +kernel
theorem dX5_add_9 : decode cX5_add 9 = .ok (.aload_n 1, 1) := by decide +kernel
theorem dX5_add_10 : decode cX5_add 10 = .ok (.invokevirtual 27, 3) := by decide +kernel
theorem dX5_add_13 : decode cX5_add 13 = .ok (.aload_n 0, 1) := by decide +kernel
theorem dX5_add_14 : decode cX5_add 14 = .ok (.aload_n 0, 1) := by decide +kernel
theorem dX5_add_15 : decode cX5_add 15 = .ok (.getfield 24, 3) := by decide +kernel
theorem dX5_add_18 : decode cX5_add 18 = .ok (.iconst 1, 1) := by decide +kernel
theorem dX5_add_19 : decode cX5_add 19 = .ok (.iadd, 1) := by decide +kernel
theorem dX5_add_20 : decode cX5_add 20 = .ok (.bipush 60, 2) := by decide +kernel
theorem dX5_add_22 : decode cX5_add 22 = .ok (.irem, 1) := by decide +kernel
theorem dX5_add_23 : decode cX5_add 23 = .ok (.putfield 24, 3) := by decide +kernel
theorem dX5_add_26 : decode cX5_add 26 = .ok (.aload_n 0, 1) := by decide +kernel
theorem dX5_add_27 : decode cX5_add 27 = .ok (.bipush 60, 2) := by decide +kernel
theorem dX5_add_29 : decode cX5_add 29 = .ok (.aload_n 0, 1) := by decide +kernel
theorem dX5_add_30 : decode cX5_add 30 = .ok (.getfield 20, 3) := by decide +kernel
theorem dX5_add_33 : decode cX5_add 33 = .ok (.iconst 1, 1) := by decide +kernel
theorem dX5_add_34 : decode cX5_add 34 = .ok (.iadd, 1) := by decide +kernel
theorem dX5_add_35 : decode cX5_add 35 = .ok (.invokestatic 31, 3) := by decide +kernel
theorem dX5_add_38 : decode cX5_add 38 = .ok (.putfield 20, 3) := by decide +kernel
theorem dX5_add_41 : decode cX5_add 41 = .ok (.return_, 1) := by decide +kernel
theorem dX5_takeBack_0 : decode cX5_takeBack 0 = .ok (.iload_n 2, 1) := by decide +kernel
theorem dX5_takeBack_1 : decode cX5_takeBack 1 = .ok (.iconst 1, 1) := by decide +kernel
theorem dX5_takeBack_2 : decode cX5_takeBack 2 = .ok (.if_icmp .lt 11, 3) := by decide +kernel
theorem dX5_takeBack_5 : decode cX5_takeBack 5 = .ok (.iload_n 2, 1) := by decide +kernel
theorem dX5_takeBack_6 : decode cX5_takeBack 6 = .ok (.aload_n 0, 1) := by decide +kernel
theorem dX5_takeBack_7 : decode cX5_takeBack 7 = .ok (.getfield 20, 3) := by decide +kernel
theorem dX5_takeBack_10 : decode cX5_takeBack 10 = .ok (.if_icmp .le 4, 3) := by decide +kernel
theorem dX5_takeBack_13 : decode cX5_takeBack 13 = .ok (.return_, 1) := by decide +kernel
theorem dX5_takeBack_14 : decode cX5_takeBack 14 = .ok (.aload_n 0, 1) := by decide +kernel
theorem dX5_takeBack_15 : decode cX5_takeBack 15 = .ok (.aload_n 0, 1) := by decide +kernel
theorem dX5_takeBack_16 : decode cX5_takeBack 16 = .ok (.getfield 24, 3) := by decide +kernel
theorem dX5_takeBack_19 : decode cX5_takeBack 19 = .ok (.bipush 60, 2) := by decide +kernel
theorem dX5_takeBack_21 : decode cX5_takeBack 21 = .ok (.iadd, 1) := by decide +kernel
theorem dX5_takeBack_22 : decode cX5_takeBack 22 = .ok (.iload_n 2, 1) := by decide +kernel
theorem dX5_takeBack_23 : decode cX5_takeBack 23 = .ok (.isub, 1) := by decide +kernel
theorem dX5_takeBack_24 : decode cX5_takeBack 24 = .ok (.bipush 60, 2) := by decide +kernel
theorem dX5_takeBack_26 : decode cX5_takeBack 26 = .ok (.irem, 1) := by decide +kernel
theorem dX5_takeBack_27 : decode cX5_takeBack 27 = .ok (.putfield 24, 3) := by decide +kernel
theorem dX5_takeBack_30 : decode cX5_takeBack 30 = .ok (.aload_n 0, 1) := by decide +kernel
theorem dX5_takeBack_31 : decode cX5_takeBack 31 = .ok (.dup, 1) := by decide +kernel
theorem dX5_takeBack_32 : decode cX5_takeBack 32 = .ok (.getfield 20, 3) := by decide +kernel
theorem dX5_takeBack_35 : decode cX5_takeBack 35 = .ok (.iload_n 2, 1) := by decide +kernel
theorem dX5_takeBack_36 : decode cX5_takeBack 36 = .ok (.isub, 1) := by decide +kernel
theorem dX5_takeBack_37 : decode cX5_takeBack 37 = .ok (.putfield 20, 3) := by decide +kernel
theorem dX5_takeBack_40 : decode cX5_takeBack 40 = .ok (.aload_n 1, 1) := by decide +kernel
theorem dX5_takeBack_41 : decode cX5_takeBack 41 = .ok (.aload_n 0, 1) := by decide +kernel
theorem dX5_takeBack_42 : decode cX5_takeBack 42 = .ok (.getfield 11, 3) := by decide +kernel
theorem dX5_takeBack_45 : decode cX5_takeBack 45 = .ok (.aload_n 0, 1) := by decide +kernel
theorem dX5_takeBack_46 : decode cX5_takeBack 46 = .ok (.getfield 24, 3) := by decide +kernel
theorem dX5_takeBack_49 : decode cX5_takeBack 49 = .ok (.aaload, 1) := by decide +kernel
theorem dX5_takeBack_50 : decode cX5_takeBack 50 = .ok (.invokevirtual 27, 3) := by decide +kernel
theorem dX5_takeBack_53 : decode cX5_takeBack 53 = .ok (.return_, 1) := by decide +kernel
theorem dX6_init_0 : decode cX6_init 0 = .ok (.aload_n 0, 1) := by decide +kernel
theorem dX6_init_1 : decode cX6_init 1 = .ok (.invokespecial 3, 3) := by decide +kernel
theorem dX6_init_4 : decode cX6_init 4 = .ok (.aload_n 0, 1) := by decide +kernel
theorem dX6_init_5 : decode cX6_init 5 = .ok (.sipush 250, 3) := by decide +kernel
theorem dX6_init_8 : decode cX6_init 8 = .ok (.newarray .int, 2) := by decide +kernel
theorem dX6_init_10 : decode cX6_init 10 = .ok (.putfield 9, 3) := by decide +kernel
theorem dX6_init_13 : decode cX6_init 13 = .ok (.aload_n 0, 1) := by decide +kernel
theorem dX6_init_14 : decode cX6_init 14 = .ok (.new 15, 3) := by decide +kernel
theorem dX6_init_17 : decode cX6_init 17 = .ok (.dup, 1) := by decide +kernel
theorem dX6_init_18 : decode cX6_init 18 = .ok (.invokespecial 17, 3) := by decide +kernel
theorem dX6_init_21 : decode cX6_init 21 = .ok (.putfield 18, 3) := by decide +kernel
theorem dX6_init_24 : decode cX6_init 24 = .ok (.aload_n 0, 1) := by decide +kernel
theorem dX6_init_25 : decode cX6_init 25 = .ok (.iconst (-1), 1) := by decide +kernel
theorem dX6_init_26 : decode cX6_init 26 = .ok (.putfield 22, 3) := by decide +kernel
theorem dX6_init_29 : decode cX6_init 29 = .ok (.return_, 1) := by decide +kernel
theorem dX6_add_0 : decode cX6_add 0 = .ok (.aload_n 0, 1) := by decide +kernel
theorem dX6_add_1 : decode cX6_add 1 = .ok (.getfield 26, 3) := by decide +kernel
theorem dX6_add_4 : decode cX6_add 4 = .ok (.sipush 250, 3) := by decide +kernel
theorem dX6_add_7 : decode cX6_add 7 = .ok (.if_icmp .ge 23, 3) := by decide +kernel
theorem dX6_add_10 : decode cX6_add 10 = .ok (.aload_n 0, 1) := by decide +kernel
theorem dX6_add_11 : decode cX6_add 11 = .ok (.getfield 9, 3) := by decide +kernel
theorem dX6_add_14 : decode cX6_add 14 = .ok (.aload_n 0, 1) := by decide +kernel
theorem dX6_add_15 : decode cX6_add 15 = .ok (.getfield 26, 3) := by decide +kernel
theorem dX6_add_18 : decode cX6_add 18 = .ok (.iload_n 1, 1) := by decide +kernel
theorem dX6_add_19 : decode cX6_add 19 = .ok (.iastore, 1) := by decide +kernel
theorem dX6_add_20 : decode cX6_add 20 = .ok (.aload_n 0, 1) := by decide +kernel
theorem dX6_add_21 : decode cX6_add 21 = .ok (.dup, 1) := by decide +kernel
theorem dX6_add_22 : decode cX6_add 22 = .ok (.getfield 26, 3) := by decide +kernel
theorem dX6_add_25 : decode cX6_add 25 = .ok (.iconst 1, 1) := by decide +kernel
theorem dX6_add_26 : decode cX6_add 26 = .ok (.iadd, 1) := by decide +kernel
theorem dX6_add_27 : decode cX6_add 27 = .ok (.putfield 26, 3) := by decide +kernel
theorem dX6_add_30 : decode cX6_add 30 = .ok (.aload_n 0, 1) := by decide +kernel
theorem dX6_add_31 : decode cX6_add 31 = .ok (.getfield 26, 3) := by decide +kernel
theorem dX6_add_34 : decode cX6_add 34 = .ok (.ireturn, 1) := by decide +kernel
theorem dX6_readText_0 : decode cX6_readText 0 = .ok (.aload_n 0, 1) := by decide +kernel
theorem dX6_readText_1 : decode cX6_readText 1 = .ok (.getfield 18, 3) := by decide +kernel
theorem dX6_readText_4 : decode cX6_readText 4 = .ok (.invokevirtual 29, 3) := by decide +kernel
theorem dX6_readText_7 : decode cX6_readText 7 = .ok (.aload_n 0, 1) := by decide +kernel
theorem dX6_readText_8 : decode cX6_readText 8 = .ok (.iconst 0, 1) := by decide +kernel
theorem dX6_readText_9 : decode cX6_readText 9 = .ok (.putfield 32, 3) := by decide +kernel
theorem dX6_readText_12 : decode cX6_readText 12 = .ok (.aload_n 0, 1) := by decide +kernel
theorem dX6_readText_13 : decode cX6_readText 13 = .ok (.iconst (-1), 1) := by decide +kernel
theorem dX6_readText_14 : decode cX6_readText 14 = .ok (.putfield 22, 3) := by decide +kernel
theorem dX6_readText_17 : decode cX6_readText 17 = .ok (.aload_n 0, 1) := by decide +kernel
theorem dX6_readText_18 : decode cX6_readText 18 = .ok (.iconst 0, 1) := by decide +kernel
theorem dX6_readText_19 : decode cX6_readText 19 = .ok (.putfield 35, 3) := by decide +kernel
theorem dX6_readText_22 : decode cX6_readText 22 = .ok (.aload_n 0, 1) := by decide +kernel
theorem dX6_readText_23 : decode cX6_readText 23 = .ok (.iconst 0, 1) := by decide +kernel
theorem dX6_readText_24 : decode cX6_readText 24 = .ok (.putfield 38, 3) := by decide +kernel
theorem dX6_readText_27 : decode cX6_readText 27 = .ok (.aload_n 0, 1) := by decide +kernel
theorem dX6_readText_28 : decode cX6_readText 28 = .ok (.iconst 0, 1) := by decide +kernel
theorem dX6_readText_29 : decode cX6_readText 29 = .ok (.putfield 42, 3) := by decide +kernel
theorem dX6_readText_32 : decode cX6_readText 32 = .ok (.iconst 0, 1) := by decide +kernel
theorem dX6_readText_33 : decode cX6_readText 33 = .ok (.istore_n 1, 1) := by decide +kernel
theorem dX6_readText_34 : decode cX6_readText 34 = .ok (.iload_n 1, 1) := by decide +kernel
theorem dX6_readText_35 : decode cX6_readText 35 = .ok (.sipush 250, 3) := by decide +kernel
theorem dX6_readText_38 : decode cX6_readText 38 = .ok (.if_icmp .ge 20, 3) := by decide +kernel
theorem dX6_readText_41 : decode cX6_readText 41 = .ok (.aload_n 0, 1) := by decide +kernel
theorem dX6_readText_42 : decode cX6_readText 42 = .ok (.invokevirtual 45, 3) := by decide +kernel
theorem dX6_readText_45 : decode cX6_readText 45 = .ok (.ifCond .eq 13, 3) := by decide +kernel
theorem dX6_readText_48 : decode cX6_readText 48 = .ok (.aload_n 0, 1) := by decide +kernel
theorem dX6_readText_49 : decode cX6_readText 49 = .ok (.invokevirtual 49, 3) := by decide +kernel
theorem dX6_readText_52 : decode cX6_readText 52 = .ok (.iinc 1 1, 3) := by decide +kernel
theorem dX6_readText_55 : decode cX6_readText 55 = .ok (.goto (-21), 3) := by decide +kernel
theorem dX6_readText_58 : decode cX6_readText 58 = .ok (.aload_n 0, 1) := by decide +kernel
theorem dX6_readText_59 : decode cX6_readText 59 = .ok (.iconst 0, 1) := by decide +kernel
theorem dX6_readText_60 : decode cX6_readText 60 = .ok (.putfield 26, 3) := by decide +kernel
theorem dX6_readText_63 : decode cX6_readText 63 = .ok (.return_, 1) := by decide +kernel
theorem dX6_hasMore_0 : decode cX6_hasMore 0 = .ok (.aload_n 0, 1) := by decide +kernel
theorem dX6_hasMore_1 : decode cX6_hasMore 1 = .ok (.invokevirtual 52, 3) := by decide +kernel
theorem dX6_hasMore_4 : decode cX6_hasMore 4 = .ok (.aload_n 0, 1) := by decide +kernel
theorem dX6_hasMore_5 : decode cX6_hasMore 5 = .ok (.getfield 32, 3) := by decide +kernel
theorem dX6_hasMore_8 : decode cX6_hasMore 8 = .ok (.ifCond .ne 18, 3) := by decide +kernel
theorem dX6_hasMore_11 : decode cX6_hasMore 11 = .ok (.aload_n 0, 1) := by decide +kernel
theorem dX6_hasMore_12 : decode cX6_hasMore 12 = .ok (.getfield 35, 3) := by decide +kernel
theorem dX6_hasMore_15 : decode cX6_hasMore 15 = .ok (.aload_n 0, 1) := by decide +kernel
theorem dX6_hasMore_16 : decode cX6_hasMore 16 = .ok (.getfield 26, 3) := by decide +kernel
theorem dX6_hasMore_19 : decode cX6_hasMore 19 = .ok (.if_icmp .ge 7, 3) := by decide +kernel
theorem dX6_hasMore_22 : decode cX6_hasMore 22 = .ok (.iconst 1, 1) := by decide +kernel
theorem dX6_hasMore_23 : decode cX6_hasMore 23 = .ok (.goto 4, 3) := by decide +kernel
theorem dX6_hasMore_26 : decode cX6_hasMore 26 = .ok (.iconst 0, 1) := by decide +kernel
theorem dX6_hasMore_27 : decode cX6_hasMore 27 = .ok (.ireturn, 1) := by decide +kernel
theorem dX6_readClause_0 : decode cX6_readClause 0 = .ok (.aload_n 0, 1) := by decide +kernel
theorem dX6_readClause_1 : decode cX6_readClause 1 = .ok (.getfield 9, 3) := by decide +kernel
theorem dX6_readClause_4 : decode cX6_readClause 4 = .ok (.aload_n 0, 1) := by decide +kernel
theorem dX6_readClause_5 : decode cX6_readClause 5 = .ok (.getfield 35, 3) := by decide +kernel
theorem dX6_readClause_8 : decode cX6_readClause 8 = .ok (.iaload, 1) := by decide +kernel
theorem dX6_readClause_9 : decode cX6_readClause 9 = .ok (.istore_n 1, 1) := by decide +kernel
theorem dX6_readClause_10 : decode cX6_readClause 10 = .ok (.iload_n 1, 1) := by decide +kernel
theorem dX6_readClause_11 : decode cX6_readClause 11 = .ok (.bipush 119, 2) := by decide +kernel
theorem dX6_readClause_13 : decode cX6_readClause 13 = .ok (.if_icmp .ne 10, 3) := by decide +kernel
theorem dX6_readClause_16 : decode cX6_readClause 16 = .ok (.aload_n 0, 1) := by decide +kernel
theorem dX6_readClause_17 : decode cX6_readClause 17 = .ok (.invokevirtual 55, 3) := by decide +kernel
theorem dX6_readClause_20 : decode cX6_readClause 20 = .ok (.goto 73, 3) := by decide +kernel
theorem dX6_readClause_23 : decode cX6_readClause 23 = .ok (.aload_n 0, 1) := by decide +kernel
theorem dX6_readClause_24 : decode cX6_readClause 24 = .ok (.getfield 18, 3) := by decide +kernel
theorem dX6_readClause_27 : decode cX6_readClause 27 = .ok (.getfield 58, 3) := by decide +kernel
theorem dX6_readClause_30 : decode cX6_readClause 30 = .ok (.ifCond .ne 15, 3) := by decide +kernel
theorem dX6_readClause_33 : decode cX6_readClause 33 = .ok (.aload_n 0, 1) := by decide +kernel
theorem dX6_readClause_34 : decode cX6_readClause 34 = .ok (.iconst 1, 1) := by decide +kernel
theorem dX6_readClause_35 : decode cX6_readClause 35 = .ok (.aload_n 0, 1) := by decide +kernel
theorem dX6_readClause_36 : decode cX6_readClause 36 = .ok (.getfield 35, 3) := by decide +kernel
theorem dX6_readClause_39 : decode cX6_readClause 39 = .ok (.invokevirtual 61, 3) := by decide +kernel
theorem dX6_readClause_42 : decode cX6_readClause 42 = .ok (.goto 51, 3) := by decide +kernel
theorem dX6_readClause_45 : decode cX6_readClause 45 = .ok (.iload_n 1, 1) := by decide +kernel
theorem dX6_readClause_46 : decode cX6_readClause 46 = .ok (.bipush 112, 2) := by decide +kernel
theorem dX6_readClause_48 : decode cX6_readClause 48 = .ok (.if_icmp .ne 10, 3) := by decide +kernel
theorem dX6_readClause_51 : decode cX6_readClause 51 = .ok (.aload_n 0, 1) := by decide +kernel
theorem dX6_readClause_52 : decode cX6_readClause 52 = .ok (.invokevirtual 65, 3) := by decide +kernel
theorem dX6_readClause_55 : decode cX6_readClause 55 = .ok (.goto 38, 3) := by decide +kernel
theorem dX6_readClause_58 : decode cX6_readClause 58 = .ok (.iload_n 1, 1) := by decide +kernel
theorem dX6_readClause_59 : decode cX6_readClause 59 = .ok (.bipush 116, 2) := by decide +kernel
theorem dX6_readClause_61 : decode cX6_readClause 61 = .ok (.if_icmp .ne 10, 3) := by decide +kernel
theorem dX6_readClause_64 : decode cX6_readClause 64 = .ok (.aload_n 0, 1) := by decide +kernel
theorem dX6_readClause_65 : decode cX6_readClause 65 = .ok (.invokevirtual 68, 3) := by decide +kernel
theorem dX6_readClause_68 : decode cX6_readClause 68 = .ok (.goto 25, 3) := by decide +kernel
theorem dX6_readClause_71 : decode cX6_readClause 71 = .ok (.iload_n 1, 1) := by decide +kernel
theorem dX6_readClause_72 : decode cX6_readClause 72 = .ok (.bipush 102, 2) := by decide +kernel
theorem dX6_readClause_74 : decode cX6_readClause 74 = .ok (.if_icmp .ne 10, 3) := by decide +kernel
theorem dX6_readClause_77 : decode cX6_readClause 77 = .ok (.aload_n 0, 1) := by decide +kernel
theorem dX6_readClause_78 : decode cX6_readClause 78 = .ok (.invokevirtual 71, 3) := by decide +kernel
theorem dX6_readClause_81 : decode cX6_readClause 81 = .ok (.goto 12, 3) := by decide +kernel
theorem dX6_readClause_84 : decode cX6_readClause 84 = .ok (.aload_n 0, 1) := by decide +kernel
theorem dX6_readClause_85 : decode cX6_readClause 85 = .ok (.iconst 1, 1) := by decide +kernel
theorem dX6_readClause_86 : decode cX6_readClause 86 = .ok (.aload_n 0, 1) := by decide +kernel
theorem dX6_readClause_87 : decode cX6_readClause 87 = .ok (.getfield 35, 3) := by decide +kernel
theorem dX6_readClause_90 : decode cX6_readClause 90 = .ok (.invokevirtual 61, 3) := by decide +kernel
theorem dX6_readClause_93 : decode cX6_readClause 93 = .ok (.return_, 1) := by decide +kernel
theorem dX6_readWeights_0 : decode cX6_readWeights 0 = .ok (.aload_n 0, 1) := by decide +kernel
theorem dX6_readWeights_1 : decode cX6_readWeights 1 = .ok (.getfield 18, 3) := by decide +kernel
theorem dX6_readWeights_4 : decode cX6_readWeights 4 = .ok (.getfield 58, 3) := by decide +kernel
theorem dX6_readWeights_7 : decode cX6_readWeights 7 = .ok (.ifCond .le 13, 3) := by decide +kernel
theorem dX6_readWeights_10 : decode cX6_readWeights 10 = .ok (.aload_n 0, 1) := by decide +kernel
theorem dX6_readWeights_11 : decode cX6_readWeights 11 = .ok (.iconst 3, 1) := by decide +kernel
theorem dX6_readWeights_12 : decode cX6_readWeights 12 = .ok (.aload_n 0, 1) := by decide +kernel
theorem dX6_readWeights_13 : decode cX6_readWeights 13 = .ok (.getfield 35, 3) := by decide +kernel
theorem dX6_readWeights_16 : decode cX6_readWeights 16 = .ok (.invokevirtual 61, 3) := by decide +kernel
theorem dX6_readWeights_19 : decode cX6_readWeights 19 = .ok (.return_, 1) := by decide +kernel
theorem dX6_readWeights_20 : decode cX6_readWeights 20 = .ok (.iconst 1, 1) := by decide +kernel
theorem dX6_readWeights_21 : decode cX6_readWeights 21 = .ok (.istore_n 1, 1) := by decide +kernel
theorem dX6_readWeights_22 : decode cX6_readWeights 22 = .ok (.iconst 0, 1) := by decide +kernel
theorem dX6_readWeights_23 : decode cX6_readWeights 23 = .ok (.istore_n 2, 1) := by decide +kernel
theorem dX6_readWeights_24 : decode cX6_readWeights 24 = .ok (.iload_n 2, 1) := by decide +kernel
theorem dX6_readWeights_25 : decode cX6_readWeights 25 = .ok (.bipush 12, 2) := by decide +kernel
theorem dX6_readWeights_27 : decode cX6_readWeights 27 = .ok (.if_icmp .ge 46, 3) := by decide +kernel
theorem dX6_readWeights_30 : decode cX6_readWeights 30 = .ok (.iload_n 1, 1) := by decide +kernel
theorem dX6_readWeights_31 : decode cX6_readWeights 31 = .ok (.ifCond .eq 42, 3) := by decide +kernel
theorem dX6_readWeights_34 : decode cX6_readWeights 34 = .ok (.aload_n 0, 1) := by decide +kernel
theorem dX6_readWeights_35 : decode cX6_readWeights 35 = .ok (.dup, 1) := by decide +kernel
theorem dX6_readWeights_36 : decode cX6_readWeights 36 = .ok (.getfield 35, 3) := by decide +kernel
theorem dX6_readWeights_39 : decode cX6_readWeights 39 = .ok (.iconst 1, 1) := by decide +kernel
theorem dX6_readWeights_40 : decode cX6_readWeights 40 = .ok (.iadd, 1) := by decide +kernel
theorem dX6_readWeights_41 : decode cX6_readWeights 41 = .ok (.putfield 35, 3) := by decide +kernel
theorem dX6_readWeights_44 : decode cX6_readWeights 44 = .ok (.aload_n 0, 1) := by decide +kernel
theorem dX6_readWeights_45 : decode cX6_readWeights 45 = .ok (.iconst 0, 1) := by decide +kernel
theorem dX6_readWeights_46 : decode cX6_readWeights 46 = .ok (.bipush 30, 2) := by decide +kernel
theorem dX6_readWeights_48 : decode cX6_readWeights 48 = .ok (.invokevirtual 74, 3) := by decide +kernel
theorem dX6_readWeights_51 : decode cX6_readWeights 51 = .ok (.istore_n 3, 1) := by decide +kernel
theorem dX6_readWeights_52 : decode cX6_readWeights 52 = .ok (.aload_n 0, 1) := by decide +kernel
theorem dX6_readWeights_53 : decode cX6_readWeights 53 = .ok (.getfield 18, 3) := by decide +kernel
theorem dX6_readWeights_56 : decode cX6_readWeights 56 = .ok (.iload_n 3, 1) := by decide +kernel
theorem dX6_readWeights_57 : decode cX6_readWeights 57 = .ok (.invokevirtual 78, 3) := by decide +kernel
theorem dX6_readWeights_60 : decode cX6_readWeights 60 = .ok (.aload_n 0, 1) := by decide +kernel
theorem dX6_readWeights_61 : decode cX6_readWeights 61 = .ok (.bipush 44, 2) := by decide +kernel
theorem dX6_readWeights_63 : decode cX6_readWeights 63 = .ok (.invokevirtual 82, 3) := by decide +kernel
theorem dX6_readWeights_66 : decode cX6_readWeights 66 = .ok (.istore_n 1, 1) := by decide +kernel
theorem dX6_readWeights_67 : decode cX6_readWeights 67 = .ok (.iinc 2 1, 3) := by decide +kernel
theorem dX6_readWeights_70 : decode cX6_readWeights 70 = .ok (.goto (-46), 3) := by decide +kernel
theorem dX6_readWeights_73 : decode cX6_readWeights 73 = .ok (.aload_n 0, 1) := by decide +kernel
theorem dX6_readWeights_74 : decode cX6_readWeights 74 = .ok (.invokevirtual 86, 3) := by decide +kernel
theorem dX6_readWeights_77 : decode cX6_readWeights 77 = .ok (.return_, 1) := by decide +kernel
theorem dX6_readPerson_0 : decode cX6_readPerson 0 = .ok (.aload_n 0, 1) := by decide +kernel
theorem dX6_readPerson_1 : decode cX6_readPerson 1 = .ok (.getfield 18, 3) := by decide +kernel
theorem dX6_readPerson_4 : decode cX6_readPerson 4 = .ok (.getfield 89, 3) := by decide +kernel
theorem dX6_readPerson_7 : decode cX6_readPerson 7 = .ok (.bipush 6, 2) := by decide +kernel
theorem dX6_readPerson_9 : decode cX6_readPerson 9 = .ok (.if_icmp .lt 13, 3) := by decide +kernel
theorem dX6_readPerson_12 : decode cX6_readPerson 12 = .ok (.aload_n 0, 1) := by decide +kernel
theorem dX6_readPerson_13 : decode cX6_readPerson 13 = .ok (.iconst 3, 1) := by decide +kernel
theorem dX6_readPerson_14 : decode cX6_readPerson 14 = .ok (.aload_n 0, 1) := by decide +kernel
theorem dX6_readPerson_15 : decode cX6_readPerson 15 = .ok (.getfield 35, 3) := by decide +kernel
theorem dX6_readPerson_18 : decode cX6_readPerson 18 = .ok (.invokevirtual 61, 3) := by decide +kernel
theorem dX6_readPerson_21 : decode cX6_readPerson 21 = .ok (.return_, 1) := by decide +kernel
theorem dX6_readPerson_22 : decode cX6_readPerson 22 = .ok (.aload_n 0, 1) := by decide +kernel
theorem dX6_readPerson_23 : decode cX6_readPerson 23 = .ok (.dup, 1) := by decide +kernel
theorem dX6_readPerson_24 : decode cX6_readPerson 24 = .ok (.getfield 35, 3) := by decide +kernel
theorem dX6_readPerson_27 : decode cX6_readPerson 27 = .ok (.iconst 1, 1) := by decide +kernel
theorem dX6_readPerson_28 : decode cX6_readPerson 28 = .ok (.iadd, 1) := by decide +kernel
theorem dX6_readPerson_29 : decode cX6_readPerson 29 = .ok (.putfield 35, 3) := by decide +kernel
theorem dX6_readPerson_32 : decode cX6_readPerson 32 = .ok (.aload_n 0, 1) := by decide +kernel
theorem dX6_readPerson_33 : decode cX6_readPerson 33 = .ok (.iconst 0, 1) := by decide +kernel
theorem dX6_readPerson_34 : decode cX6_readPerson 34 = .ok (.iconst 4, 1) := by decide +kernel
theorem dX6_readPerson_35 : decode cX6_readPerson 35 = .ok (.invokevirtual 74, 3) := by decide +kernel
theorem dX6_readPerson_38 : decode cX6_readPerson 38 = .ok (.istore_n 1, 1) := by decide +kernel
theorem dX6_readPerson_39 : decode cX6_readPerson 39 = .ok (.aload_n 0, 1) := by decide +kernel
theorem dX6_readPerson_40 : decode cX6_readPerson 40 = .ok (.iconst 1, 1) := by decide +kernel
theorem dX6_readPerson_41 : decode cX6_readPerson 41 = .ok (.bipush 20, 2) := by decide +kernel
theorem dX6_readPerson_43 : decode cX6_readPerson 43 = .ok (.invokevirtual 74, 3) := by decide +kernel
theorem dX6_readPerson_46 : decode cX6_readPerson 46 = .ok (.istore_n 2, 1) := by decide +kernel
theorem dX6_readPerson_47 : decode cX6_readPerson 47 = .ok (.aload_n 0, 1) := by decide +kernel
theorem dX6_readPerson_48 : decode cX6_readPerson 48 = .ok (.iconst 1, 1) := by decide +kernel
theorem dX6_readPerson_49 : decode cX6_readPerson 49 = .ok (.bipush 9, 2) := by decide +kernel
theorem dX6_readPerson_51 : decode cX6_readPerson 51 = .ok (.invokevirtual 74, 3) := by decide +kernel
theorem dX6_readPerson_54 : decode cX6_readPerson 54 = .ok (.istore_n 3, 1) := by decide +kernel
theorem dX6_readPerson_55 : decode cX6_readPerson 55 = .ok (.aload_n 0, 1) := by decide +kernel
theorem dX6_readPerson_56 : decode cX6_readPerson 56 = .ok (.iconst 0, 1) := by decide +kernel
theorem dX6_readPerson_57 : decode cX6_readPerson 57 = .ok (.bipush 9, 2) := by decide +kernel
theorem dX6_readPerson_59 : decode cX6_readPerson 59 = .ok (.invokevirtual 74, 3) := by decide +kernel
theorem dX6_readPerson_62 : decode cX6_readPerson 62 = .ok (.istore 4, 2) := by decide +kernel
theorem dX6_readPerson_64 : decode cX6_readPerson 64 = .ok (.aload_n 0, 1) := by decide +kernel
theorem dX6_readPerson_65 : decode cX6_readPerson 65 = .ok (.invokevirtual 92, 3) := by decide +kernel
theorem dX6_readPerson_68 : decode cX6_readPerson 68 = .ok (.istore 5, 2) := by decide +kernel
theorem dX6_readPerson_70 : decode cX6_readPerson 70 = .ok (.aload_n 0, 1) := by decide +kernel
theorem dX6_readPerson_71 : decode cX6_readPerson 71 = .ok (.invokevirtual 86, 3) := by decide +kernel
theorem dX6_readPerson_74 : decode cX6_readPerson 74 = .ok (.aload_n 0, 1) := by decide +kernel
theorem dX6_readPerson_75 : decode cX6_readPerson 75 = .ok (.getfield 32, 3) := by decide +kernel
theorem dX6_readPerson_78 : decode cX6_readPerson 78 = .ok (.ifCond .ne 17, 3) := by decide +kernel
theorem dX6_readPerson_81 : decode cX6_readPerson 81 = .ok (.aload_n 0, 1) := by decide +kernel
theorem dX6_readPerson_82 : decode cX6_readPerson 82 = .ok (.getfield 18, 3) := by decide +kernel
theorem dX6_readPerson_85 : decode cX6_readPerson 85 = .ok (.iload_n 1, 1) := by decide +kernel
theorem dX6_readPerson_86 : decode cX6_readPerson 86 = .ok (.iload_n 2, 1) := by decide +kernel
theorem dX6_readPerson_87 : decode cX6_readPerson 87 = .ok (.iload_n 3, 1) := by decide +kernel
theorem dX6_readPerson_88 : decode cX6_readPerson 88 = .ok (.iload 4, 2) := by decide +kernel
theorem dX6_readPerson_90 : decode cX6_readPerson 90 = .ok (.iload 5, 2) := by decide +kernel
theorem dX6_readPerson_92 : decode cX6_readPerson 92 = .ok (.invokevirtual 96, 3) := by decide +kernel
theorem dX6_readPerson_95 : decode cX6_readPerson 95 = .ok (.return_, 1) := by decide +kernel
theorem dX6_readFather_0 : decode cX6_readFather 0 = .ok (.aload_n 0, 1) := by decide +kernel
theorem dX6_readFather_1 : decode cX6_readFather 1 = .ok (.iconst 0, 1) := by decide +kernel
theorem dX6_readFather_2 : decode cX6_readFather 2 = .ok (.bipush 9, 2) := by decide +kernel
theorem dX6_readFather_4 : decode cX6_readFather 4 = .ok (.invokevirtual 74, 3) := by decide +kernel
theorem dX6_readFather_7 : decode cX6_readFather 7 = .ok (.istore_n 1, 1) := by decide +kernel
theorem dX6_readFather_8 : decode cX6_readFather 8 = .ok (.iload_n 1, 1) := by decide +kernel
theorem dX6_readFather_9 : decode cX6_readFather 9 = .ok (.bipush 9, 2) := by decide +kernel
theorem dX6_readFather_11 : decode cX6_readFather 11 = .ok (.if_icmp .ne 5, 3) := by decide +kernel
theorem dX6_readFather_14 : decode cX6_readFather 14 = .ok (.iconst (-1), 1) := by decide +kernel
theorem dX6_readFather_15 : decode cX6_readFather 15 = .ok (.ireturn, 1) := by decide +kernel
theorem dX6_readFather_16 : decode cX6_readFather 16 = .ok (.aload_n 0, 1) := by decide +kernel
theorem dX6_readFather_17 : decode cX6_readFather 17 = .ok (.getfield 18, 3) := by decide +kernel
theorem dX6_readFather_20 : decode cX6_readFather 20 = .ok (.iload_n 1, 1) := by decide +kernel
theorem dX6_readFather_21 : decode cX6_readFather 21 = .ok (.invokevirtual 100, 3) := by decide +kernel
theorem dX6_readFather_24 : decode cX6_readFather 24 = .ok (.ifCond .ne 12, 3) := by decide +kernel
theorem dX6_readFather_27 : decode cX6_readFather 27 = .ok (.aload_n 0, 1) := by decide +kernel
theorem dX6_readFather_28 : decode cX6_readFather 28 = .ok (.iconst 2, 1) := by decide +kernel
theorem dX6_readFather_29 : decode cX6_readFather 29 = .ok (.aload_n 0, 1) := by decide +kernel
theorem dX6_readFather_30 : decode cX6_readFather 30 = .ok (.getfield 103, 3) := by decide +kernel
theorem dX6_readFather_33 : decode cX6_readFather 33 = .ok (.invokevirtual 61, 3) := by decide +kernel
theorem dX6_readFather_36 : decode cX6_readFather 36 = .ok (.iload_n 1, 1) := by decide +kernel
theorem dX6_readFather_37 : decode cX6_readFather 37 = .ok (.ireturn, 1) := by decide +kernel
theorem dX6_readGoodness_0 : decode cX6_readGoodness 0 = .ok (.aload_n 0, 1) := by decide +kernel
theorem dX6_readGoodness_1 : decode cX6_readGoodness 1 = .ok (.getfield 38, 3) := by decide +kernel
theorem dX6_readGoodness_4 : decode cX6_readGoodness 4 = .ok (.ifCond .eq 13, 3) := by decide +kernel
theorem dX6_readGoodness_7 : decode cX6_readGoodness 7 = .ok (.aload_n 0, 1) := by decide +kernel
theorem dX6_readGoodness_8 : decode cX6_readGoodness 8 = .ok (.iconst 3, 1) := by decide +kernel
theorem dX6_readGoodness_9 : decode cX6_readGoodness 9 = .ok (.aload_n 0, 1) := by decide +kernel
theorem dX6_readGoodness_10 : decode cX6_readGoodness 10 = .ok (.getfield 35, 3) := by decide +kernel
theorem dX6_readGoodness_13 : decode cX6_readGoodness 13 = .ok (.invokevirtual 61, 3) := by decide +kernel
theorem dX6_readGoodness_16 : decode cX6_readGoodness 16 = .ok (.return_, 1) := by decide +kernel
theorem dX6_readGoodness_17 : decode cX6_readGoodness 17 = .ok (.aload_n 0, 1) := by decide +kernel
theorem dX6_readGoodness_18 : decode cX6_readGoodness 18 = .ok (.dup, 1) := by decide +kernel
theorem dX6_readGoodness_19 : decode cX6_readGoodness 19 = .ok (.getfield 35, 3) := by decide +kernel
theorem dX6_readGoodness_22 : decode cX6_readGoodness 22 = .ok (.iconst 1, 1) := by decide +kernel
theorem dX6_readGoodness_23 : decode cX6_readGoodness 23 = .ok (.iadd, 1) := by decide +kernel
theorem dX6_readGoodness_24 : decode cX6_readGoodness 24 = .ok (.putfield 35, 3) := by decide +kernel
theorem dX6_readGoodness_27 : decode cX6_readGoodness 27 = .ok (.aload_n 0, 1) := by decide +kernel
theorem dX6_readGoodness_28 : decode cX6_readGoodness 28 = .ok (.iconst 1, 1) := by decide +kernel
theorem dX6_readGoodness_29 : decode cX6_readGoodness 29 = .ok (.putfield 38, 3) := by decide +kernel
theorem dX6_readGoodness_32 : decode cX6_readGoodness 32 = .ok (.aload_n 0, 1) := by decide +kernel
theorem dX6_readGoodness_33 : decode cX6_readGoodness 33 = .ok (.iconst 0, 1) := by decide +kernel
theorem dX6_readGoodness_34 : decode cX6_readGoodness 34 = .ok (.bipush 9, 2) := by decide +kernel
theorem dX6_readGoodness_36 : decode cX6_readGoodness 36 = .ok (.invokevirtual 74, 3) := by decide +kernel
theorem dX6_readGoodness_39 : decode cX6_readGoodness 39 = .ok (.istore_n 1, 1) := by decide +kernel
theorem dX6_readGoodness_40 : decode cX6_readGoodness 40 = .ok (.aload_n 0, 1) := by decide +kernel
theorem dX6_readGoodness_41 : decode cX6_readGoodness 41 = .ok (.iconst 0, 1) := by decide +kernel
theorem dX6_readGoodness_42 : decode cX6_readGoodness 42 = .ok (.bipush 9, 2) := by decide +kernel
theorem dX6_readGoodness_44 : decode cX6_readGoodness 44 = .ok (.invokevirtual 74, 3) := by decide +kernel
theorem dX6_readGoodness_47 : decode cX6_readGoodness 47 = .ok (.istore_n 2, 1) := by decide +kernel
theorem dX6_readGoodness_48 : decode cX6_readGoodness 48 = .ok (.aload_n 0, 1) := by decide +kernel
theorem dX6_readGoodness_49 : decode cX6_readGoodness 49 = .ok (.iconst 0, 1) := by decide +kernel
theorem dX6_readGoodness_50 : decode cX6_readGoodness 50 = .ok (.bipush 9, 2) := by decide +kernel
theorem dX6_readGoodness_52 : decode cX6_readGoodness 52 = .ok (.invokevirtual 74, 3) := by decide +kernel
theorem dX6_readGoodness_55 : decode cX6_readGoodness 55 = .ok (.istore_n 3, 1) := by decide +kernel
theorem dX6_readGoodness_56 : decode cX6_readGoodness 56 = .ok (.aload_n 0, 1) := by decide +kernel
theorem dX6_readGoodness_57 : decode cX6_readGoodness 57 = .ok (.invokevirtual 86, 3) := by decide +kernel
theorem dX6_readGoodness_60 : decode cX6_readGoodness 60 = .ok (.aload_n 0, 1) := by decide +kernel
theorem dX6_readGoodness_61 : decode cX6_readGoodness 61 = .ok (.getfield 18, 3) := by decide +kernel
theorem dX6_readGoodness_64 : decode cX6_readGoodness 64 = .ok (.iload_n 1, 1) := by decide +kernel
theorem dX6_readGoodness_65 : decode cX6_readGoodness 65 = .ok (.iload_n 2, 1) := by decide +kernel
theorem dX6_readGoodness_66 : decode cX6_readGoodness 66 = .ok (.iload_n 3, 1) := by decide +kernel
theorem dX6_readGoodness_67 : decode cX6_readGoodness 67 = .ok (.invokevirtual 106, 3) := by decide +kernel
theorem dX6_readGoodness_70 : decode cX6_readGoodness 70 = .ok (.return_, 1) := by decide +kernel
theorem dX6_readFruit_0 : decode cX6_readFruit 0 = .ok (.aload_n 0, 1) := by decide +kernel
theorem dX6_readFruit_1 : decode cX6_readFruit 1 = .ok (.getfield 42, 3) := by decide +kernel
theorem dX6_readFruit_4 : decode cX6_readFruit 4 = .ok (.ifCond .eq 13, 3) := by decide +kernel
theorem dX6_readFruit_7 : decode cX6_readFruit 7 = .ok (.aload_n 0, 1) := by decide +kernel
theorem dX6_readFruit_8 : decode cX6_readFruit 8 = .ok (.iconst 3, 1) := by decide +kernel
theorem dX6_readFruit_9 : decode cX6_readFruit 9 = .ok (.aload_n 0, 1) := by decide +kernel
theorem dX6_readFruit_10 : decode cX6_readFruit 10 = .ok (.getfield 35, 3) := by decide +kernel
theorem dX6_readFruit_13 : decode cX6_readFruit 13 = .ok (.invokevirtual 61, 3) := by decide +kernel
theorem dX6_readFruit_16 : decode cX6_readFruit 16 = .ok (.return_, 1) := by decide +kernel
theorem dX6_readFruit_17 : decode cX6_readFruit 17 = .ok (.aload_n 0, 1) := by decide +kernel
theorem dX6_readFruit_18 : decode cX6_readFruit 18 = .ok (.dup, 1) := by decide +kernel
theorem dX6_readFruit_19 : decode cX6_readFruit 19 = .ok (.getfield 35, 3) := by decide +kernel
theorem dX6_readFruit_22 : decode cX6_readFruit 22 = .ok (.iconst 1, 1) := by decide +kernel
theorem dX6_readFruit_23 : decode cX6_readFruit 23 = .ok (.iadd, 1) := by decide +kernel
theorem dX6_readFruit_24 : decode cX6_readFruit 24 = .ok (.putfield 35, 3) := by decide +kernel
theorem dX6_readFruit_27 : decode cX6_readFruit 27 = .ok (.aload_n 0, 1) := by decide +kernel
theorem dX6_readFruit_28 : decode cX6_readFruit 28 = .ok (.iconst 1, 1) := by decide +kernel
theorem dX6_readFruit_29 : decode cX6_readFruit 29 = .ok (.putfield 42, 3) := by decide +kernel
theorem dX6_readFruit_32 : decode cX6_readFruit 32 = .ok (.aload_n 0, 1) := by decide +kernel
theorem dX6_readFruit_33 : decode cX6_readFruit 33 = .ok (.getfield 18, 3) := by decide +kernel
theorem dX6_readFruit_36 : decode cX6_readFruit 36 = .ok (.aload_n 0, 1) := by decide +kernel
theorem dX6_readFruit_37 : decode cX6_readFruit 37 = .ok (.iconst 0, 1) := by decide +kernel
theorem dX6_readFruit_38 : decode cX6_readFruit 38 = .ok (.bipush 99, 2) := by decide +kernel
theorem dX6_readFruit_40 : decode cX6_readFruit 40 = .ok (.invokevirtual 74, 3) := by decide +kernel
theorem dX6_readFruit_43 : decode cX6_readFruit 43 = .ok (.putfield 110, 3) := by decide +kernel
theorem dX6_readFruit_46 : decode cX6_readFruit 46 = .ok (.aload_n 0, 1) := by decide +kernel
theorem dX6_readFruit_47 : decode cX6_readFruit 47 = .ok (.invokevirtual 86, 3) := by decide +kernel
theorem dX6_readFruit_50 : decode cX6_readFruit 50 = .ok (.return_, 1) := by decide +kernel
theorem dX6_readNumber_0 : decode cX6_readNumber 0 = .ok (.aload_n 0, 1) := by decide +kernel
theorem dX6_readNumber_1 : decode cX6_readNumber 1 = .ok (.invokevirtual 52, 3) := by decide +kernel
theorem dX6_readNumber_4 : decode cX6_readNumber 4 = .ok (.aload_n 0, 1) := by decide +kernel
theorem dX6_readNumber_5 : decode cX6_readNumber 5 = .ok (.getfield 32, 3) := by decide +kernel
theorem dX6_readNumber_8 : decode cX6_readNumber 8 = .ok (.ifCond .eq 5, 3) := by decide +kernel
theorem dX6_readNumber_11 : decode cX6_readNumber 11 = .ok (.iload_n 1, 1) := by decide +kernel
theorem dX6_readNumber_12 : decode cX6_readNumber 12 = .ok (.ireturn, 1) := by decide +kernel
theorem dX6_readNumber_13 : decode cX6_readNumber 13 = .ok (.aload_n 0, 1) := by decide +kernel
theorem dX6_readNumber_14 : decode cX6_readNumber 14 = .ok (.aload_n 0, 1) := by decide +kernel
theorem dX6_readNumber_15 : decode cX6_readNumber 15 = .ok (.getfield 35, 3) := by decide +kernel
theorem dX6_readNumber_18 : decode cX6_readNumber 18 = .ok (.putfield 103, 3) := by decide +kernel
theorem dX6_readNumber_21 : decode cX6_readNumber 21 = .ok (.iconst 0, 1) := by decide +kernel
theorem dX6_readNumber_22 : decode cX6_readNumber 22 = .ok (.istore_n 3, 1) := by decide +kernel
theorem dX6_readNumber_23 : decode cX6_readNumber 23 = .ok (.aload_n 0, 1) := by decide +kernel
theorem dX6_readNumber_24 : decode cX6_readNumber 24 = .ok (.getfield 35, 3) := by decide +kernel
theorem dX6_readNumber_27 : decode cX6_readNumber 27 = .ok (.aload_n 0, 1) := by decide +kernel
theorem dX6_readNumber_28 : decode cX6_readNumber 28 = .ok (.getfield 26, 3) := by decide +kernel
theorem dX6_readNumber_31 : decode cX6_readNumber 31 = .ok (.if_icmp .ge 62, 3) := by decide +kernel
theorem dX6_readNumber_34 : decode cX6_readNumber 34 = .ok (.aload_n 0, 1) := by decide +kernel
theorem dX6_readNumber_35 : decode cX6_readNumber 35 = .ok (.getfield 9, 3) := by decide +kernel
theorem dX6_readNumber_38 : decode cX6_readNumber 38 = .ok (.aload_n 0, 1) := by decide +kernel
theorem dX6_readNumber_39 : decode cX6_readNumber 39 = .ok (.getfield 35, 3) := by decide +kernel
theorem dX6_readNumber_42 : decode cX6_readNumber 42 = .ok (.iaload, 1) := by decide +kernel
theorem dX6_readNumber_43 : decode cX6_readNumber 43 = .ok (.invokestatic 113, 3) := by decide +kernel
theorem dX6_readNumber_46 : decode cX6_readNumber 46 = .ok (.ifCond .eq 47, 3) := by decide +kernel
theorem dX6_readNumber_49 : decode cX6_readNumber 49 = .ok (.aload_n 0, 1) := by decide +kernel
theorem dX6_readNumber_50 : decode cX6_readNumber 50 = .ok (.getfield 35, 3) := by decide +kernel
theorem dX6_readNumber_53 : decode cX6_readNumber 53 = .ok (.aload_n 0, 1) := by decide +kernel
theorem dX6_readNumber_54 : decode cX6_readNumber 54 = .ok (.getfield 103, 3) := by decide +kernel
theorem dX6_readNumber_57 : decode cX6_readNumber 57 = .ok (.isub, 1) := by decide +kernel
theorem dX6_readNumber_58 : decode cX6_readNumber 58 = .ok (.iconst 3, 1) := by decide +kernel
theorem dX6_readNumber_59 : decode cX6_readNumber 59 = .ok (.if_icmp .ge 21, 3) := by decide +kernel
theorem dX6_readNumber_62 : decode cX6_readNumber 62 = .ok (.iload_n 3, 1) := by decide +kernel
theorem dX6_readNumber_63 : decode cX6_readNumber 63 = .ok (.bipush 10, 2) := by decide +kernel
theorem dX6_readNumber_65 : decode cX6_readNumber 65 = .ok (.imul, 1) := by decide +kernel
theorem dX6_readNumber_66 : decode cX6_readNumber 66 = .ok (.aload_n 0, 1) := by decide +kernel
theorem dX6_readNumber_67 : decode cX6_readNumber 67 = .ok (.getfield 9, 3) := by decide +kernel
theorem dX6_readNumber_70 : decode cX6_readNumber 70 = .ok (.aload_n 0, 1) := by decide +kernel
theorem dX6_readNumber_71 : decode cX6_readNumber 71 = .ok (.getfield 35, 3) := by decide +kernel
theorem dX6_readNumber_74 : decode cX6_readNumber 74 = .ok (.iaload, 1) := by decide +kernel
theorem dX6_readNumber_75 : decode cX6_readNumber 75 = .ok (.iadd, 1) := by decide +kernel
theorem dX6_readNumber_76 : decode cX6_readNumber 76 = .ok (.bipush 48, 2) := by decide +kernel
theorem dX6_readNumber_78 : decode cX6_readNumber 78 = .ok (.isub, 1) := by decide +kernel
theorem dX6_readNumber_79 : decode cX6_readNumber 79 = .ok (.istore_n 3, 1) := by decide +kernel
theorem dX6_readNumber_80 : decode cX6_readNumber 80 = .ok (.aload_n 0, 1) := by decide +kernel
theorem dX6_readNumber_81 : decode cX6_readNumber 81 = .ok (.dup, 1) := by decide +kernel
theorem dX6_readNumber_82 : decode cX6_readNumber 82 = .ok (.getfield 35, 3) := by decide +kernel
theorem dX6_readNumber_85 : decode cX6_readNumber 85 = .ok (.iconst 1, 1) := by decide +kernel
theorem dX6_readNumber_86 : decode cX6_readNumber 86 = .ok (.iadd, 1) := by decide +kernel
theorem dX6_readNumber_87 : decode cX6_readNumber 87 = .ok (.putfield 35, 3) := by decide +kernel
theorem dX6_readNumber_90 : decode cX6_readNumber 90 = .ok (.goto (-67), 3) := by decide +kernel
theorem dX6_readNumber_93 : decode cX6_readNumber 93 = .ok (.aload_n 0, 1) := by decide +kernel
theorem dX6_readNumber_94 : decode cX6_readNumber 94 = .ok (.getfield 35, 3) := by decide +kernel
theorem dX6_readNumber_97 : decode cX6_readNumber 97 = .ok (.aload_n 0, 1) := by decide +kernel
theorem dX6_readNumber_98 : decode cX6_readNumber 98 = .ok (.getfield 103, 3) := by decide +kernel
theorem dX6_readNumber_101 : decode cX6_readNumber 101 = .ok (.isub, 1) := by decide +kernel
theorem dX6_readNumber_102 : decode cX6_readNumber 102 = .ok (.istore 4, 2) := by decide +kernel
theorem dX6_readNumber_104 : decode cX6_readNumber 104 = .ok (.iload 4, 2) := by decide +kernel
theorem dX6_readNumber_106 : decode cX6_readNumber 106 = .ok (.ifCond .ne 15, 3) := by decide +kernel
theorem dX6_readNumber_109 : decode cX6_readNumber 109 = .ok (.aload_n 0, 1) := by decide +kernel
theorem dX6_readNumber_110 : decode cX6_readNumber 110 = .ok (.iconst 1, 1) := by decide +kernel
theorem dX6_readNumber_111 : decode cX6_readNumber 111 = .ok (.aload_n 0, 1) := by decide +kernel
theorem dX6_readNumber_112 : decode cX6_readNumber 112 = .ok (.getfield 35, 3) := by decide +kernel
theorem dX6_readNumber_115 : decode cX6_readNumber 115 = .ok (.invokevirtual 61, 3) := by decide +kernel
theorem dX6_readNumber_118 : decode cX6_readNumber 118 = .ok (.goto 28, 3) := by decide +kernel
theorem dX6_readNumber_121 : decode cX6_readNumber 121 = .ok (.iload 4, 2) := by decide +kernel
theorem dX6_readNumber_123 : decode cX6_readNumber 123 = .ok (.iconst 3, 1) := by decide +kernel
theorem dX6_readNumber_124 : decode cX6_readNumber 124 = .ok (.if_icmp .gt 13, 3) := by decide +kernel
theorem dX6_readNumber_127 : decode cX6_readNumber 127 = .ok (.iload_n 3, 1) := by decide +kernel
theorem dX6_readNumber_128 : decode cX6_readNumber 128 = .ok (.iload_n 1, 1) := by decide +kernel
theorem dX6_readNumber_129 : decode cX6_readNumber 129 = .ok (.if_icmp .lt 8, 3) := by decide +kernel
theorem dX6_readNumber_132 : decode cX6_readNumber 132 = .ok (.iload_n 3, 1) := by decide +kernel
theorem dX6_readNumber_133 : decode cX6_readNumber 133 = .ok (.iload_n 2, 1) := by decide +kernel
theorem dX6_readNumber_134 : decode cX6_readNumber 134 = .ok (.if_icmp .le 12, 3) := by decide +kernel
theorem dX6_readNumber_137 : decode cX6_readNumber 137 = .ok (.aload_n 0, 1) := by decide +kernel
theorem dX6_readNumber_138 : decode cX6_readNumber 138 = .ok (.iconst 2, 1) := by decide +kernel
theorem dX6_readNumber_139 : decode cX6_readNumber 139 = .ok (.aload_n 0, 1) := by decide +kernel
theorem dX6_readNumber_140 : decode cX6_readNumber 140 = .ok (.getfield 103, 3) := by decide +kernel
theorem dX6_readNumber_143 : decode cX6_readNumber 143 = .ok (.invokevirtual 61, 3) := by decide +kernel
theorem dX6_readNumber_146 : decode cX6_readNumber 146 = .ok (.iload_n 3, 1) := by decide +kernel
theorem dX6_readNumber_147 : decode cX6_readNumber 147 = .ok (.ireturn, 1) := by decide +kernel
theorem dX6_readEnd_0 : decode cX6_readEnd 0 = .ok (.aload_n 0, 1) := by decide +kernel
theorem dX6_readEnd_1 : decode cX6_readEnd 1 = .ok (.bipush 59, 2) := by decide +kernel
theorem dX6_readEnd_3 : decode cX6_readEnd 3 = .ok (.invokevirtual 82, 3) := by decide +kernel
theorem dX6_readEnd_6 : decode cX6_readEnd 6 = .ok (.ifCond .eq 16, 3) := by decide +kernel
theorem dX6_readEnd_9 : decode cX6_readEnd 9 = .ok (.aload_n 0, 1) := by decide +kernel
theorem dX6_readEnd_10 : decode cX6_readEnd 10 = .ok (.dup, 1) := by decide +kernel
theorem dX6_readEnd_11 : decode cX6_readEnd 11 = .ok (.getfield 35, 3) := by decide +kernel
theorem dX6_readEnd_14 : decode cX6_readEnd 14 = .ok (.iconst 1, 1) := by decide +kernel
theorem dX6_readEnd_15 : decode cX6_readEnd 15 = .ok (.iadd, 1) := by decide +kernel
theorem dX6_readEnd_16 : decode cX6_readEnd 16 = .ok (.putfield 35, 3) := by decide +kernel
theorem dX6_readEnd_19 : decode cX6_readEnd 19 = .ok (.goto 12, 3) := by decide +kernel
theorem dX6_readEnd_22 : decode cX6_readEnd 22 = .ok (.aload_n 0, 1) := by decide +kernel
theorem dX6_readEnd_23 : decode cX6_readEnd 23 = .ok (.iconst 1, 1) := by decide +kernel
theorem dX6_readEnd_24 : decode cX6_readEnd 24 = .ok (.aload_n 0, 1) := by decide +kernel
theorem dX6_readEnd_25 : decode cX6_readEnd 25 = .ok (.getfield 35, 3) := by decide +kernel
theorem dX6_readEnd_28 : decode cX6_readEnd 28 = .ok (.invokevirtual 61, 3) := by decide +kernel
theorem dX6_readEnd_31 : decode cX6_readEnd 31 = .ok (.return_, 1) := by decide +kernel
theorem dX6_isNext_0 : decode cX6_isNext 0 = .ok (.aload_n 0, 1) := by decide +kernel
theorem dX6_isNext_1 : decode cX6_isNext 1 = .ok (.invokevirtual 52, 3) := by decide +kernel
theorem dX6_isNext_4 : decode cX6_isNext 4 = .ok (.aload_n 0, 1) := by decide +kernel
theorem dX6_isNext_5 : decode cX6_isNext 5 = .ok (.getfield 32, 3) := by decide +kernel
theorem dX6_isNext_8 : decode cX6_isNext 8 = .ok (.ifCond .ne 31, 3) := by decide +kernel
theorem dX6_isNext_11 : decode cX6_isNext 11 = .ok (.aload_n 0, 1) := by decide +kernel
theorem dX6_isNext_12 : decode cX6_isNext 12 = .ok (.getfield 35, 3) := by decide +kernel
theorem dX6_isNext_15 : decode cX6_isNext 15 = .ok (.aload_n 0, 1) := by decide +kernel
theorem dX6_isNext_16 : decode cX6_isNext 16 = .ok (.getfield 26, 3) := by decide +kernel
theorem dX6_isNext_19 : decode cX6_isNext 19 = .ok (.if_icmp .ge 20, 3) := by decide +kernel
theorem dX6_isNext_22 : decode cX6_isNext 22 = .ok (.aload_n 0, 1) := by decide +kernel
theorem dX6_isNext_23 : decode cX6_isNext 23 = .ok (.getfield 9, 3) := by decide +kernel
theorem dX6_isNext_26 : decode cX6_isNext 26 = .ok (.aload_n 0, 1) := by decide +kernel
theorem dX6_isNext_27 : decode cX6_isNext 27 = .ok (.getfield 35, 3) := by decide +kernel
theorem dX6_isNext_30 : decode cX6_isNext 30 = .ok (.iaload, 1) := by decide +kernel
theorem dX6_isNext_31 : decode cX6_isNext 31 = .ok (.iload_n 1, 1) := by decide +kernel
theorem dX6_isNext_32 : decode cX6_isNext 32 = .ok (.if_icmp .ne 7, 3) := by decide +kernel
theorem dX6_isNext_35 : decode cX6_isNext 35 = .ok (.iconst 1, 1) := by decide +kernel
theorem dX6_isNext_36 : decode cX6_isNext 36 = .ok (.goto 4, 3) := by decide +kernel
theorem dX6_isNext_39 : decode cX6_isNext 39 = .ok (.iconst 0, 1) := by decide +kernel
theorem dX6_isNext_40 : decode cX6_isNext 40 = .ok (.ireturn, 1) := by decide +kernel
theorem dX6_skipBlanks_0 : decode cX6_skipBlanks 0 = .ok (.aload_n 0, 1) := by decide +kernel
theorem dX6_skipBlanks_1 : decode cX6_skipBlanks 1 = .ok (.getfield 35, 3) := by decide +kernel
theorem dX6_skipBlanks_4 : decode cX6_skipBlanks 4 = .ok (.aload_n 0, 1) := by decide +kernel
theorem dX6_skipBlanks_5 : decode cX6_skipBlanks 5 = .ok (.getfield 26, 3) := by decide +kernel
theorem dX6_skipBlanks_8 : decode cX6_skipBlanks 8 = .ok (.if_icmp .ge 30, 3) := by decide +kernel
theorem dX6_skipBlanks_11 : decode cX6_skipBlanks 11 = .ok (.aload_n 0, 1) := by decide +kernel
theorem dX6_skipBlanks_12 : decode cX6_skipBlanks 12 = .ok (.getfield 9, 3) := by decide +kernel
theorem dX6_skipBlanks_15 : decode cX6_skipBlanks 15 = .ok (.aload_n 0, 1) := by decide +kernel
theorem dX6_skipBlanks_16 : decode cX6_skipBlanks 16 = .ok (.getfield 35, 3) := by decide +kernel
theorem dX6_skipBlanks_19 : decode cX6_skipBlanks 19 = .ok (.iaload, 1) := by decide +kernel
theorem dX6_skipBlanks_20 : decode cX6_skipBlanks 20 = .ok (.bipush 32, 2) := by decide +kernel
theorem dX6_skipBlanks_22 : decode cX6_skipBlanks 22 = .ok (.if_icmp .ne 16, 3) := by decide +kernel
theorem dX6_skipBlanks_25 : decode cX6_skipBlanks 25 = .ok (.aload_n 0, 1) := by decide +kernel
theorem dX6_skipBlanks_26 : decode cX6_skipBlanks 26 = .ok (.dup, 1) := by decide +kernel
theorem dX6_skipBlanks_27 : decode cX6_skipBlanks 27 = .ok (.getfield 35, 3) := by decide +kernel
theorem dX6_skipBlanks_30 : decode cX6_skipBlanks 30 = .ok (.iconst 1, 1) := by decide +kernel
theorem dX6_skipBlanks_31 : decode cX6_skipBlanks 31 = .ok (.iadd, 1) := by decide +kernel
theorem dX6_skipBlanks_32 : decode cX6_skipBlanks 32 = .ok (.putfield 35, 3) := by decide +kernel
theorem dX6_skipBlanks_35 : decode cX6_skipBlanks 35 = .ok (.goto (-35), 3) := by decide +kernel
theorem dX6_skipBlanks_38 : decode cX6_skipBlanks 38 = .ok (.return_, 1) := by decide +kernel
theorem dX6_isFigure_0 : decode cX6_isFigure 0 = .ok (.iload_n 0, 1) := by decide +kernel
theorem dX6_isFigure_1 : decode cX6_isFigure 1 = .ok (.bipush 48, 2) := by decide +kernel
theorem dX6_isFigure_3 : decode cX6_isFigure 3 = .ok (.if_icmp .lt 13, 3) := by decide +kernel
theorem dX6_isFigure_6 : decode cX6_isFigure 6 = .ok (.iload_n 0, 1) := by decide +kernel
theorem dX6_isFigure_7 : decode cX6_isFigure 7 = .ok (.bipush 57, 2) := by decide +kernel
theorem dX6_isFigure_9 : decode cX6_isFigure 9 = .ok (.if_icmp .gt 7, 3) := by decide +kernel
theorem dX6_isFigure_12 : decode cX6_isFigure 12 = .ok (.iconst 1, 1) := by decide +kernel
theorem dX6_isFigure_13 : decode cX6_isFigure 13 = .ok (.goto 4, 3) := by decide +kernel
theorem dX6_isFigure_16 : decode cX6_isFigure 16 = .ok (.iconst 0, 1) := by decide +kernel
theorem dX6_isFigure_17 : decode cX6_isFigure 17 = .ok (.ireturn, 1) := by decide +kernel
theorem dX6_fail_0 : decode cX6_fail 0 = .ok (.aload_n 0, 1) := by decide +kernel
theorem dX6_fail_1 : decode cX6_fail 1 = .ok (.getfield 32, 3) := by decide +kernel
theorem dX6_fail_4 : decode cX6_fail 4 = .ok (.ifCond .eq 4, 3) := by decide +kernel
theorem dX6_fail_7 : decode cX6_fail 7 = .ok (.return_, 1) := by decide +kernel
theorem dX6_fail_8 : decode cX6_fail 8 = .ok (.aload_n 0, 1) := by decide +kernel
theorem dX6_fail_9 : decode cX6_fail 9 = .ok (.iload_n 1, 1) := by decide +kernel
theorem dX6_fail_10 : decode cX6_fail 10 = .ok (.putfield 32, 3) := by decide +kernel
theorem dX6_fail_13 : decode cX6_fail 13 = .ok (.aload_n 0, 1) := by decide +kernel
theorem dX6_fail_14 : decode cX6_fail 14 = .ok (.iload_n 2, 1) := by decide +kernel
theorem dX6_fail_15 : decode cX6_fail 15 = .ok (.putfield 22, 3) := by decide +kernel
theorem dX6_fail_18 : decode cX6_fail 18 = .ok (.return_, 1) := by decide +kernel
theorem dX7_init_0 : decode cX7_init 0 = .ok (.aload_n 0, 1) := by decide +kernel
theorem dX7_init_1 : decode cX7_init 1 = .ok (.invokespecial 3, 3) := by decide +kernel
theorem dX7_init_4 : decode cX7_init 4 = .ok (.aload_n 0, 1) := by decide +kernel
theorem dX7_init_5 : decode cX7_init 5 = .ok (.iconst 5, 1) := by decide +kernel
theorem dX7_init_6 : decode cX7_init 6 = .ok (.newarray .int, 2) := by decide +kernel
theorem dX7_init_8 : decode cX7_init 8 = .ok (.putfield 9, 3) := by decide +kernel
theorem dX7_init_11 : decode cX7_init 11 = .ok (.aload_n 0, 1) := by decide +kernel
theorem dX7_init_12 : decode cX7_init 12 = .ok (.bipush 6, 2) := by decide +kernel
theorem dX7_init_14 : decode cX7_init 14 = .ok (.newarray .int, 2) := by decide +kernel
theorem dX7_init_16 : decode cX7_init 16 = .ok (.putfield 15, 3) := by decide +kernel
theorem dX7_init_19 : decode cX7_init 19 = .ok (.aload_n 0, 1) := by decide +kernel
theorem dX7_init_20 : decode cX7_init 20 = .ok (.aload_n 1, 1) := by decide +kernel
theorem dX7_init_21 : decode cX7_init 21 = .ok (.putfield 18, 3) := by decide +kernel
theorem dX7_init_24 : decode cX7_init 24 = .ok (.aload_n 0, 1) := by decide +kernel
theorem dX7_init_25 : decode cX7_init 25 = .ok (.aload_n 2, 1) := by decide +kernel
theorem dX7_init_26 : decode cX7_init 26 = .ok (.putfield 22, 3) := by decide +kernel
theorem dX7_init_29 : decode cX7_init 29 = .ok (.return_, 1) := by decide +kernel
theorem dX7_tryRows_0 : decode cX7_tryRows 0 = .ok (.aload_n 0, 1) := by decide +kernel
theorem dX7_tryRows_1 : decode cX7_tryRows 1 = .ok (.iconst 5, 1) := by decide +kernel
theorem dX7_tryRows_2 : decode cX7_tryRows 2 = .ok (.iload_n 2, 1) := by decide +kernel
theorem dX7_tryRows_3 : decode cX7_tryRows 3 = .ok (.invokestatic 26, 3) := by decide +kernel
theorem dX7_tryRows_6 : decode cX7_tryRows 6 = .ok (.putfield 32, 3) := by decide +kernel
theorem dX7_tryRows_9 : decode cX7_tryRows 9 = .ok (.iconst 0, 1) := by decide +kernel
theorem dX7_tryRows_10 : decode cX7_tryRows 10 = .ok (.istore_n 3, 1) := by decide +kernel
theorem dX7_tryRows_11 : decode cX7_tryRows 11 = .ok (.iload_n 3, 1) := by decide +kernel
theorem dX7_tryRows_12 : decode cX7_tryRows 12 = .ok (.bipush 6, 2) := by decide +kernel
theorem dX7_tryRows_14 : decode cX7_tryRows 14 = .ok (.if_icmp .ge 16, 3) := by decide +kernel
theorem dX7_tryRows_17 : decode cX7_tryRows 17 = .ok (.aload_n 0, 1) := by decide +kernel
theorem dX7_tryRows_18 : decode cX7_tryRows 18 = .ok (.getfield 15, 3) := by decide +kernel
theorem dX7_tryRows_21 : decode cX7_tryRows 21 = .ok (.iload_n 3, 1) := by decide +kernel
theorem dX7_tryRows_22 : decode cX7_tryRows 22 = .ok (.iconst 0, 1) := by decide +kernel
theorem dX7_tryRows_23 : decode cX7_tryRows 23 = .ok (.iastore, 1) := by decide +kernel
theorem dX7_tryRows_24 : decode cX7_tryRows 24 = .ok (.iinc 3 1, 3) := by decide +kernel
theorem dX7_tryRows_27 : decode cX7_tryRows 27 = .ok (.goto (-16), 3) := by decide +kernel
theorem dX7_tryRows_30 : decode cX7_tryRows 30 = .ok (.aload_n 0, 1) := by decide +kernel
theorem dX7_tryRows_31 : decode cX7_tryRows 31 = .ok (.getfield 22, 3) := by decide +kernel
theorem dX7_tryRows_34 : decode cX7_tryRows 34 = .ok (.iconst 0, 1) := by decide +kernel
theorem dX7_tryRows_35 : decode cX7_tryRows 35 = .ok (.aaload, 1) := by decide +kernel
theorem dX7_tryRows_36 : decode cX7_tryRows 36 = .ok (.aload_n 1, 1) := by decide +kernel
theorem dX7_tryRows_37 : decode cX7_tryRows 37 = .ok (.invokevirtual 36, 3) := by decide +kernel
theorem dX7_tryRows_40 : decode cX7_tryRows 40 = .ok (.aload_n 0, 1) := by decide +kernel
theorem dX7_tryRows_41 : decode cX7_tryRows 41 = .ok (.iconst 0, 1) := by decide +kernel
theorem dX7_tryRows_42 : decode cX7_tryRows 42 = .ok (.invokevirtual 42, 3) := by decide +kernel
theorem dX7_tryRows_45 : decode cX7_tryRows 45 = .ok (.return_, 1) := by decide +kernel
theorem dX7_goOn_0 : decode cX7_goOn 0 = .ok (.iload_n 1, 1) := by decide +kernel
theorem dX7_goOn_1 : decode cX7_goOn 1 = .ok (.aload_n 0, 1) := by decide +kernel
theorem dX7_goOn_2 : decode cX7_goOn 2 = .ok (.getfield 32, 3) := by decide +kernel
theorem dX7_goOn_5 : decode cX7_goOn 5 = .ok (.if_icmp .lt 8, 3) := by decide +kernel
theorem dX7_goOn_8 : decode cX7_goOn 8 = .ok (.aload_n 0, 1) := by decide +kernel
theorem dX7_goOn_9 : decode cX7_goOn 9 = .ok (.invokevirtual 46, 3) := by decide +kernel
theorem dX7_goOn_12 : decode cX7_goOn 12 = .ok (.return_, 1) := by decide +kernel
theorem dX7_goOn_13 : decode cX7_goOn 13 = .ok (.iconst 0, 1) := by decide +kernel
theorem dX7_goOn_14 : decode cX7_goOn 14 = .ok (.istore_n 2, 1) := by decide +kernel
theorem dX7_goOn_15 : decode cX7_goOn 15 = .ok (.iload_n 2, 1) := by decide +kernel
theorem dX7_goOn_16 : decode cX7_goOn 16 = .ok (.aload_n 0, 1) := by decide +kernel
theorem dX7_goOn_17 : decode cX7_goOn 17 = .ok (.getfield 18, 3) := by decide +kernel
theorem dX7_goOn_20 : decode cX7_goOn 20 = .ok (.getfield 49, 3) := by decide +kernel
theorem dX7_goOn_23 : decode cX7_goOn 23 = .ok (.if_icmp .ge 86, 3) := by decide +kernel
theorem dX7_goOn_26 : decode cX7_goOn 26 = .ok (.aload_n 0, 1) := by decide +kernel
theorem dX7_goOn_27 : decode cX7_goOn 27 = .ok (.getfield 22, 3) := by decide +kernel
theorem dX7_goOn_30 : decode cX7_goOn 30 = .ok (.iload_n 1, 1) := by decide +kernel
theorem dX7_goOn_31 : decode cX7_goOn 31 = .ok (.aaload, 1) := by decide +kernel
theorem dX7_goOn_32 : decode cX7_goOn 32 = .ok (.iload_n 2, 1) := by decide +kernel
theorem dX7_goOn_33 : decode cX7_goOn 33 = .ok (.iconst (-1), 1) := by decide +kernel
theorem dX7_goOn_34 : decode cX7_goOn 34 = .ok (.iconst 0, 1) := by decide +kernel
theorem dX7_goOn_35 : decode cX7_goOn 35 = .ok (.invokevirtual 54, 3) := by decide +kernel
theorem dX7_goOn_38 : decode cX7_goOn 38 = .ok (.istore_n 3, 1) := by decide +kernel
theorem dX7_goOn_39 : decode cX7_goOn 39 = .ok (.aload_n 0, 1) := by decide +kernel
theorem dX7_goOn_40 : decode cX7_goOn 40 = .ok (.iload_n 1, 1) := by decide +kernel
theorem dX7_goOn_41 : decode cX7_goOn 41 = .ok (.iload_n 2, 1) := by decide +kernel
theorem dX7_goOn_42 : decode cX7_goOn 42 = .ok (.iload_n 3, 1) := by decide +kernel
theorem dX7_goOn_43 : decode cX7_goOn 43 = .ok (.invokevirtual 58, 3) := by decide +kernel
theorem dX7_goOn_46 : decode cX7_goOn 46 = .ok (.ifCond .ne 6, 3) := by decide +kernel
theorem dX7_goOn_49 : decode cX7_goOn 49 = .ok (.goto 54, 3) := by decide +kernel
theorem dX7_goOn_52 : decode cX7_goOn 52 = .ok (.aload_n 0, 1) := by decide +kernel
theorem dX7_goOn_53 : decode cX7_goOn 53 = .ok (.getfield 9, 3) := by decide +kernel
theorem dX7_goOn_56 : decode cX7_goOn 56 = .ok (.iload_n 1, 1) := by decide +kernel
theorem dX7_goOn_57 : decode cX7_goOn 57 = .ok (.iload_n 2, 1) := by decide +kernel
theorem dX7_goOn_58 : decode cX7_goOn 58 = .ok (.iastore, 1) := by decide +kernel
theorem dX7_goOn_59 : decode cX7_goOn 59 = .ok (.aload_n 0, 1) := by decide +kernel
theorem dX7_goOn_60 : decode cX7_goOn 60 = .ok (.getfield 15, 3) := by decide +kernel
theorem dX7_goOn_63 : decode cX7_goOn 63 = .ok (.iload_n 2, 1) := by decide +kernel
theorem dX7_goOn_64 : decode cX7_goOn 64 = .ok (.dup2, 1) := by decide +kernel
theorem dX7_goOn_65 : decode cX7_goOn 65 = .ok (.iaload, 1) := by decide +kernel
theorem dX7_goOn_66 : decode cX7_goOn 66 = .ok (.iconst 1, 1) := by decide +kernel
theorem dX7_goOn_67 : decode cX7_goOn 67 = .ok (.iadd, 1) := by decide +kernel
theorem dX7_goOn_68 : decode cX7_goOn 68 = .ok (.iastore, 1) := by decide +kernel
theorem dX7_goOn_69 : decode cX7_goOn 69 = .ok (.iload_n 1, 1) := by decide +kernel
theorem dX7_goOn_70 : decode cX7_goOn 70 = .ok (.iconst 1, 1) := by decide +kernel
theorem dX7_goOn_71 : decode cX7_goOn 71 = .ok (.iadd, 1) := by decide +kernel
theorem dX7_goOn_72 : decode cX7_goOn 72 = .ok (.aload_n 0, 1) := by decide +kernel
theorem dX7_goOn_73 : decode cX7_goOn 73 = .ok (.getfield 32, 3) := by decide +kernel
theorem dX7_goOn_76 : decode cX7_goOn 76 = .ok (.if_icmp .ge 10, 3) := by decide +kernel
theorem dX7_goOn_79 : decode cX7_goOn 79 = .ok (.aload_n 0, 1) := by decide +kernel
theorem dX7_goOn_80 : decode cX7_goOn 80 = .ok (.iload_n 1, 1) := by decide +kernel
theorem dX7_goOn_81 : decode cX7_goOn 81 = .ok (.iload_n 2, 1) := by decide +kernel
theorem dX7_goOn_82 : decode cX7_goOn 82 = .ok (.iload_n 3, 1) := by decide +kernel
theorem dX7_goOn_83 : decode cX7_goOn 83 = .ok (.invokevirtual 62, 3) := by decide +kernel
theorem dX7_goOn_86 : decode cX7_goOn 86 = .ok (.aload_n 0, 1) := by decide +kernel
theorem dX7_goOn_87 : decode cX7_goOn 87 = .ok (.iload_n 1, 1) := by decide +kernel
theorem dX7_goOn_88 : decode cX7_goOn 88 = .ok (.iconst 1, 1) := by decide +kernel
theorem dX7_goOn_89 : decode cX7_goOn 89 = .ok (.iadd, 1) := by decide +kernel
theorem dX7_goOn_90 : decode cX7_goOn 90 = .ok (.invokevirtual 42, 3) := by decide +kernel
theorem dX7_goOn_93 : decode cX7_goOn 93 = .ok (.aload_n 0, 1) := by decide +kernel
theorem dX7_goOn_94 : decode cX7_goOn 94 = .ok (.getfield 15, 3) := by decide +kernel
theorem dX7_goOn_97 : decode cX7_goOn 97 = .ok (.iload_n 2, 1) := by decide +kernel
theorem dX7_goOn_98 : decode cX7_goOn 98 = .ok (.dup2, 1) := by decide +kernel
theorem dX7_goOn_99 : decode cX7_goOn 99 = .ok (.iaload, 1) := by decide +kernel
theorem dX7_goOn_100 : decode cX7_goOn 100 = .ok (.iconst 1, 1) := by decide +kernel
theorem dX7_goOn_101 : decode cX7_goOn 101 = .ok (.isub, 1) := by decide +kernel
theorem dX7_goOn_102 : decode cX7_goOn 102 = .ok (.iastore, 1) := by decide +kernel
theorem dX7_goOn_103 : decode cX7_goOn 103 = .ok (.iinc 2 1, 3) := by decide +kernel
theorem dX7_goOn_106 : decode cX7_goOn 106 = .ok (.goto (-91), 3) := by decide +kernel
theorem dX7_goOn_109 : decode cX7_goOn 109 = .ok (.return_, 1) := by decide +kernel
theorem dX7_standBehind_0 : decode cX7_standBehind 0 = .ok (.aload_n 0, 1) := by decide +kernel
theorem dX7_standBehind_1 : decode cX7_standBehind 1 = .ok (.getfield 22, 3) := by decide +kernel
theorem dX7_standBehind_4 : decode cX7_standBehind 4 = .ok (.iload_n 1, 1) := by decide +kernel
theorem dX7_standBehind_5 : decode cX7_standBehind 5 = .ok (.iconst 1, 1) := by decide +kernel
theorem dX7_standBehind_6 : decode cX7_standBehind 6 = .ok (.iadd, 1) := by decide +kernel
theorem dX7_standBehind_7 : decode cX7_standBehind 7 = .ok (.aaload, 1) := by decide +kernel
theorem dX7_standBehind_8 : decode cX7_standBehind 8 = .ok (.astore 4, 2) := by decide +kernel
theorem dX7_standBehind_10 : decode cX7_standBehind 10 = .ok (.aload 4, 2) := by decide +kernel
theorem dX7_standBehind_12 : decode cX7_standBehind 12 = .ok (.aload_n 0, 1) := by decide +kernel
theorem dX7_standBehind_13 : decode cX7_standBehind 13 = .ok (.getfield 22, 3) := by decide +kernel
theorem dX7_standBehind_16 : decode cX7_standBehind 16 = .ok (.iload_n 1, 1) := by decide +kernel
theorem dX7_standBehind_17 : decode cX7_standBehind 17 = .ok (.aaload, 1) := by decide +kernel
theorem dX7_standBehind_18 : decode cX7_standBehind 18 = .ok (.invokevirtual 36, 3) := by decide +kernel
theorem dX7_standBehind_21 : decode cX7_standBehind 21 = .ok (.aload 4, 2) := by decide +kernel
theorem dX7_standBehind_23 : decode cX7_standBehind 23 = .ok (.iload_n 2, 1) := by decide +kernel
theorem dX7_standBehind_24 : decode cX7_standBehind 24 = .ok (.invokevirtual 66, 3) := by decide +kernel
theorem dX7_standBehind_27 : decode cX7_standBehind 27 = .ok (.aload 4, 2) := by decide +kernel
theorem dX7_standBehind_29 : decode cX7_standBehind 29 = .ok (.iload_n 3, 1) := by decide +kernel
theorem dX7_standBehind_30 : decode cX7_standBehind 30 = .ok (.invokevirtual 69, 3) := by decide +kernel
theorem dX7_standBehind_33 : decode cX7_standBehind 33 = .ok (.return_, 1) := by decide +kernel
theorem dX8_init_0 : decode cX8_init 0 = .ok (.aload_n 0, 1) := by decide +kernel
theorem dX8_init_1 : decode cX8_init 1 = .ok (.aload_n 1, 1) := by decide +kernel
theorem dX8_init_2 : decode cX8_init 2 = .ok (.aload_n 2, 1) := by decide +kernel
theorem dX8_init_3 : decode cX8_init 3 = .ok (.invokespecial 3, 3) := by decide +kernel
theorem dX8_init_6 : decode cX8_init 6 = .ok (.aload_n 0, 1) := by decide +kernel
theorem dX8_init_7 : decode cX8_init 7 = .ok (.iconst 5, 1) := by decide +kernel
theorem dX8_init_8 : decode cX8_init 8 = .ok (.newarray .int, 2) := by decide +kernel
theorem dX8_init_10 : decode cX8_init 10 = .ok (.putfield 9, 3) := by decide +kernel
theorem dX8_init_13 : decode cX8_init 13 = .ok (.aload_n 0, 1) := by decide +kernel
theorem dX8_init_14 : decode cX8_init 14 = .ok (.iconst 5, 1) := by decide +kernel
theorem dX8_init_15 : decode cX8_init 15 = .ok (.newarray .int, 2) := by decide +kernel
theorem dX8_init_17 : decode cX8_init 17 = .ok (.putfield 15, 3) := by decide +kernel
theorem dX8_init_20 : decode cX8_init 20 = .ok (.return_, 1) := by decide +kernel
theorem dX8_clear_0 : decode cX8_clear 0 = .ok (.aload_n 0, 1) := by decide +kernel
theorem dX8_clear_1 : decode cX8_clear 1 = .ok (.iconst 0, 1) := by decide +kernel
theorem dX8_clear_2 : decode cX8_clear 2 = .ok (.putfield 18, 3) := by decide +kernel
theorem dX8_clear_5 : decode cX8_clear 5 = .ok (.return_, 1) := by decide +kernel
theorem dX8_add_0 : decode cX8_add 0 = .ok (.aload_n 0, 1) := by decide +kernel
theorem dX8_add_1 : decode cX8_add 1 = .ok (.getfield 18, 3) := by decide +kernel
theorem dX8_add_4 : decode cX8_add 4 = .ok (.iconst 5, 1) := by decide +kernel
theorem dX8_add_5 : decode cX8_add 5 = .ok (.if_icmp .ge 23, 3) := by decide +kernel
theorem dX8_add_8 : decode cX8_add 8 = .ok (.aload_n 0, 1) := by decide +kernel
theorem dX8_add_9 : decode cX8_add 9 = .ok (.getfield 9, 3) := by decide +kernel
theorem dX8_add_12 : decode cX8_add 12 = .ok (.aload_n 0, 1) := by decide +kernel
theorem dX8_add_13 : decode cX8_add 13 = .ok (.getfield 18, 3) := by decide +kernel
theorem dX8_add_16 : decode cX8_add 16 = .ok (.iload_n 1, 1) := by decide +kernel
theorem dX8_add_17 : decode cX8_add 17 = .ok (.iastore, 1) := by decide +kernel
theorem dX8_add_18 : decode cX8_add 18 = .ok (.aload_n 0, 1) := by decide +kernel
theorem dX8_add_19 : decode cX8_add 19 = .ok (.dup, 1) := by decide +kernel
theorem dX8_add_20 : decode cX8_add 20 = .ok (.getfield 18, 3) := by decide +kernel
theorem dX8_add_23 : decode cX8_add 23 = .ok (.iconst 1, 1) := by decide +kernel
theorem dX8_add_24 : decode cX8_add 24 = .ok (.iadd, 1) := by decide +kernel
theorem dX8_add_25 : decode cX8_add 25 = .ok (.putfield 18, 3) := by decide +kernel
theorem dX8_add_28 : decode cX8_add 28 = .ok (.aload_n 0, 1) := by decide +kernel
theorem dX8_add_29 : decode cX8_add 29 = .ok (.getfield 18, 3) := by decide +kernel
theorem dX8_add_32 : decode cX8_add 32 = .ok (.ireturn, 1) := by decide +kernel
theorem dX8_find_0 : decode cX8_find 0 = .ok (.aload_n 0, 1) := by decide +kernel
theorem dX8_find_1 : decode cX8_find 1 = .ok (.iconst 0, 1) := by decide +kernel
theorem dX8_find_2 : decode cX8_find 2 = .ok (.putfield 22, 3) := by decide +kernel
theorem dX8_find_5 : decode cX8_find 5 = .ok (.aload_n 0, 1) := by decide +kernel
theorem dX8_find_6 : decode cX8_find 6 = .ok (.iconst 0, 1) := by decide +kernel
theorem dX8_find_7 : decode cX8_find 7 = .ok (.putfield 25, 3) := by decide +kernel
theorem dX8_find_10 : decode cX8_find 10 = .ok (.aload_n 0, 1) := by decide +kernel
theorem dX8_find_11 : decode cX8_find 11 = .ok (.aload_n 1, 1) := by decide +kernel
theorem dX8_find_12 : decode cX8_find 12 = .ok (.aload_n 0, 1) := by decide +kernel
theorem dX8_find_13 : decode cX8_find 13 = .ok (.getfield 18, 3) := by decide +kernel
theorem dX8_find_16 : decode cX8_find 16 = .ok (.invokevirtual 28, 3) := by decide +kernel
theorem dX8_find_19 : decode cX8_find 19 = .ok (.return_, 1) := by decide +kernel
theorem dX8_fits_0 : decode cX8_fits 0 = .ok (.iload_n 3, 1) := by decide +kernel
theorem dX8_fits_1 : decode cX8_fits 1 = .ok (.aload_n 0, 1) := by decide +kernel
theorem dX8_fits_2 : decode cX8_fits 2 = .ok (.getfield 9, 3) := by decide +kernel
theorem dX8_fits_5 : decode cX8_fits 5 = .ok (.iload_n 1, 1) := by decide +kernel
theorem dX8_fits_6 : decode cX8_fits 6 = .ok (.iaload, 1) := by decide +kernel
theorem dX8_fits_7 : decode cX8_fits 7 = .ok (.if_icmp .ne 7, 3) := by decide +kernel
theorem dX8_fits_10 : decode cX8_fits 10 = .ok (.iconst 1, 1) := by decide +kernel
theorem dX8_fits_11 : decode cX8_fits 11 = .ok (.goto 4, 3) := by decide +kernel
theorem dX8_fits_14 : decode cX8_fits 14 = .ok (.iconst 0, 1) := by decide +kernel
theorem dX8_fits_15 : decode cX8_fits 15 = .ok (.ireturn, 1) := by decide +kernel
theorem dX8_endRow_0 : decode cX8_endRow 0 = .ok (.iconst 0, 1) := by decide +kernel
theorem dX8_endRow_1 : decode cX8_endRow 1 = .ok (.istore_n 1, 1) := by decide +kernel
theorem dX8_endRow_2 : decode cX8_endRow 2 = .ok (.iconst 0, 1) := by decide +kernel
theorem dX8_endRow_3 : decode cX8_endRow 3 = .ok (.istore_n 2, 1) := by decide +kernel
theorem dX8_endRow_4 : decode cX8_endRow 4 = .ok (.iload_n 2, 1) := by decide +kernel
theorem dX8_endRow_5 : decode cX8_endRow 5 = .ok (.bipush 6, 2) := by decide +kernel
theorem dX8_endRow_7 : decode cX8_endRow 7 = .ok (.if_icmp .ge 24, 3) := by decide +kernel
theorem dX8_endRow_10 : decode cX8_endRow 10 = .ok (.aload_n 0, 1) := by decide +kernel
theorem dX8_endRow_11 : decode cX8_endRow 11 = .ok (.getfield 32, 3) := by decide +kernel
theorem dX8_endRow_14 : decode cX8_endRow 14 = .ok (.iload_n 2, 1) := by decide +kernel
theorem dX8_endRow_15 : decode cX8_endRow 15 = .ok (.iaload, 1) := by decide +kernel
theorem dX8_endRow_16 : decode cX8_endRow 16 = .ok (.ifCond .le 9, 3) := by decide +kernel
theorem dX8_endRow_19 : decode cX8_endRow 19 = .ok (.iload_n 1, 1) := by decide +kernel
theorem dX8_endRow_20 : decode cX8_endRow 20 = .ok (.iconst 1, 1) := by decide +kernel
theorem dX8_endRow_21 : decode cX8_endRow 21 = .ok (.iload_n 2, 1) := by decide +kernel
theorem dX8_endRow_22 : decode cX8_endRow 22 = .ok (.ishl, 1) := by decide +kernel
theorem dX8_endRow_23 : decode cX8_endRow 23 = .ok (.ior, 1) := by decide +kernel
theorem dX8_endRow_24 : decode cX8_endRow 24 = .ok (.istore_n 1, 1) := by decide +kernel
theorem dX8_endRow_25 : decode cX8_endRow 25 = .ok (.iinc 2 1, 3) := by decide +kernel
theorem dX8_endRow_28 : decode cX8_endRow 28 = .ok (.goto (-24), 3) := by decide +kernel
theorem dX8_endRow_31 : decode cX8_endRow 31 = .ok (.aload_n 0, 1) := by decide +kernel
theorem dX8_endRow_32 : decode cX8_endRow 32 = .ok (.getfield 22, 3) := by decide +kernel
theorem dX8_endRow_35 : decode cX8_endRow 35 = .ok (.ifCond .ne 22, 3) := by decide +kernel
theorem dX8_endRow_38 : decode cX8_endRow 38 = .ok (.aload_n 0, 1) := by decide +kernel
theorem dX8_endRow_39 : decode cX8_endRow 39 = .ok (.iload_n 1, 1) := by decide +kernel
theorem dX8_endRow_40 : decode cX8_endRow 40 = .ok (.putfield 25, 3) := by decide +kernel
theorem dX8_endRow_43 : decode cX8_endRow 43 = .ok (.aload_n 0, 1) := by decide +kernel
theorem dX8_endRow_44 : decode cX8_endRow 44 = .ok (.getfield 35, 3) := by decide +kernel
theorem dX8_endRow_47 : decode cX8_endRow 47 = .ok (.iconst 0, 1) := by decide +kernel
theorem dX8_endRow_48 : decode cX8_endRow 48 = .ok (.aload_n 0, 1) := by decide +kernel
theorem dX8_endRow_49 : decode cX8_endRow 49 = .ok (.getfield 15, 3) := by decide +kernel
theorem dX8_endRow_52 : decode cX8_endRow 52 = .ok (.iconst 0, 1) := by decide +kernel
theorem dX8_endRow_53 : decode cX8_endRow 53 = .ok (.iconst 5, 1) := by decide +kernel
theorem dX8_endRow_54 : decode cX8_endRow 54 = .ok (.invokestatic 38, 3) := by decide +kernel
theorem dX8_endRow_57 : decode cX8_endRow 57 = .ok (.aload_n 0, 1) := by decide +kernel
theorem dX8_endRow_58 : decode cX8_endRow 58 = .ok (.dup, 1) := by decide +kernel
theorem dX8_endRow_59 : decode cX8_endRow 59 = .ok (.getfield 25, 3) := by decide +kernel
theorem dX8_endRow_62 : decode cX8_endRow 62 = .ok (.iload_n 1, 1) := by decide +kernel
theorem dX8_endRow_63 : decode cX8_endRow 63 = .ok (.iand, 1) := by decide +kernel
theorem dX8_endRow_64 : decode cX8_endRow 64 = .ok (.putfield 25, 3) := by decide +kernel
theorem dX8_endRow_67 : decode cX8_endRow 67 = .ok (.aload_n 0, 1) := by decide +kernel
theorem dX8_endRow_68 : decode cX8_endRow 68 = .ok (.dup, 1) := by decide +kernel
theorem dX8_endRow_69 : decode cX8_endRow 69 = .ok (.getfield 22, 3) := by decide +kernel
theorem dX8_endRow_72 : decode cX8_endRow 72 = .ok (.iconst 1, 1) := by decide +kernel
theorem dX8_endRow_73 : decode cX8_endRow 73 = .ok (.iadd, 1) := by decide +kernel
theorem dX8_endRow_74 : decode cX8_endRow 74 = .ok (.putfield 22, 3) := by decide +kernel
theorem dX8_endRow_77 : decode cX8_endRow 77 = .ok (.return_, 1) := by decide +kernel
theorem dX8_holderAt_0 : decode cX8_holderAt 0 = .ok (.aload_n 0, 1) := by decide +kernel
theorem dX8_holderAt_1 : decode cX8_holderAt 1 = .ok (.getfield 22, 3) := by decide +kernel
theorem dX8_holderAt_4 : decode cX8_holderAt 4 = .ok (.ifCond .le 24, 3) := by decide +kernel
theorem dX8_holderAt_7 : decode cX8_holderAt 7 = .ok (.iload_n 1, 1) := by decide +kernel
theorem dX8_holderAt_8 : decode cX8_holderAt 8 = .ok (.ifCond .lt 20, 3) := by decide +kernel
theorem dX8_holderAt_11 : decode cX8_holderAt 11 = .ok (.iload_n 1, 1) := by decide +kernel
theorem dX8_holderAt_12 : decode cX8_holderAt 12 = .ok (.aload_n 0, 1) := by decide +kernel
theorem dX8_holderAt_13 : decode cX8_holderAt 13 = .ok (.getfield 44, 3) := by decide +kernel
theorem dX8_holderAt_16 : decode cX8_holderAt 16 = .ok (.if_icmp .ge 12, 3) := by decide +kernel
theorem dX8_holderAt_19 : decode cX8_holderAt 19 = .ok (.aload_n 0, 1) := by decide +kernel
theorem dX8_holderAt_20 : decode cX8_holderAt 20 = .ok (.getfield 15, 3) := by decide +kernel
theorem dX8_holderAt_23 : decode cX8_holderAt 23 = .ok (.iload_n 1, 1) := by decide +kernel
theorem dX8_holderAt_24 : decode cX8_holderAt 24 = .ok (.iaload, 1) := by decide +kernel
theorem dX8_holderAt_25 : decode cX8_holderAt 25 = .ok (.goto 4, 3) := by decide +kernel
theorem dX8_holderAt_28 : decode cX8_holderAt 28 = .ok (.iconst (-1), 1) := by decide +kernel
theorem dX8_holderAt_29 : decode cX8_holderAt 29 = .ok (.ireturn, 1) := by decide +kernel
theorem dX9_init_0 : decode cX9_init 0 = .ok (.aload_n 0, 1) := by decide +kernel
theorem dX9_init_1 : decode cX9_init 1 = .ok (.aload_n 1, 1) := by decide +kernel
theorem dX9_init_2 : decode cX9_init 2 = .ok (.aload_n 2, 1) := by decide +kernel
theorem dX9_init_3 : decode cX9_init 3 = .ok (.invokespecial 3, 3) := by decide +kernel
theorem dX9_init_6 : decode cX9_init 6 = .ok (.aload_n 0, 1) := by decide +kernel
theorem dX9_init_7 : decode cX9_init 7 = .ok (.iconst 5, 1) := by decide +kernel
theorem dX9_init_8 : decode cX9_init 8 = .ok (.newarray .int, 2) := by decide +kernel
theorem dX9_init_10 : decode cX9_init 10 = .ok (.putfield 9, 3) := by decide +kernel
theorem dX9_init_13 : decode cX9_init 13 = .ok (.return_, 1) := by decide +kernel
theorem dX9_find_0 : decode cX9_find 0 = .ok (.aload_n 0, 1) := by decide +kernel
theorem dX9_find_1 : decode cX9_find 1 = .ok (.iload_n 3, 1) := by decide +kernel
theorem dX9_find_2 : decode cX9_find 2 = .ok (.putfield 15, 3) := by decide +kernel
theorem dX9_find_5 : decode cX9_find 5 = .ok (.aload_n 0, 1) := by decide +kernel
theorem dX9_find_6 : decode cX9_find 6 = .ok (.bipush 6, 2) := by decide +kernel
theorem dX9_find_8 : decode cX9_find 8 = .ok (.putfield 19, 3) := by decide +kernel
theorem dX9_find_11 : decode cX9_find 11 = .ok (.aload_n 0, 1) := by decide +kernel
theorem dX9_find_12 : decode cX9_find 12 = .ok (.iconst 0, 1) := by decide +kernel
theorem dX9_find_13 : decode cX9_find 13 = .ok (.putfield 22, 3) := by decide +kernel
theorem dX9_find_16 : decode cX9_find 16 = .ok (.aload_n 0, 1) := by decide +kernel
theorem dX9_find_17 : decode cX9_find 17 = .ok (.aload_n 1, 1) := by decide +kernel
theorem dX9_find_18 : decode cX9_find 18 = .ok (.iload_n 2, 1) := by decide +kernel
theorem dX9_find_19 : decode cX9_find 19 = .ok (.invokevirtual 25, 3) := by decide +kernel
theorem dX9_find_22 : decode cX9_find 22 = .ok (.return_, 1) := by decide +kernel
theorem dX9_fits_0 : decode cX9_fits 0 = .ok (.iload_n 3, 1) := by decide +kernel
theorem dX9_fits_1 : decode cX9_fits 1 = .ok (.aload_n 0, 1) := by decide +kernel
theorem dX9_fits_2 : decode cX9_fits 2 = .ok (.getfield 15, 3) := by decide +kernel
theorem dX9_fits_5 : decode cX9_fits 5 = .ok (.if_icmp .le 5, 3) := by decide +kernel
theorem dX9_fits_8 : decode cX9_fits 8 = .ok (.iconst 0, 1) := by decide +kernel
theorem dX9_fits_9 : decode cX9_fits 9 = .ok (.ireturn, 1) := by decide +kernel
theorem dX9_fits_10 : decode cX9_fits 10 = .ok (.aload_n 0, 1) := by decide +kernel
theorem dX9_fits_11 : decode cX9_fits 11 = .ok (.aload_n 0, 1) := by decide +kernel
theorem dX9_fits_12 : decode cX9_fits 12 = .ok (.getfield 22, 3) := by decide +kernel
theorem dX9_fits_15 : decode cX9_fits 15 = .ok (.iload_n 1, 1) := by decide +kernel
theorem dX9_fits_16 : decode cX9_fits 16 = .ok (.iconst 1, 1) := by decide +kernel
theorem dX9_fits_17 : decode cX9_fits 17 = .ok (.iadd, 1) := by decide +kernel
theorem dX9_fits_18 : decode cX9_fits 18 = .ok (.invokestatic 29, 3) := by decide +kernel
theorem dX9_fits_21 : decode cX9_fits 21 = .ok (.putfield 22, 3) := by decide +kernel
theorem dX9_fits_24 : decode cX9_fits 24 = .ok (.aload_n 0, 1) := by decide +kernel
theorem dX9_fits_25 : decode cX9_fits 25 = .ok (.getfield 35, 3) := by decide +kernel
theorem dX9_fits_28 : decode cX9_fits 28 = .ok (.iload_n 2, 1) := by decide +kernel
theorem dX9_fits_29 : decode cX9_fits 29 = .ok (.iaload, 1) := by decide +kernel
theorem dX9_fits_30 : decode cX9_fits 30 = .ok (.iconst 1, 1) := by decide +kernel
theorem dX9_fits_31 : decode cX9_fits 31 = .ok (.iadd, 1) := by decide +kernel
theorem dX9_fits_32 : decode cX9_fits 32 = .ok (.aload_n 0, 1) := by decide +kernel
theorem dX9_fits_33 : decode cX9_fits 33 = .ok (.getfield 19, 3) := by decide +kernel
theorem dX9_fits_36 : decode cX9_fits 36 = .ok (.if_icmp .ge 7, 3) := by decide +kernel
theorem dX9_fits_39 : decode cX9_fits 39 = .ok (.iconst 1, 1) := by decide +kernel
theorem dX9_fits_40 : decode cX9_fits 40 = .ok (.goto 4, 3) := by decide +kernel
theorem dX9_fits_43 : decode cX9_fits 43 = .ok (.iconst 0, 1) := by decide +kernel
theorem dX9_fits_44 : decode cX9_fits 44 = .ok (.ireturn, 1) := by decide +kernel
theorem dX9_endRow_0 : decode cX9_endRow 0 = .ok (.iconst 0, 1) := by decide +kernel
theorem dX9_endRow_1 : decode cX9_endRow 1 = .ok (.istore_n 1, 1) := by decide +kernel
theorem dX9_endRow_2 : decode cX9_endRow 2 = .ok (.iconst 0, 1) := by decide +kernel
theorem dX9_endRow_3 : decode cX9_endRow 3 = .ok (.istore_n 2, 1) := by decide +kernel
theorem dX9_endRow_4 : decode cX9_endRow 4 = .ok (.iload_n 2, 1) := by decide +kernel
theorem dX9_endRow_5 : decode cX9_endRow 5 = .ok (.bipush 6, 2) := by decide +kernel
theorem dX9_endRow_7 : decode cX9_endRow 7 = .ok (.if_icmp .ge 20, 3) := by decide +kernel
theorem dX9_endRow_10 : decode cX9_endRow 10 = .ok (.iload_n 1, 1) := by decide +kernel
theorem dX9_endRow_11 : decode cX9_endRow 11 = .ok (.aload_n 0, 1) := by decide +kernel
theorem dX9_endRow_12 : decode cX9_endRow 12 = .ok (.getfield 35, 3) := by decide +kernel
theorem dX9_endRow_15 : decode cX9_endRow 15 = .ok (.iload_n 2, 1) := by decide +kernel
theorem dX9_endRow_16 : decode cX9_endRow 16 = .ok (.iaload, 1) := by decide +kernel
theorem dX9_endRow_17 : decode cX9_endRow 17 = .ok (.invokestatic 29, 3) := by decide +kernel
theorem dX9_endRow_20 : decode cX9_endRow 20 = .ok (.istore_n 1, 1) := by decide +kernel
theorem dX9_endRow_21 : decode cX9_endRow 21 = .ok (.iinc 2 1, 3) := by decide +kernel
theorem dX9_endRow_24 : decode cX9_endRow 24 = .ok (.goto (-20), 3) := by decide +kernel
theorem dX9_endRow_27 : decode cX9_endRow 27 = .ok (.iload_n 1, 1) := by decide +kernel
theorem dX9_endRow_28 : decode cX9_endRow 28 = .ok (.aload_n 0, 1) := by decide +kernel
theorem dX9_endRow_29 : decode cX9_endRow 29 = .ok (.getfield 19, 3) := by decide +kernel
theorem dX9_endRow_32 : decode cX9_endRow 32 = .ok (.if_icmp .lt 4, 3) := by decide +kernel
theorem dX9_endRow_35 : decode cX9_endRow 35 = .ok (.return_, 1) := by decide +kernel
theorem dX9_endRow_36 : decode cX9_endRow 36 = .ok (.aload_n 0, 1) := by decide +kernel
theorem dX9_endRow_37 : decode cX9_endRow 37 = .ok (.iload_n 1, 1) := by decide +kernel
theorem dX9_endRow_38 : decode cX9_endRow 38 = .ok (.putfield 19, 3) := by decide +kernel
theorem dX9_endRow_41 : decode cX9_endRow 41 = .ok (.aload_n 0, 1) := by decide +kernel
theorem dX9_endRow_42 : decode cX9_endRow 42 = .ok (.getfield 38, 3) := by decide +kernel
theorem dX9_endRow_45 : decode cX9_endRow 45 = .ok (.iconst 0, 1) := by decide +kernel
theorem dX9_endRow_46 : decode cX9_endRow 46 = .ok (.aload_n 0, 1) := by decide +kernel
theorem dX9_endRow_47 : decode cX9_endRow 47 = .ok (.getfield 9, 3) := by decide +kernel
theorem dX9_endRow_50 : decode cX9_endRow 50 = .ok (.iconst 0, 1) := by decide +kernel
theorem dX9_endRow_51 : decode cX9_endRow 51 = .ok (.iconst 5, 1) := by decide +kernel
theorem dX9_endRow_52 : decode cX9_endRow 52 = .ok (.invokestatic 41, 3) := by decide +kernel
theorem dX9_endRow_55 : decode cX9_endRow 55 = .ok (.return_, 1) := by decide +kernel
theorem dX9_isFound_0 : decode cX9_isFound 0 = .ok (.aload_n 0, 1) := by decide +kernel
theorem dX9_isFound_1 : decode cX9_isFound 1 = .ok (.getfield 19, 3) := by decide +kernel
theorem dX9_isFound_4 : decode cX9_isFound 4 = .ok (.iconst 5, 1) := by decide +kernel
theorem dX9_isFound_5 : decode cX9_isFound 5 = .ok (.if_icmp .gt 7, 3) := by decide +kernel
theorem dX9_isFound_8 : decode cX9_isFound 8 = .ok (.iconst 1, 1) := by decide +kernel
theorem dX9_isFound_9 : decode cX9_isFound 9 = .ok (.goto 4, 3) := by decide +kernel
theorem dX9_isFound_12 : decode cX9_isFound 12 = .ok (.iconst 0, 1) := by decide +kernel
theorem dX9_isFound_13 : decode cX9_isFound 13 = .ok (.ireturn, 1) := by decide +kernel
theorem dX9_fewest_0 : decode cX9_fewest 0 = .ok (.aload_n 0, 1) := by decide +kernel
theorem dX9_fewest_1 : decode cX9_fewest 1 = .ok (.invokevirtual 47, 3) := by decide +kernel
theorem dX9_fewest_4 : decode cX9_fewest 4 = .ok (.ifCond .eq 10, 3) := by decide +kernel
theorem dX9_fewest_7 : decode cX9_fewest 7 = .ok (.aload_n 0, 1) := by decide +kernel
theorem dX9_fewest_8 : decode cX9_fewest 8 = .ok (.getfield 19, 3) := by decide +kernel
theorem dX9_fewest_11 : decode cX9_fewest 11 = .ok (.goto 4, 3) := by decide +kernel
theorem dX9_fewest_14 : decode cX9_fewest 14 = .ok (.iconst (-1), 1) := by decide +kernel
theorem dX9_fewest_15 : decode cX9_fewest 15 = .ok (.ireturn, 1) := by decide +kernel
theorem dX9_holderAt_0 : decode cX9_holderAt 0 = .ok (.aload_n 0, 1) := by decide +kernel
theorem dX9_holderAt_1 : decode cX9_holderAt 1 = .ok (.invokevirtual 47, 3) := by decide +kernel
theorem dX9_holderAt_4 : decode cX9_holderAt 4 = .ok (.ifCond .eq 24, 3) := by decide +kernel
theorem dX9_holderAt_7 : decode cX9_holderAt 7 = .ok (.iload_n 1, 1) := by decide +kernel
theorem dX9_holderAt_8 : decode cX9_holderAt 8 = .ok (.ifCond .lt 20, 3) := by decide +kernel
theorem dX9_holderAt_11 : decode cX9_holderAt 11 = .ok (.iload_n 1, 1) := by decide +kernel
theorem dX9_holderAt_12 : decode cX9_holderAt 12 = .ok (.aload_n 0, 1) := by decide +kernel
theorem dX9_holderAt_13 : decode cX9_holderAt 13 = .ok (.getfield 51, 3) := by decide +kernel
theorem dX9_holderAt_16 : decode cX9_holderAt 16 = .ok (.if_icmp .ge 12, 3) := by decide +kernel
theorem dX9_holderAt_19 : decode cX9_holderAt 19 = .ok (.aload_n 0, 1) := by decide +kernel
theorem dX9_holderAt_20 : decode cX9_holderAt 20 = .ok (.getfield 9, 3) := by decide +kernel
theorem dX9_holderAt_23 : decode cX9_holderAt 23 = .ok (.iload_n 1, 1) := by decide +kernel
theorem dX9_holderAt_24 : decode cX9_holderAt 24 = .ok (.iaload, 1) := by decide +kernel
theorem dX9_holderAt_25 : decode cX9_holderAt 25 = .ok (.goto 4, 3) := by decide +kernel
theorem dX9_holderAt_28 : decode cX9_holderAt 28 = .ok (.iconst (-1), 1) := by decide +kernel
theorem dX9_holderAt_29 : decode cX9_holderAt 29 = .ok (.ireturn, 1) := by decide +kernel
theorem dX9_firstSunk_0 : decode cX9_firstSunk 0 = .ok (.aload_n 0, 1) := by decide +kernel
theorem dX9_firstSunk_1 : decode cX9_firstSunk 1 = .ok (.getfield 22, 3) := by decide +kernel
theorem dX9_firstSunk_4 : decode cX9_firstSunk 4 = .ok (.aload_n 0, 1) := by decide +kernel
theorem dX9_firstSunk_5 : decode cX9_firstSunk 5 = .ok (.getfield 51, 3) := by decide +kernel
theorem dX9_firstSunk_8 : decode cX9_firstSunk 8 = .ok (.if_icmp .ge 10, 3) := by decide +kernel
theorem dX9_firstSunk_11 : decode cX9_firstSunk 11 = .ok (.aload_n 0, 1) := by decide +kernel
theorem dX9_firstSunk_12 : decode cX9_firstSunk 12 = .ok (.getfield 22, 3) := by decide +kernel
theorem dX9_firstSunk_15 : decode cX9_firstSunk 15 = .ok (.goto 4, 3) := by decide +kernel
theorem dX9_firstSunk_18 : decode cX9_firstSunk 18 = .ok (.iconst (-1), 1) := by decide +kernel
theorem dX9_firstSunk_19 : decode cX9_firstSunk 19 = .ok (.ireturn, 1) := by decide +kernel
theorem dX10_init_0 : decode cX10_init 0 = .ok (.aload_n 0, 1) := by decide +kernel
theorem dX10_init_1 : decode cX10_init 1 = .ok (.invokespecial 3, 3) := by decide +kernel
theorem dX10_init_4 : decode cX10_init 4 = .ok (.aload_n 0, 1) := by decide +kernel
theorem dX10_init_5 : decode cX10_init 5 = .ok (.bipush 6, 2) := by decide +kernel
theorem dX10_init_7 : decode cX10_init 7 = .ok (.newarray .int, 2) := by decide +kernel
theorem dX10_init_9 : decode cX10_init 9 = .ok (.putfield 9, 3) := by decide +kernel
theorem dX10_init_12 : decode cX10_init 12 = .ok (.aload_n 0, 1) := by decide +kernel
theorem dX10_init_13 : decode cX10_init 13 = .ok (.bipush 6, 2) := by decide +kernel
theorem dX10_init_15 : decode cX10_init 15 = .ok (.newarray .int, 2) := by decide +kernel
theorem dX10_init_17 : decode cX10_init 17 = .ok (.putfield 15, 3) := by decide +kernel
theorem dX10_init_20 : decode cX10_init 20 = .ok (.aload_n 0, 1) := by decide +kernel
theorem dX10_init_21 : decode cX10_init 21 = .ok (.bipush 6, 2) := by decide +kernel
theorem dX10_init_23 : decode cX10_init 23 = .ok (.newarray .int, 2) := by decide +kernel
theorem dX10_init_25 : decode cX10_init 25 = .ok (.putfield 18, 3) := by decide +kernel
theorem dX10_init_28 : decode cX10_init 28 = .ok (.aload_n 0, 1) := by decide +kernel
theorem dX10_init_29 : decode cX10_init 29 = .ok (.bipush 6, 2) := by decide +kernel
theorem dX10_init_31 : decode cX10_init 31 = .ok (.newarray .int, 2) := by decide +kernel
theorem dX10_init_33 : decode cX10_init 33 = .ok (.putfield 21, 3) := by decide +kernel
theorem dX10_init_36 : decode cX10_init 36 = .ok (.aload_n 0, 1) := by decide +kernel
theorem dX10_init_37 : decode cX10_init 37 = .ok (.aload_n 1, 1) := by decide +kernel
theorem dX10_init_38 : decode cX10_init 38 = .ok (.putfield 24, 3) := by decide +kernel
theorem dX10_init_41 : decode cX10_init 41 = .ok (.aload_n 0, 1) := by decide +kernel
theorem dX10_init_42 : decode cX10_init 42 = .ok (.invokevirtual 28, 3) := by decide +kernel
theorem dX10_init_45 : decode cX10_init 45 = .ok (.return_, 1) := by decide +kernel
theorem dX10_begin_0 : decode cX10_begin 0 = .ok (.iconst 0, 1) := by decide +kernel
theorem dX10_begin_1 : decode cX10_begin 1 = .ok (.istore_n 1, 1) := by decide +kernel
theorem dX10_begin_2 : decode cX10_begin 2 = .ok (.iload_n 1, 1) := by decide +kernel
theorem dX10_begin_3 : decode cX10_begin 3 = .ok (.bipush 6, 2) := by decide +kernel
theorem dX10_begin_5 : decode cX10_begin 5 = .ok (.if_icmp .ge 37, 3) := by decide +kernel
theorem dX10_begin_8 : decode cX10_begin 8 = .ok (.aload_n 0, 1) := by decide +kernel
theorem dX10_begin_9 : decode cX10_begin 9 = .ok (.getfield 9, 3) := by decide +kernel
theorem dX10_begin_12 : decode cX10_begin 12 = .ok (.iload_n 1, 1) := by decide +kernel
theorem dX10_begin_13 : decode cX10_begin 13 = .ok (.iconst 0, 1) := by decide +kernel
theorem dX10_begin_14 : decode cX10_begin 14 = .ok (.iastore, 1) := by decide +kernel
theorem dX10_begin_15 : decode cX10_begin 15 = .ok (.aload_n 0, 1) := by decide +kernel
theorem dX10_begin_16 : decode cX10_begin 16 = .ok (.getfield 15, 3) := by decide +kernel
theorem dX10_begin_19 : decode cX10_begin 19 = .ok (.iload_n 1, 1) := by decide +kernel
theorem dX10_begin_20 : decode cX10_begin 20 = .ok (.iconst 0, 1) := by decide +kernel
theorem dX10_begin_21 : decode cX10_begin 21 = .ok (.iastore, 1) := by decide +kernel
theorem dX10_begin_22 : decode cX10_begin 22 = .ok (.aload_n 0, 1) := by decide +kernel
theorem dX10_begin_23 : decode cX10_begin 23 = .ok (.getfield 18, 3) := by decide +kernel
theorem dX10_begin_26 : decode cX10_begin 26 = .ok (.iload_n 1, 1) := by decide +kernel
theorem dX10_begin_27 : decode cX10_begin 27 = .ok (.iconst 0, 1) := by decide +kernel
theorem dX10_begin_28 : decode cX10_begin 28 = .ok (.iastore, 1) := by decide +kernel
theorem dX10_begin_29 : decode cX10_begin 29 = .ok (.aload_n 0, 1) := by decide +kernel
theorem dX10_begin_30 : decode cX10_begin 30 = .ok (.getfield 21, 3) := by decide +kernel
theorem dX10_begin_33 : decode cX10_begin 33 = .ok (.iload_n 1, 1) := by decide +kernel
theorem dX10_begin_34 : decode cX10_begin 34 = .ok (.iconst 0, 1) := by decide +kernel
theorem dX10_begin_35 : decode cX10_begin 35 = .ok (.iastore, 1) := by decide +kernel
theorem dX10_begin_36 : decode cX10_begin 36 = .ok (.iinc 1 1, 3) := by decide +kernel
theorem dX10_begin_39 : decode cX10_begin 39 = .ok (.goto (-37), 3) := by decide +kernel
theorem dX10_begin_42 : decode cX10_begin 42 = .ok (.aload_n 0, 1) := by decide +kernel
theorem dX10_begin_43 : decode cX10_begin 43 = .ok (.iconst 0, 1) := by decide +kernel
theorem dX10_begin_44 : decode cX10_begin 44 = .ok (.putfield 31, 3) := by decide +kernel
theorem dX10_begin_47 : decode cX10_begin 47 = .ok (.aload_n 0, 1) := by decide +kernel
theorem dX10_begin_48 : decode cX10_begin 48 = .ok (.iconst 0, 1) := by decide +kernel
theorem dX10_begin_49 : decode cX10_begin 49 = .ok (.putfield 35, 3) := by decide +kernel
theorem dX10_begin_52 : decode cX10_begin 52 = .ok (.aload_n 0, 1) := by decide +kernel
theorem dX10_begin_53 : decode cX10_begin 53 = .ok (.iconst 0, 1) := by decide +kernel
theorem dX10_begin_54 : decode cX10_begin 54 = .ok (.putfield 38, 3) := by decide +kernel
theorem dX10_begin_57 : decode cX10_begin 57 = .ok (.aload_n 0, 1) := by decide +kernel
theorem dX10_begin_58 : decode cX10_begin 58 = .ok (.aload_n 0, 1) := by decide +kernel
theorem dX10_begin_59 : decode cX10_begin 59 = .ok (.getfield 24, 3) := by decide +kernel
theorem dX10_begin_62 : decode cX10_begin 62 = .ok (.getfield 41, 3) := by decide +kernel
theorem dX10_begin_65 : decode cX10_begin 65 = .ok (.putfield 46, 3) := by decide +kernel
theorem dX10_begin_68 : decode cX10_begin 68 = .ok (.aload_n 0, 1) := by decide +kernel
theorem dX10_begin_69 : decode cX10_begin 69 = .ok (.aload_n 0, 1) := by decide +kernel
theorem dX10_begin_70 : decode cX10_begin 70 = .ok (.getfield 24, 3) := by decide +kernel
theorem dX10_begin_73 : decode cX10_begin 73 = .ok (.getfield 49, 3) := by decide +kernel
theorem dX10_begin_76 : decode cX10_begin 76 = .ok (.ifCond .le 7, 3) := by decide +kernel
theorem dX10_begin_79 : decode cX10_begin 79 = .ok (.iconst 0, 1) := by decide +kernel
theorem dX10_begin_80 : decode cX10_begin 80 = .ok (.goto 4, 3) := by decide +kernel
theorem dX10_begin_83 : decode cX10_begin 83 = .ok (.iconst (-1), 1) := by decide +kernel
theorem dX10_begin_84 : decode cX10_begin 84 = .ok (.putfield 52, 3) := by decide +kernel
theorem dX10_begin_87 : decode cX10_begin 87 = .ok (.aload_n 0, 1) := by decide +kernel
theorem dX10_begin_88 : decode cX10_begin 88 = .ok (.iconst (-1), 1) := by decide +kernel
theorem dX10_begin_89 : decode cX10_begin 89 = .ok (.putfield 55, 3) := by decide +kernel
theorem dX10_begin_92 : decode cX10_begin 92 = .ok (.return_, 1) := by decide +kernel
theorem dX10_copyFrom_0 : decode cX10_copyFrom 0 = .ok (.aload_n 1, 1) := by decide +kernel
theorem dX10_copyFrom_1 : decode cX10_copyFrom 1 = .ok (.getfield 9, 3) := by decide +kernel
theorem dX10_copyFrom_4 : decode cX10_copyFrom 4 = .ok (.iconst 0, 1) := by decide +kernel
theorem dX10_copyFrom_5 : decode cX10_copyFrom 5 = .ok (.aload_n 0, 1) := by decide +kernel
theorem dX10_copyFrom_6 : decode cX10_copyFrom 6 = .ok (.getfield 9, 3) := by decide +kernel
theorem dX10_copyFrom_9 : decode cX10_copyFrom 9 = .ok (.iconst 0, 1) := by decide +kernel
theorem dX10_copyFrom_10 : decode cX10_copyFrom 10 = .ok (.bipush 6, 2) := by decide +kernel
theorem dX10_copyFrom_12 : decode cX10_copyFrom 12 = .ok (.invokestatic 58, 3) := by decide +kernel
theorem dX10_copyFrom_15 : decode cX10_copyFrom 15 = .ok (.aload_n 1, 1) := by decide +kernel
theorem dX10_copyFrom_16 : decode cX10_copyFrom 16 = .ok (.getfield 15, 3) := by decide +kernel
theorem dX10_copyFrom_19 : decode cX10_copyFrom 19 = .ok (.iconst 0, 1) := by decide +kernel
theorem dX10_copyFrom_20 : decode cX10_copyFrom 20 = .ok (.aload_n 0, 1) := by decide +kernel
theorem dX10_copyFrom_21 : decode cX10_copyFrom 21 = .ok (.getfield 15, 3) := by decide +kernel
theorem dX10_copyFrom_24 : decode cX10_copyFrom 24 = .ok (.iconst 0, 1) := by decide +kernel
theorem dX10_copyFrom_25 : decode cX10_copyFrom 25 = .ok (.bipush 6, 2) := by decide +kernel
theorem dX10_copyFrom_27 : decode cX10_copyFrom 27 = .ok (.invokestatic 58, 3) := by decide +kernel
theorem dX10_copyFrom_30 : decode cX10_copyFrom 30 = .ok (.aload_n 1, 1) := by decide +kernel
theorem dX10_copyFrom_31 : decode cX10_copyFrom 31 = .ok (.getfield 18, 3) := by decide +kernel
theorem dX10_copyFrom_34 : decode cX10_copyFrom 34 = .ok (.iconst 0, 1) := by decide +kernel
theorem dX10_copyFrom_35 : decode cX10_copyFrom 35 = .ok (.aload_n 0, 1) := by decide +kernel
theorem dX10_copyFrom_36 : decode cX10_copyFrom 36 = .ok (.getfield 18, 3) := by decide +kernel
theorem dX10_copyFrom_39 : decode cX10_copyFrom 39 = .ok (.iconst 0, 1) := by decide +kernel
theorem dX10_copyFrom_40 : decode cX10_copyFrom 40 = .ok (.bipush 6, 2) := by decide +kernel
theorem dX10_copyFrom_42 : decode cX10_copyFrom 42 = .ok (.invokestatic 58, 3) := by decide +kernel
theorem dX10_copyFrom_45 : decode cX10_copyFrom 45 = .ok (.aload_n 1, 1) := by decide +kernel
theorem dX10_copyFrom_46 : decode cX10_copyFrom 46 = .ok (.getfield 21, 3) := by decide +kernel
theorem dX10_copyFrom_49 : decode cX10_copyFrom 49 = .ok (.iconst 0, 1) := by decide +kernel
theorem dX10_copyFrom_50 : decode cX10_copyFrom 50 = .ok (.aload_n 0, 1) := by decide +kernel
theorem dX10_copyFrom_51 : decode cX10_copyFrom 51 = .ok (.getfield 21, 3) := by decide +kernel
theorem dX10_copyFrom_54 : decode cX10_copyFrom 54 = .ok (.iconst 0, 1) := by decide +kernel
theorem dX10_copyFrom_55 : decode cX10_copyFrom 55 = .ok (.bipush 6, 2) := by decide +kernel
theorem dX10_copyFrom_57 : decode cX10_copyFrom 57 = .ok (.invokestatic 58, 3) := by decide +kernel
theorem dX10_copyFrom_60 : decode cX10_copyFrom 60 = .ok (.aload_n 0, 1) := by decide +kernel
theorem dX10_copyFrom_61 : decode cX10_copyFrom 61 = .ok (.aload_n 1, 1) := by decide +kernel
theorem dX10_copyFrom_62 : decode cX10_copyFrom 62 = .ok (.getfield 31, 3) := by decide +kernel
theorem dX10_copyFrom_65 : decode cX10_copyFrom 65 = .ok (.putfield 31, 3) := by decide +kernel
theorem dX10_copyFrom_68 : decode cX10_copyFrom 68 = .ok (.aload_n 0, 1) := by decide +kernel
theorem dX10_copyFrom_69 : decode cX10_copyFrom 69 = .ok (.aload_n 1, 1) := by decide +kernel
theorem dX10_copyFrom_70 : decode cX10_copyFrom 70 = .ok (.getfield 35, 3) := by decide +kernel
theorem dX10_copyFrom_73 : decode cX10_copyFrom 73 = .ok (.putfield 35, 3) := by decide +kernel
theorem dX10_copyFrom_76 : decode cX10_copyFrom 76 = .ok (.aload_n 0, 1) := by decide +kernel
theorem dX10_copyFrom_77 : decode cX10_copyFrom 77 = .ok (.aload_n 1, 1) := by decide +kernel
theorem dX10_copyFrom_78 : decode cX10_copyFrom 78 = .ok (.getfield 38, 3) := by decide +kernel
theorem dX10_copyFrom_81 : decode cX10_copyFrom 81 = .ok (.putfield 38, 3) := by decide +kernel
theorem dX10_copyFrom_84 : decode cX10_copyFrom 84 = .ok (.aload_n 0, 1) := by decide +kernel
theorem dX10_copyFrom_85 : decode cX10_copyFrom 85 = .ok (.aload_n 1, 1) := by decide +kernel
theorem dX10_copyFrom_86 : decode cX10_copyFrom 86 = .ok (.getfield 46, 3) := by decide +kernel
theorem dX10_copyFrom_89 : decode cX10_copyFrom 89 = .ok (.putfield 46, 3) := by decide +kernel
theorem dX10_copyFrom_92 : decode cX10_copyFrom 92 = .ok (.aload_n 0, 1) := by decide +kernel
theorem dX10_copyFrom_93 : decode cX10_copyFrom 93 = .ok (.aload_n 1, 1) := by decide +kernel
theorem dX10_copyFrom_94 : decode cX10_copyFrom 94 = .ok (.getfield 52, 3) := by decide +kernel
theorem dX10_copyFrom_97 : decode cX10_copyFrom 97 = .ok (.putfield 52, 3) := by decide +kernel
theorem dX10_copyFrom_100 : decode cX10_copyFrom 100 = .ok (.aload_n 0, 1) := by decide +kernel
theorem dX10_copyFrom_101 : decode cX10_copyFrom 101 = .ok (.aload_n 1, 1) := by decide +kernel
theorem dX10_copyFrom_102 : decode cX10_copyFrom 102 = .ok (.getfield 55, 3) := by decide +kernel
theorem dX10_copyFrom_105 : decode cX10_copyFrom 105 = .ok (.putfield 55, 3) := by decide +kernel
theorem dX10_copyFrom_108 : decode cX10_copyFrom 108 = .ok (.return_, 1) := by decide +kernel
theorem dX10_isHolding_0 : decode cX10_isHolding 0 = .ok (.iload_n 1, 1) := by decide +kernel
theorem dX10_isHolding_1 : decode cX10_isHolding 1 = .ok (.iconst (-1), 1) := by decide +kernel
theorem dX10_isHolding_2 : decode cX10_isHolding 2 = .ok (.if_icmp .eq 23, 3) := by decide +kernel
theorem dX10_isHolding_5 : decode cX10_isHolding 5 = .ok (.iload_n 1, 1) := by decide +kernel
theorem dX10_isHolding_6 : decode cX10_isHolding 6 = .ok (.aload_n 0, 1) := by decide +kernel
theorem dX10_isHolding_7 : decode cX10_isHolding 7 = .ok (.getfield 52, 3) := by decide +kernel
theorem dX10_isHolding_10 : decode cX10_isHolding 10 = .ok (.if_icmp .eq 11, 3) := by decide +kernel
theorem dX10_isHolding_13 : decode cX10_isHolding 13 = .ok (.iload_n 1, 1) := by decide +kernel
theorem dX10_isHolding_14 : decode cX10_isHolding 14 = .ok (.aload_n 0, 1) := by decide +kernel
theorem dX10_isHolding_15 : decode cX10_isHolding 15 = .ok (.getfield 55, 3) := by decide +kernel
theorem dX10_isHolding_18 : decode cX10_isHolding 18 = .ok (.if_icmp .ne 7, 3) := by decide +kernel
theorem dX10_isHolding_21 : decode cX10_isHolding 21 = .ok (.iconst 1, 1) := by decide +kernel
theorem dX10_isHolding_22 : decode cX10_isHolding 22 = .ok (.goto 4, 3) := by decide +kernel
theorem dX10_isHolding_25 : decode cX10_isHolding 25 = .ok (.iconst 0, 1) := by decide +kernel
theorem dX10_isHolding_26 : decode cX10_isHolding 26 = .ok (.ireturn, 1) := by decide +kernel
theorem dX10_isFatherHolding_0 : decode cX10_isFatherHolding 0 = .ok (.aload_n 0, 1) := by decide +kernel
theorem dX10_isFatherHolding_1 : decode cX10_isFatherHolding 1 = .ok (.getfield 24, 3) := by decide +kernel
theorem dX10_isFatherHolding_4 : decode cX10_isFatherHolding 4 = .ok (.iload_n 1, 1) := by decide +kernel
theorem dX10_isFatherHolding_5 : decode cX10_isFatherHolding 5 = .ok (.aload_n 0, 1) := by decide +kernel
theorem dX10_isFatherHolding_6 : decode cX10_isFatherHolding 6 = .ok (.getfield 52, 3) := by decide +kernel
theorem dX10_isFatherHolding_9 : decode cX10_isFatherHolding 9 = .ok (.invokevirtual 64, 3) := by decide +kernel
theorem dX10_isFatherHolding_12 : decode cX10_isFatherHolding 12 = .ok (.ifCond .ne 18, 3) := by decide +kernel
theorem dX10_isFatherHolding_15 : decode cX10_isFatherHolding 15 = .ok (.aload_n 0, 1) := by decide +kernel
theorem dX10_isFatherHolding_16 : decode cX10_isFatherHolding 16 = .ok (.getfield 24, 3) := by decide +kernel
theorem dX10_isFatherHolding_19 : decode cX10_isFatherHolding 19 = .ok (.iload_n 1, 1) := by decide +kernel
theorem dX10_isFatherHolding_20 : decode cX10_isFatherHolding 20 = .ok (.aload_n 0, 1) := by decide +kernel
theorem dX10_isFatherHolding_21 : decode cX10_isFatherHolding 21 = .ok (.getfield 55, 3) := by decide +kernel
theorem dX10_isFatherHolding_24 : decode cX10_isFatherHolding 24 = .ok (.invokevirtual 64, 3) := by decide +kernel
theorem dX10_isFatherHolding_27 : decode cX10_isFatherHolding 27 = .ok (.ifCond .eq 7, 3) := by decide +kernel
theorem dX10_isFatherHolding_30 : decode cX10_isFatherHolding 30 = .ok (.iconst 1, 1) := by decide +kernel
theorem dX10_isFatherHolding_31 : decode cX10_isFatherHolding 31 = .ok (.goto 4, 3) := by decide +kernel
theorem dX10_isFatherHolding_34 : decode cX10_isFatherHolding 34 = .ok (.iconst 0, 1) := by decide +kernel
theorem dX10_isFatherHolding_35 : decode cX10_isFatherHolding 35 = .ok (.ireturn, 1) := by decide +kernel
theorem dX10_handTo_0 : decode cX10_handTo 0 = .ok (.aload_n 0, 1) := by decide +kernel
theorem dX10_handTo_1 : decode cX10_handTo 1 = .ok (.iload_n 1, 1) := by decide +kernel
theorem dX10_handTo_2 : decode cX10_handTo 2 = .ok (.putfield 52, 3) := by decide +kernel
theorem dX10_handTo_5 : decode cX10_handTo 5 = .ok (.aload_n 0, 1) := by decide +kernel
theorem dX10_handTo_6 : decode cX10_handTo 6 = .ok (.iconst (-1), 1) := by decide +kernel
theorem dX10_handTo_7 : decode cX10_handTo 7 = .ok (.putfield 55, 3) := by decide +kernel
theorem dX10_handTo_10 : decode cX10_handTo 10 = .ok (.return_, 1) := by decide +kernel
theorem dX10_isTrickedBy_0 : decode cX10_isTrickedBy 0 = .ok (.aload_n 0, 1) := by decide +kernel
theorem dX10_isTrickedBy_1 : decode cX10_isTrickedBy 1 = .ok (.getfield 24, 3) := by decide +kernel
theorem dX10_isTrickedBy_4 : decode cX10_isTrickedBy 4 = .ok (.iload_n 1, 1) := by decide +kernel
theorem dX10_isTrickedBy_5 : decode cX10_isTrickedBy 5 = .ok (.invokevirtual 68, 3) := by decide +kernel
theorem dX10_isTrickedBy_8 : decode cX10_isTrickedBy 8 = .ok (.ifCond .eq 10, 3) := by decide +kernel
theorem dX10_isTrickedBy_11 : decode cX10_isTrickedBy 11 = .ok (.iload_n 2, 1) := by decide +kernel
theorem dX10_isTrickedBy_12 : decode cX10_isTrickedBy 12 = .ok (.invokestatic 72, 3) := by decide +kernel
theorem dX10_isTrickedBy_15 : decode cX10_isTrickedBy 15 = .ok (.ifCond .ne 5, 3) := by decide +kernel
theorem dX10_isTrickedBy_18 : decode cX10_isTrickedBy 18 = .ok (.iconst 0, 1) := by decide +kernel
theorem dX10_isTrickedBy_19 : decode cX10_isTrickedBy 19 = .ok (.ireturn, 1) := by decide +kernel
theorem dX10_isTrickedBy_20 : decode cX10_isTrickedBy 20 = .ok (.aload_n 0, 1) := by decide +kernel
theorem dX10_isTrickedBy_21 : decode cX10_isTrickedBy 21 = .ok (.getfield 24, 3) := by decide +kernel
theorem dX10_isTrickedBy_24 : decode cX10_isTrickedBy 24 = .ok (.getfield 75, 3) := by decide +kernel
theorem dX10_isTrickedBy_27 : decode cX10_isTrickedBy 27 = .ok (.iload_n 2, 1) := by decide +kernel
theorem dX10_isTrickedBy_28 : decode cX10_isTrickedBy 28 = .ok (.iaload, 1) := by decide +kernel
theorem dX10_isTrickedBy_29 : decode cX10_isTrickedBy 29 = .ok (.aload_n 0, 1) := by decide +kernel
theorem dX10_isTrickedBy_30 : decode cX10_isTrickedBy 30 = .ok (.getfield 24, 3) := by decide +kernel
theorem dX10_isTrickedBy_33 : decode cX10_isTrickedBy 33 = .ok (.getfield 78, 3) := by decide +kernel
theorem dX10_isTrickedBy_36 : decode cX10_isTrickedBy 36 = .ok (.iload_n 1, 1) := by decide +kernel
theorem dX10_isTrickedBy_37 : decode cX10_isTrickedBy 37 = .ok (.iaload, 1) := by decide +kernel
theorem dX10_isTrickedBy_38 : decode cX10_isTrickedBy 38 = .ok (.if_icmp .le 20, 3) := by decide +kernel
theorem dX10_isTrickedBy_41 : decode cX10_isTrickedBy 41 = .ok (.aload_n 0, 1) := by decide +kernel
theorem dX10_isTrickedBy_42 : decode cX10_isTrickedBy 42 = .ok (.getfield 21, 3) := by decide +kernel
theorem dX10_isTrickedBy_45 : decode cX10_isTrickedBy 45 = .ok (.iload_n 1, 1) := by decide +kernel
theorem dX10_isTrickedBy_46 : decode cX10_isTrickedBy 46 = .ok (.iaload, 1) := by decide +kernel
theorem dX10_isTrickedBy_47 : decode cX10_isTrickedBy 47 = .ok (.iconst 1, 1) := by decide +kernel
theorem dX10_isTrickedBy_48 : decode cX10_isTrickedBy 48 = .ok (.iload_n 2, 1) := by decide +kernel
theorem dX10_isTrickedBy_49 : decode cX10_isTrickedBy 49 = .ok (.ishl, 1) := by decide +kernel
theorem dX10_isTrickedBy_50 : decode cX10_isTrickedBy 50 = .ok (.iand, 1) := by decide +kernel
theorem dX10_isTrickedBy_51 : decode cX10_isTrickedBy 51 = .ok (.ifCond .ne 7, 3) := by decide +kernel
theorem dX10_isTrickedBy_54 : decode cX10_isTrickedBy 54 = .ok (.iconst 1, 1) := by decide +kernel
theorem dX10_isTrickedBy_55 : decode cX10_isTrickedBy 55 = .ok (.goto 4, 3) := by decide +kernel
theorem dX10_isTrickedBy_58 : decode cX10_isTrickedBy 58 = .ok (.iconst 0, 1) := by decide +kernel
theorem dX10_isTrickedBy_59 : decode cX10_isTrickedBy 59 = .ok (.ireturn, 1) := by decide +kernel
theorem dX10_isTrickedBySome_0 : decode cX10_isTrickedBySome 0 = .ok (.iconst 0, 1) := by decide +kernel
theorem dX10_isTrickedBySome_1 : decode cX10_isTrickedBySome 1 = .ok (.istore_n 2, 1) := by decide +kernel
theorem dX10_isTrickedBySome_2 : decode cX10_isTrickedBySome 2 = .ok (.iload_n 2, 1) := by decide +kernel
theorem dX10_isTrickedBySome_3 : decode cX10_isTrickedBySome 3 = .ok (.iconst 3, 1) := by decide +kernel
theorem dX10_isTrickedBySome_4 : decode cX10_isTrickedBySome 4 = .ok (.if_icmp .ge 20, 3) := by decide +kernel
theorem dX10_isTrickedBySome_7 : decode cX10_isTrickedBySome 7 = .ok (.aload_n 0, 1) := by decide +kernel
theorem dX10_isTrickedBySome_8 : decode cX10_isTrickedBySome 8 = .ok (.iload_n 1, 1) := by decide +kernel
theorem dX10_isTrickedBySome_9 : decode cX10_isTrickedBySome 9 = .ok (.iload_n 2, 1) := by decide +kernel
theorem dX10_isTrickedBySome_10 : decode cX10_isTrickedBySome 10 = .ok (.invokevirtual 81, 3) := by decide +kernel
theorem dX10_isTrickedBySome_13 : decode cX10_isTrickedBySome 13 = .ok (.ifCond .eq 5, 3) := by decide +kernel
theorem dX10_isTrickedBySome_16 : decode cX10_isTrickedBySome 16 = .ok (.iconst 1, 1) := by decide +kernel
theorem dX10_isTrickedBySome_17 : decode cX10_isTrickedBySome 17 = .ok (.ireturn, 1) := by decide +kernel
theorem dX10_isTrickedBySome_18 : decode cX10_isTrickedBySome 18 = .ok (.iinc 2 1, 3) := by decide +kernel
theorem dX10_isTrickedBySome_21 : decode cX10_isTrickedBySome 21 = .ok (.goto (-19), 3) := by decide +kernel
theorem dX10_isTrickedBySome_24 : decode cX10_isTrickedBySome 24 = .ok (.iconst 0, 1) := by decide +kernel
theorem dX10_isTrickedBySome_25 : decode cX10_isTrickedBySome 25 = .ok (.ireturn, 1) := by decide +kernel
theorem dX10_trick_0 : decode cX10_trick 0 = .ok (.aload_n 0, 1) := by decide +kernel
theorem dX10_trick_1 : decode cX10_trick 1 = .ok (.iload_n 1, 1) := by decide +kernel
theorem dX10_trick_2 : decode cX10_trick 2 = .ok (.iload_n 2, 1) := by decide +kernel
theorem dX10_trick_3 : decode cX10_trick 3 = .ok (.invokevirtual 81, 3) := by decide +kernel
theorem dX10_trick_6 : decode cX10_trick 6 = .ok (.ifCond .ne 5, 3) := by decide +kernel
theorem dX10_trick_9 : decode cX10_trick 9 = .ok (.iconst 0, 1) := by decide +kernel
theorem dX10_trick_10 : decode cX10_trick 10 = .ok (.ireturn, 1) := by decide +kernel
theorem dX10_trick_11 : decode cX10_trick 11 = .ok (.aload_n 0, 1) := by decide +kernel
theorem dX10_trick_12 : decode cX10_trick 12 = .ok (.getfield 21, 3) := by decide +kernel
theorem dX10_trick_15 : decode cX10_trick 15 = .ok (.iload_n 1, 1) := by decide +kernel
theorem dX10_trick_16 : decode cX10_trick 16 = .ok (.dup2, 1) := by decide +kernel
theorem dX10_trick_17 : decode cX10_trick 17 = .ok (.iaload, 1) := by decide +kernel
theorem dX10_trick_18 : decode cX10_trick 18 = .ok (.iconst 1, 1) := by decide +kernel
theorem dX10_trick_19 : decode cX10_trick 19 = .ok (.iload_n 2, 1) := by decide +kernel
theorem dX10_trick_20 : decode cX10_trick 20 = .ok (.ishl, 1) := by decide +kernel
theorem dX10_trick_21 : decode cX10_trick 21 = .ok (.ior, 1) := by decide +kernel
theorem dX10_trick_22 : decode cX10_trick 22 = .ok (.iastore, 1) := by decide +kernel
theorem dX10_trick_23 : decode cX10_trick 23 = .ok (.aload_n 0, 1) := by decide +kernel
theorem dX10_trick_24 : decode cX10_trick 24 = .ok (.iload_n 1, 1) := by decide +kernel
theorem dX10_trick_25 : decode cX10_trick 25 = .ok (.invokevirtual 84, 3) := by decide +kernel
theorem dX10_trick_28 : decode cX10_trick 28 = .ok (.iconst 1, 1) := by decide +kernel
theorem dX10_trick_29 : decode cX10_trick 29 = .ok (.ireturn, 1) := by decide +kernel
theorem dX10_forceOf_0 : decode cX10_forceOf 0 = .ok (.aload_n 0, 1) := by decide +kernel
theorem dX10_forceOf_1 : decode cX10_forceOf 1 = .ok (.getfield 24, 3) := by decide +kernel
theorem dX10_forceOf_4 : decode cX10_forceOf 4 = .ok (.iload_n 1, 1) := by decide +kernel
theorem dX10_forceOf_5 : decode cX10_forceOf 5 = .ok (.invokevirtual 68, 3) := by decide +kernel
theorem dX10_forceOf_8 : decode cX10_forceOf 8 = .ok (.ifCond .ne 5, 3) := by decide +kernel
theorem dX10_forceOf_11 : decode cX10_forceOf 11 = .ok (.iconst 0, 1) := by decide +kernel
theorem dX10_forceOf_12 : decode cX10_forceOf 12 = .ok (.ireturn, 1) := by decide +kernel
theorem dX10_forceOf_13 : decode cX10_forceOf 13 = .ok (.aload_n 0, 1) := by decide +kernel
theorem dX10_forceOf_14 : decode cX10_forceOf 14 = .ok (.getfield 24, 3) := by decide +kernel
theorem dX10_forceOf_17 : decode cX10_forceOf 17 = .ok (.getfield 88, 3) := by decide +kernel
theorem dX10_forceOf_20 : decode cX10_forceOf 20 = .ok (.iload_n 1, 1) := by decide +kernel
theorem dX10_forceOf_21 : decode cX10_forceOf 21 = .ok (.iaload, 1) := by decide +kernel
theorem dX10_forceOf_22 : decode cX10_forceOf 22 = .ok (.istore_n 2, 1) := by decide +kernel
theorem dX10_forceOf_23 : decode cX10_forceOf 23 = .ok (.iload_n 2, 1) := by decide +kernel
theorem dX10_forceOf_24 : decode cX10_forceOf 24 = .ok (.iconst 2, 1) := by decide +kernel
theorem dX10_forceOf_25 : decode cX10_forceOf 25 = .ok (.if_icmp .ne 26, 3) := by decide +kernel
theorem dX10_forceOf_28 : decode cX10_forceOf 28 = .ok (.aload_n 0, 1) := by decide +kernel
theorem dX10_forceOf_29 : decode cX10_forceOf 29 = .ok (.getfield 18, 3) := by decide +kernel
theorem dX10_forceOf_32 : decode cX10_forceOf 32 = .ok (.iload_n 1, 1) := by decide +kernel
theorem dX10_forceOf_33 : decode cX10_forceOf 33 = .ok (.iaload, 1) := by decide +kernel
theorem dX10_forceOf_34 : decode cX10_forceOf 34 = .ok (.ifCond .le 7, 3) := by decide +kernel
theorem dX10_forceOf_37 : decode cX10_forceOf 37 = .ok (.iconst 0, 1) := by decide +kernel
theorem dX10_forceOf_38 : decode cX10_forceOf 38 = .ok (.goto 12, 3) := by decide +kernel
theorem dX10_forceOf_41 : decode cX10_forceOf 41 = .ok (.aload_n 0, 1) := by decide +kernel
theorem dX10_forceOf_42 : decode cX10_forceOf 42 = .ok (.getfield 24, 3) := by decide +kernel
theorem dX10_forceOf_45 : decode cX10_forceOf 45 = .ok (.getfield 91, 3) := by decide +kernel
theorem dX10_forceOf_48 : decode cX10_forceOf 48 = .ok (.iload_n 1, 1) := by decide +kernel
theorem dX10_forceOf_49 : decode cX10_forceOf 49 = .ok (.iaload, 1) := by decide +kernel
theorem dX10_forceOf_50 : decode cX10_forceOf 50 = .ok (.ireturn, 1) := by decide +kernel
theorem dX10_forceOf_51 : decode cX10_forceOf 51 = .ok (.iload_n 2, 1) := by decide +kernel
theorem dX10_forceOf_52 : decode cX10_forceOf 52 = .ok (.iconst 4, 1) := by decide +kernel
theorem dX10_forceOf_53 : decode cX10_forceOf 53 = .ok (.if_icmp .ne 13, 3) := by decide +kernel
theorem dX10_forceOf_56 : decode cX10_forceOf 56 = .ok (.aload_n 0, 1) := by decide +kernel
theorem dX10_forceOf_57 : decode cX10_forceOf 57 = .ok (.getfield 46, 3) := by decide +kernel
theorem dX10_forceOf_60 : decode cX10_forceOf 60 = .ok (.iconst 1, 1) := by decide +kernel
theorem dX10_forceOf_61 : decode cX10_forceOf 61 = .ok (.if_icmp .ge 5, 3) := by decide +kernel
theorem dX10_forceOf_64 : decode cX10_forceOf 64 = .ok (.iconst 0, 1) := by decide +kernel
theorem dX10_forceOf_65 : decode cX10_forceOf 65 = .ok (.ireturn, 1) := by decide +kernel
theorem dX10_forceOf_66 : decode cX10_forceOf 66 = .ok (.iconst 0, 1) := by decide +kernel
theorem dX10_forceOf_67 : decode cX10_forceOf 67 = .ok (.aload_n 0, 1) := by decide +kernel
theorem dX10_forceOf_68 : decode cX10_forceOf 68 = .ok (.getfield 24, 3) := by decide +kernel
theorem dX10_forceOf_71 : decode cX10_forceOf 71 = .ok (.getfield 91, 3) := by decide +kernel
theorem dX10_forceOf_74 : decode cX10_forceOf 74 = .ok (.iload_n 1, 1) := by decide +kernel
theorem dX10_forceOf_75 : decode cX10_forceOf 75 = .ok (.iaload, 1) := by decide +kernel
theorem dX10_forceOf_76 : decode cX10_forceOf 76 = .ok (.aload_n 0, 1) := by decide +kernel
theorem dX10_forceOf_77 : decode cX10_forceOf 77 = .ok (.getfield 9, 3) := by decide +kernel
theorem dX10_forceOf_80 : decode cX10_forceOf 80 = .ok (.iload_n 1, 1) := by decide +kernel
theorem dX10_forceOf_81 : decode cX10_forceOf 81 = .ok (.iaload, 1) := by decide +kernel
theorem dX10_forceOf_82 : decode cX10_forceOf 82 = .ok (.iconst 2, 1) := by decide +kernel
theorem dX10_forceOf_83 : decode cX10_forceOf 83 = .ok (.idiv, 1) := by decide +kernel
theorem dX10_forceOf_84 : decode cX10_forceOf 84 = .ok (.isub, 1) := by decide +kernel
theorem dX10_forceOf_85 : decode cX10_forceOf 85 = .ok (.invokestatic 94, 3) := by decide +kernel
theorem dX10_forceOf_88 : decode cX10_forceOf 88 = .ok (.istore_n 3, 1) := by decide +kernel
theorem dX10_forceOf_89 : decode cX10_forceOf 89 = .ok (.iload_n 2, 1) := by decide +kernel
theorem dX10_forceOf_90 : decode cX10_forceOf 90 = .ok (.iconst 3, 1) := by decide +kernel
theorem dX10_forceOf_91 : decode cX10_forceOf 91 = .ok (.if_icmp .eq 8, 3) := by decide +kernel
theorem dX10_forceOf_94 : decode cX10_forceOf 94 = .ok (.iload_n 2, 1) := by decide +kernel
theorem dX10_forceOf_95 : decode cX10_forceOf 95 = .ok (.iconst 4, 1) := by decide +kernel
theorem dX10_forceOf_96 : decode cX10_forceOf 96 = .ok (.if_icmp .ne 17, 3) := by decide +kernel
theorem dX10_forceOf_99 : decode cX10_forceOf 99 = .ok (.aload_n 0, 1) := by decide +kernel
theorem dX10_forceOf_100 : decode cX10_forceOf 100 = .ok (.getfield 31, 3) := by decide +kernel
theorem dX10_forceOf_103 : decode cX10_forceOf 103 = .ok (.iconst 3, 1) := by decide +kernel
theorem dX10_forceOf_104 : decode cX10_forceOf 104 = .ok (.irem, 1) := by decide +kernel
theorem dX10_forceOf_105 : decode cX10_forceOf 105 = .ok (.iconst 2, 1) := by decide +kernel
theorem dX10_forceOf_106 : decode cX10_forceOf 106 = .ok (.if_icmp .ne 7, 3) := by decide +kernel
theorem dX10_forceOf_109 : decode cX10_forceOf 109 = .ok (.iconst 1, 1) := by decide +kernel
theorem dX10_forceOf_110 : decode cX10_forceOf 110 = .ok (.goto 4, 3) := by decide +kernel
theorem dX10_forceOf_113 : decode cX10_forceOf 113 = .ok (.iconst 0, 1) := by decide +kernel
theorem dX10_forceOf_114 : decode cX10_forceOf 114 = .ok (.istore 4, 2) := by decide +kernel
theorem dX10_forceOf_116 : decode cX10_forceOf 116 = .ok (.iload 4, 2) := by decide +kernel
theorem dX10_forceOf_118 : decode cX10_forceOf 118 = .ok (.ifCond .eq 7, 3) := by decide +kernel
theorem dX10_forceOf_121 : decode cX10_forceOf 121 = .ok (.iload_n 3, 1) := by decide +kernel
theorem dX10_forceOf_122 : decode cX10_forceOf 122 = .ok (.iconst 2, 1) := by decide +kernel
theorem dX10_forceOf_123 : decode cX10_forceOf 123 = .ok (.idiv, 1) := by decide +kernel
theorem dX10_forceOf_124 : decode cX10_forceOf 124 = .ok (.istore_n 3, 1) := by decide +kernel
theorem dX10_forceOf_125 : decode cX10_forceOf 125 = .ok (.iload_n 2, 1) := by decide +kernel
theorem dX10_forceOf_126 : decode cX10_forceOf 126 = .ok (.iconst 4, 1) := by decide +kernel
theorem dX10_forceOf_127 : decode cX10_forceOf 127 = .ok (.if_icmp .ne 9, 3) := by decide +kernel
theorem dX10_forceOf_130 : decode cX10_forceOf 130 = .ok (.iload_n 3, 1) := by decide +kernel
theorem dX10_forceOf_131 : decode cX10_forceOf 131 = .ok (.iconst 2, 1) := by decide +kernel
theorem dX10_forceOf_132 : decode cX10_forceOf 132 = .ok (.iadd, 1) := by decide +kernel
theorem dX10_forceOf_133 : decode cX10_forceOf 133 = .ok (.goto 4, 3) := by decide +kernel
theorem dX10_forceOf_136 : decode cX10_forceOf 136 = .ok (.iload_n 3, 1) := by decide +kernel
theorem dX10_forceOf_137 : decode cX10_forceOf 137 = .ok (.ireturn, 1) := by decide +kernel
theorem dX10_forceHeld_0 : decode cX10_forceHeld 0 = .ok (.aload_n 0, 1) := by decide +kernel
theorem dX10_forceHeld_1 : decode cX10_forceHeld 1 = .ok (.aload_n 0, 1) := by decide +kernel
theorem dX10_forceHeld_2 : decode cX10_forceHeld 2 = .ok (.getfield 52, 3) := by decide +kernel
theorem dX10_forceHeld_5 : decode cX10_forceHeld 5 = .ok (.invokevirtual 100, 3) := by decide +kernel
theorem dX10_forceHeld_8 : decode cX10_forceHeld 8 = .ok (.aload_n 0, 1) := by decide +kernel
theorem dX10_forceHeld_9 : decode cX10_forceHeld 9 = .ok (.aload_n 0, 1) := by decide +kernel
theorem dX10_forceHeld_10 : decode cX10_forceHeld 10 = .ok (.getfield 55, 3) := by decide +kernel
theorem dX10_forceHeld_13 : decode cX10_forceHeld 13 = .ok (.invokevirtual 100, 3) := by decide +kernel
theorem dX10_forceHeld_16 : decode cX10_forceHeld 16 = .ok (.iadd, 1) := by decide +kernel
theorem dX10_forceHeld_17 : decode cX10_forceHeld 17 = .ok (.ireturn, 1) := by decide +kernel
theorem dX10_lowBehind_0 : decode cX10_lowBehind 0 = .ok (.iconst 0, 1) := by decide +kernel
theorem dX10_lowBehind_1 : decode cX10_lowBehind 1 = .ok (.aload_n 0, 1) := by decide +kernel
theorem dX10_lowBehind_2 : decode cX10_lowBehind 2 = .ok (.getfield 24, 3) := by decide +kernel
theorem dX10_lowBehind_5 : decode cX10_lowBehind 5 = .ok (.aload_n 0, 1) := by decide +kernel
theorem dX10_lowBehind_6 : decode cX10_lowBehind 6 = .ok (.getfield 31, 3) := by decide +kernel
theorem dX10_lowBehind_9 : decode cX10_lowBehind 9 = .ok (.invokevirtual 104, 3) := by decide +kernel
theorem dX10_lowBehind_12 : decode cX10_lowBehind 12 = .ok (.iload_n 3, 1) := by decide +kernel
theorem dX10_lowBehind_13 : decode cX10_lowBehind 13 = .ok (.isub, 1) := by decide +kernel
theorem dX10_lowBehind_14 : decode cX10_lowBehind 14 = .ok (.invokestatic 94, 3) := by decide +kernel
theorem dX10_lowBehind_17 : decode cX10_lowBehind 17 = .ok (.istore 4, 2) := by decide +kernel
theorem dX10_lowBehind_19 : decode cX10_lowBehind 19 = .ok (.aload_n 0, 1) := by decide +kernel
theorem dX10_lowBehind_20 : decode cX10_lowBehind 20 = .ok (.iload_n 1, 1) := by decide +kernel
theorem dX10_lowBehind_21 : decode cX10_lowBehind 21 = .ok (.invokevirtual 100, 3) := by decide +kernel
theorem dX10_lowBehind_24 : decode cX10_lowBehind 24 = .ok (.aload_n 0, 1) := by decide +kernel
theorem dX10_lowBehind_25 : decode cX10_lowBehind 25 = .ok (.iload_n 2, 1) := by decide +kernel
theorem dX10_lowBehind_26 : decode cX10_lowBehind 26 = .ok (.invokevirtual 100, 3) := by decide +kernel
theorem dX10_lowBehind_29 : decode cX10_lowBehind 29 = .ok (.iadd, 1) := by decide +kernel
theorem dX10_lowBehind_30 : decode cX10_lowBehind 30 = .ok (.istore 5, 2) := by decide +kernel
theorem dX10_lowBehind_32 : decode cX10_lowBehind 32 = .ok (.aload_n 0, 1) := by decide +kernel
theorem dX10_lowBehind_33 : decode cX10_lowBehind 33 = .ok (.getfield 35, 3) := by decide +kernel
theorem dX10_lowBehind_36 : decode cX10_lowBehind 36 = .ok (.istore 6, 2) := by decide +kernel
theorem dX10_lowBehind_38 : decode cX10_lowBehind 38 = .ok (.iload 5, 2) := by decide +kernel
theorem dX10_lowBehind_40 : decode cX10_lowBehind 40 = .ok (.iload 4, 2) := by decide +kernel
theorem dX10_lowBehind_42 : decode cX10_lowBehind 42 = .ok (.if_icmp .ge 23, 3) := by decide +kernel
theorem dX10_lowBehind_45 : decode cX10_lowBehind 45 = .ok (.bipush 99, 2) := by decide +kernel
theorem dX10_lowBehind_47 : decode cX10_lowBehind 47 = .ok (.aload_n 0, 1) := by decide +kernel
theorem dX10_lowBehind_48 : decode cX10_lowBehind 48 = .ok (.getfield 35, 3) := by decide +kernel
theorem dX10_lowBehind_51 : decode cX10_lowBehind 51 = .ok (.iload 4, 2) := by decide +kernel
theorem dX10_lowBehind_53 : decode cX10_lowBehind 53 = .ok (.iadd, 1) := by decide +kernel
theorem dX10_lowBehind_54 : decode cX10_lowBehind 54 = .ok (.iload 5, 2) := by decide +kernel
theorem dX10_lowBehind_56 : decode cX10_lowBehind 56 = .ok (.isub, 1) := by decide +kernel
theorem dX10_lowBehind_57 : decode cX10_lowBehind 57 = .ok (.invokestatic 107, 3) := by decide +kernel
theorem dX10_lowBehind_60 : decode cX10_lowBehind 60 = .ok (.istore 6, 2) := by decide +kernel
theorem dX10_lowBehind_62 : decode cX10_lowBehind 62 = .ok (.goto 22, 3) := by decide +kernel
theorem dX10_lowBehind_65 : decode cX10_lowBehind 65 = .ok (.iload 5, 2) := by decide +kernel
theorem dX10_lowBehind_67 : decode cX10_lowBehind 67 = .ok (.iload 4, 2) := by decide +kernel
theorem dX10_lowBehind_69 : decode cX10_lowBehind 69 = .ok (.if_icmp .le 15, 3) := by decide +kernel
theorem dX10_lowBehind_72 : decode cX10_lowBehind 72 = .ok (.iconst 0, 1) := by decide +kernel
theorem dX10_lowBehind_73 : decode cX10_lowBehind 73 = .ok (.aload_n 0, 1) := by decide +kernel
theorem dX10_lowBehind_74 : decode cX10_lowBehind 74 = .ok (.getfield 35, 3) := by decide +kernel
theorem dX10_lowBehind_77 : decode cX10_lowBehind 77 = .ok (.iconst 1, 1) := by decide +kernel
theorem dX10_lowBehind_78 : decode cX10_lowBehind 78 = .ok (.isub, 1) := by decide +kernel
theorem dX10_lowBehind_79 : decode cX10_lowBehind 79 = .ok (.invokestatic 94, 3) := by decide +kernel
theorem dX10_lowBehind_82 : decode cX10_lowBehind 82 = .ok (.istore 6, 2) := by decide +kernel
theorem dX10_lowBehind_84 : decode cX10_lowBehind 84 = .ok (.iload_n 2, 1) := by decide +kernel
theorem dX10_lowBehind_85 : decode cX10_lowBehind 85 = .ok (.iconst (-1), 1) := by decide +kernel
theorem dX10_lowBehind_86 : decode cX10_lowBehind 86 = .ok (.if_icmp .ne 31, 3) := by decide +kernel
theorem dX10_lowBehind_89 : decode cX10_lowBehind 89 = .ok (.aload_n 0, 1) := by decide +kernel
theorem dX10_lowBehind_90 : decode cX10_lowBehind 90 = .ok (.getfield 24, 3) := by decide +kernel
theorem dX10_lowBehind_93 : decode cX10_lowBehind 93 = .ok (.iload_n 1, 1) := by decide +kernel
theorem dX10_lowBehind_94 : decode cX10_lowBehind 94 = .ok (.invokevirtual 68, 3) := by decide +kernel
theorem dX10_lowBehind_97 : decode cX10_lowBehind 97 = .ok (.ifCond .eq 20, 3) := by decide +kernel
theorem dX10_lowBehind_100 : decode cX10_lowBehind 100 = .ok (.aload_n 0, 1) := by decide +kernel
theorem dX10_lowBehind_101 : decode cX10_lowBehind 101 = .ok (.getfield 24, 3) := by decide +kernel
theorem dX10_lowBehind_104 : decode cX10_lowBehind 104 = .ok (.getfield 88, 3) := by decide +kernel
theorem dX10_lowBehind_107 : decode cX10_lowBehind 107 = .ok (.iload_n 1, 1) := by decide +kernel
theorem dX10_lowBehind_108 : decode cX10_lowBehind 108 = .ok (.iaload, 1) := by decide +kernel
theorem dX10_lowBehind_109 : decode cX10_lowBehind 109 = .ok (.iconst 1, 1) := by decide +kernel
theorem dX10_lowBehind_110 : decode cX10_lowBehind 110 = .ok (.if_icmp .ne 7, 3) := by decide +kernel
theorem dX10_lowBehind_113 : decode cX10_lowBehind 113 = .ok (.iconst 1, 1) := by decide +kernel
theorem dX10_lowBehind_114 : decode cX10_lowBehind 114 = .ok (.goto 4, 3) := by decide +kernel
theorem dX10_lowBehind_117 : decode cX10_lowBehind 117 = .ok (.iconst 0, 1) := by decide +kernel
theorem dX10_lowBehind_118 : decode cX10_lowBehind 118 = .ok (.istore 7, 2) := by decide +kernel
theorem dX10_lowBehind_120 : decode cX10_lowBehind 120 = .ok (.iload 7, 2) := by decide +kernel
theorem dX10_lowBehind_122 : decode cX10_lowBehind 122 = .ok (.ifCond .eq 12, 3) := by decide +kernel
theorem dX10_lowBehind_125 : decode cX10_lowBehind 125 = .ok (.iconst 2, 1) := by decide +kernel
theorem dX10_lowBehind_126 : decode cX10_lowBehind 126 = .ok (.iload 6, 2) := by decide +kernel
theorem dX10_lowBehind_128 : decode cX10_lowBehind 128 = .ok (.invokestatic 94, 3) := by decide +kernel
theorem dX10_lowBehind_131 : decode cX10_lowBehind 131 = .ok (.goto 5, 3) := by decide +kernel
theorem dX10_lowBehind_134 : decode cX10_lowBehind 134 = .ok (.iload 6, 2) := by decide +kernel
theorem dX10_lowBehind_136 : decode cX10_lowBehind 136 = .ok (.ireturn, 1) := by decide +kernel
theorem dX10_passHour_0 : decode cX10_passHour 0 = .ok (.aload_n 0, 1) := by decide +kernel
theorem dX10_passHour_1 : decode cX10_passHour 1 = .ok (.aload_n 0, 1) := by decide +kernel
theorem dX10_passHour_2 : decode cX10_passHour 2 = .ok (.aload_n 0, 1) := by decide +kernel
theorem dX10_passHour_3 : decode cX10_passHour 3 = .ok (.getfield 52, 3) := by decide +kernel
theorem dX10_passHour_6 : decode cX10_passHour 6 = .ok (.aload_n 0, 1) := by decide +kernel
theorem dX10_passHour_7 : decode cX10_passHour 7 = .ok (.getfield 55, 3) := by decide +kernel
theorem dX10_passHour_10 : decode cX10_passHour 10 = .ok (.iload_n 1, 1) := by decide +kernel
theorem dX10_passHour_11 : decode cX10_passHour 11 = .ok (.invokevirtual 110, 3) := by decide +kernel
theorem dX10_passHour_14 : decode cX10_passHour 14 = .ok (.invokevirtual 114, 3) := by decide +kernel
