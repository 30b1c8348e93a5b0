theorem dX12_goesFor_33 : decode cX12_goesFor 33 = .ok (.getfield 38, 3) := by decide +kernel
theorem dX12_goesFor_36 : decode cX12_goesFor 36 = .ok (.iconst 5, 1) := by decide +kernel
theorem dX12_goesFor_37 : decode cX12_goesFor 37 = .ok (.iconst (-1), 1) := by decide +kernel
theorem dX12_goesFor_38 : decode cX12_goesFor 38 = .ok (.iastore, 1) := by decide +kernel
theorem dX12_goesFor_39 : decode cX12_goesFor 39 = .ok (.aload_n 0, 1) := by decide +kernel
theorem dX12_goesFor_40 : decode cX12_goesFor 40 = .ok (.aload_n 0, 1) := by decide +kernel
theorem dX12_goesFor_41 : decode cX12_goesFor 41 = .ok (.getfield 38, 3) := by decide +kernel
theorem dX12_goesFor_44 : decode cX12_goesFor 44 = .ok (.iconst 0, 1) := by decide +kernel
theorem dX12_goesFor_45 : decode cX12_goesFor 45 = .ok (.invokevirtual 188, 3) := by decide +kernel
theorem dX12_goesFor_48 : decode cX12_goesFor 48 = .ok (.aload_n 0, 1) := by decide +kernel
theorem dX12_goesFor_49 : decode cX12_goesFor 49 = .ok (.getfield 38, 3) := by decide +kernel
theorem dX12_goesFor_52 : decode cX12_goesFor 52 = .ok (.iconst 1, 1) := by decide +kernel
theorem dX12_goesFor_53 : decode cX12_goesFor 53 = .ok (.iaload, 1) := by decide +kernel
theorem dX12_goesFor_54 : decode cX12_goesFor 54 = .ok (.iload_n 2, 1) := by decide +kernel
theorem dX12_goesFor_55 : decode cX12_goesFor 55 = .ok (.if_icmp .le 5, 3) := by decide +kernel
theorem dX12_goesFor_58 : decode cX12_goesFor 58 = .ok (.iload_n 3, 1) := by decide +kernel
theorem dX12_goesFor_59 : decode cX12_goesFor 59 = .ok (.ireturn, 1) := by decide +kernel
theorem dX12_goesFor_60 : decode cX12_goesFor 60 = .ok (.iinc 3 1, 3) := by decide +kernel
theorem dX12_goesFor_63 : decode cX12_goesFor 63 = .ok (.goto (-48), 3) := by decide +kernel
theorem dX12_goesFor_66 : decode cX12_goesFor 66 = .ok (.iload_n 1, 1) := by decide +kernel
theorem dX12_goesFor_67 : decode cX12_goesFor 67 = .ok (.ireturn, 1) := by decide +kernel
theorem dX12_mostOf_0 : decode cX12_mostOf 0 = .ok (.iconst 0, 1) := by decide +kernel
theorem dX12_mostOf_1 : decode cX12_mostOf 1 = .ok (.istore_n 2, 1) := by decide +kernel
theorem dX12_mostOf_2 : decode cX12_mostOf 2 = .ok (.iconst 0, 1) := by decide +kernel
theorem dX12_mostOf_3 : decode cX12_mostOf 3 = .ok (.istore_n 3, 1) := by decide +kernel
theorem dX12_mostOf_4 : decode cX12_mostOf 4 = .ok (.iload_n 3, 1) := by decide +kernel
theorem dX12_mostOf_5 : decode cX12_mostOf 5 = .ok (.aload_n 0, 1) := by decide +kernel
theorem dX12_mostOf_6 : decode cX12_mostOf 6 = .ok (.getfield 69, 3) := by decide +kernel
theorem dX12_mostOf_9 : decode cX12_mostOf 9 = .ok (.if_icmp .ge 61, 3) := by decide +kernel
theorem dX12_mostOf_12 : decode cX12_mostOf 12 = .ok (.iconst 0, 1) := by decide +kernel
theorem dX12_mostOf_13 : decode cX12_mostOf 13 = .ok (.istore 4, 2) := by decide +kernel
theorem dX12_mostOf_15 : decode cX12_mostOf 15 = .ok (.iconst 0, 1) := by decide +kernel
theorem dX12_mostOf_16 : decode cX12_mostOf 16 = .ok (.istore 5, 2) := by decide +kernel
theorem dX12_mostOf_18 : decode cX12_mostOf 18 = .ok (.iload 5, 2) := by decide +kernel
theorem dX12_mostOf_20 : decode cX12_mostOf 20 = .ok (.iload_n 1, 1) := by decide +kernel
theorem dX12_mostOf_21 : decode cX12_mostOf 21 = .ok (.if_icmp .ge 30, 3) := by decide +kernel
theorem dX12_mostOf_24 : decode cX12_mostOf 24 = .ok (.iload 4, 2) := by decide +kernel
theorem dX12_mostOf_26 : decode cX12_mostOf 26 = .ok (.aload_n 0, 1) := by decide +kernel
theorem dX12_mostOf_27 : decode cX12_mostOf 27 = .ok (.getfield 57, 3) := by decide +kernel
theorem dX12_mostOf_30 : decode cX12_mostOf 30 = .ok (.iload 5, 2) := by decide +kernel
theorem dX12_mostOf_32 : decode cX12_mostOf 32 = .ok (.iaload, 1) := by decide +kernel
theorem dX12_mostOf_33 : decode cX12_mostOf 33 = .ok (.iload_n 3, 1) := by decide +kernel
theorem dX12_mostOf_34 : decode cX12_mostOf 34 = .ok (.if_icmp .ne 7, 3) := by decide +kernel
theorem dX12_mostOf_37 : decode cX12_mostOf 37 = .ok (.iconst 1, 1) := by decide +kernel
theorem dX12_mostOf_38 : decode cX12_mostOf 38 = .ok (.goto 4, 3) := by decide +kernel
theorem dX12_mostOf_41 : decode cX12_mostOf 41 = .ok (.iconst 0, 1) := by decide +kernel
theorem dX12_mostOf_42 : decode cX12_mostOf 42 = .ok (.iadd, 1) := by decide +kernel
theorem dX12_mostOf_43 : decode cX12_mostOf 43 = .ok (.istore 4, 2) := by decide +kernel
theorem dX12_mostOf_45 : decode cX12_mostOf 45 = .ok (.iinc 5 1, 3) := by decide +kernel
theorem dX12_mostOf_48 : decode cX12_mostOf 48 = .ok (.goto (-30), 3) := by decide +kernel
theorem dX12_mostOf_51 : decode cX12_mostOf 51 = .ok (.iload 4, 2) := by decide +kernel
theorem dX12_mostOf_53 : decode cX12_mostOf 53 = .ok (.iload_n 2, 1) := by decide +kernel
theorem dX12_mostOf_54 : decode cX12_mostOf 54 = .ok (.if_icmp .le 8, 3) := by decide +kernel
theorem dX12_mostOf_57 : decode cX12_mostOf 57 = .ok (.iload 4, 2) := by decide +kernel
theorem dX12_mostOf_59 : decode cX12_mostOf 59 = .ok (.goto 4, 3) := by decide +kernel
theorem dX12_mostOf_62 : decode cX12_mostOf 62 = .ok (.iload_n 2, 1) := by decide +kernel
theorem dX12_mostOf_63 : decode cX12_mostOf 63 = .ok (.istore_n 2, 1) := by decide +kernel
theorem dX12_mostOf_64 : decode cX12_mostOf 64 = .ok (.iinc 3 1, 3) := by decide +kernel
theorem dX12_mostOf_67 : decode cX12_mostOf 67 = .ok (.goto (-63), 3) := by decide +kernel
theorem dX12_mostOf_70 : decode cX12_mostOf 70 = .ok (.iload_n 2, 1) := by decide +kernel
theorem dX12_mostOf_71 : decode cX12_mostOf 71 = .ok (.ireturn, 1) := by decide +kernel
theorem dX12_shifts_0 : decode cX12_shifts 0 = .ok (.iload_n 1, 1) := by decide +kernel
theorem dX12_shifts_1 : decode cX12_shifts 1 = .ok (.iconst 1, 1) := by decide +kernel
theorem dX12_shifts_2 : decode cX12_shifts 2 = .ok (.iconst 5, 1) := by decide +kernel
theorem dX12_shifts_3 : decode cX12_shifts 3 = .ok (.invokestatic 72, 3) := by decide +kernel
theorem dX12_shifts_6 : decode cX12_shifts 6 = .ok (.ifCond .eq 13, 3) := by decide +kernel
theorem dX12_shifts_9 : decode cX12_shifts 9 = .ok (.iload_n 2, 1) := by decide +kernel
theorem dX12_shifts_10 : decode cX12_shifts 10 = .ok (.iconst 0, 1) := by decide +kernel
theorem dX12_shifts_11 : decode cX12_shifts 11 = .ok (.bipush 99, 2) := by decide +kernel
theorem dX12_shifts_13 : decode cX12_shifts 13 = .ok (.invokestatic 72, 3) := by decide +kernel
theorem dX12_shifts_16 : decode cX12_shifts 16 = .ok (.ifCond .ne 6, 3) := by decide +kernel
theorem dX12_shifts_19 : decode cX12_shifts 19 = .ok (.ldc 85, 2) := by decide +kernel
theorem dX12_shifts_21 : decode cX12_shifts 21 = .ok (.ireturn, 1) := by decide +kernel
theorem dX12_shifts_22 : decode cX12_shifts 22 = .ok (.aload_n 0, 1) := by decide +kernel
theorem dX12_shifts_23 : decode cX12_shifts 23 = .ok (.invokevirtual 181, 3) := by decide +kernel
theorem dX12_shifts_26 : decode cX12_shifts 26 = .ok (.ifCond .ne 6, 3) := by decide +kernel
theorem dX12_shifts_29 : decode cX12_shifts 29 = .ok (.ldc 184, 2) := by decide +kernel
theorem dX12_shifts_31 : decode cX12_shifts 31 = .ok (.ireturn, 1) := by decide +kernel
theorem dX12_shifts_32 : decode cX12_shifts 32 = .ok (.iconst (-1), 1) := by decide +kernel
theorem dX12_shifts_33 : decode cX12_shifts 33 = .ok (.istore 4, 2) := by decide +kernel
theorem dX12_shifts_35 : decode cX12_shifts 35 = .ok (.iconst 0, 1) := by decide +kernel
theorem dX12_shifts_36 : decode cX12_shifts 36 = .ok (.istore 5, 2) := by decide +kernel
theorem dX12_shifts_38 : decode cX12_shifts 38 = .ok (.iload 5, 2) := by decide +kernel
theorem dX12_shifts_40 : decode cX12_shifts 40 = .ok (.aload_n 0, 1) := by decide +kernel
theorem dX12_shifts_41 : decode cX12_shifts 41 = .ok (.getfield 69, 3) := by decide +kernel
theorem dX12_shifts_44 : decode cX12_shifts 44 = .ok (.iload_n 1, 1) := by decide +kernel
theorem dX12_shifts_45 : decode cX12_shifts 45 = .ok (.invokestatic 229, 3) := by decide +kernel
theorem dX12_shifts_48 : decode cX12_shifts 48 = .ok (.if_icmp .ge 79, 3) := by decide +kernel
theorem dX12_shifts_51 : decode cX12_shifts 51 = .ok (.aload_n 0, 1) := by decide +kernel
theorem dX12_shifts_52 : decode cX12_shifts 52 = .ok (.iload 5, 2) := by decide +kernel
theorem dX12_shifts_54 : decode cX12_shifts 54 = .ok (.iload_n 1, 1) := by decide +kernel
theorem dX12_shifts_55 : decode cX12_shifts 55 = .ok (.invokevirtual 233, 3) := by decide +kernel
theorem dX12_shifts_58 : decode cX12_shifts 58 = .ok (.aload_n 0, 1) := by decide +kernel
theorem dX12_shifts_59 : decode cX12_shifts 59 = .ok (.iload_n 1, 1) := by decide +kernel
theorem dX12_shifts_60 : decode cX12_shifts 60 = .ok (.invokevirtual 237, 3) := by decide +kernel
theorem dX12_shifts_63 : decode cX12_shifts 63 = .ok (.istore 6, 2) := by decide +kernel
theorem dX12_shifts_65 : decode cX12_shifts 65 = .ok (.iload 4, 2) := by decide +kernel
theorem dX12_shifts_67 : decode cX12_shifts 67 = .ok (.iconst (-1), 1) := by decide +kernel
theorem dX12_shifts_68 : decode cX12_shifts 68 = .ok (.if_icmp .eq 10, 3) := by decide +kernel
theorem dX12_shifts_71 : decode cX12_shifts 71 = .ok (.iload 6, 2) := by decide +kernel
theorem dX12_shifts_73 : decode cX12_shifts 73 = .ok (.iload 4, 2) := by decide +kernel
theorem dX12_shifts_75 : decode cX12_shifts 75 = .ok (.if_icmp .ge 46, 3) := by decide +kernel
theorem dX12_shifts_78 : decode cX12_shifts 78 = .ok (.aload_n 0, 1) := by decide +kernel
theorem dX12_shifts_79 : decode cX12_shifts 79 = .ok (.iload_n 1, 1) := by decide +kernel
theorem dX12_shifts_80 : decode cX12_shifts 80 = .ok (.iload_n 2, 1) := by decide +kernel
theorem dX12_shifts_81 : decode cX12_shifts 81 = .ok (.invokevirtual 240, 3) := by decide +kernel
theorem dX12_shifts_84 : decode cX12_shifts 84 = .ok (.iload_n 1, 1) := by decide +kernel
theorem dX12_shifts_85 : decode cX12_shifts 85 = .ok (.if_icmp .ne 36, 3) := by decide +kernel
theorem dX12_shifts_88 : decode cX12_shifts 88 = .ok (.iload 6, 2) := by decide +kernel
theorem dX12_shifts_90 : decode cX12_shifts 90 = .ok (.istore 4, 2) := by decide +kernel
theorem dX12_shifts_92 : decode cX12_shifts 92 = .ok (.iconst 0, 1) := by decide +kernel
theorem dX12_shifts_93 : decode cX12_shifts 93 = .ok (.istore 7, 2) := by decide +kernel
theorem dX12_shifts_95 : decode cX12_shifts 95 = .ok (.iload 7, 2) := by decide +kernel
theorem dX12_shifts_97 : decode cX12_shifts 97 = .ok (.iload_n 1, 1) := by decide +kernel
theorem dX12_shifts_98 : decode cX12_shifts 98 = .ok (.if_icmp .ge 23, 3) := by decide +kernel
theorem dX12_shifts_101 : decode cX12_shifts 101 = .ok (.aload_n 0, 1) := by decide +kernel
theorem dX12_shifts_102 : decode cX12_shifts 102 = .ok (.getfield 60, 3) := by decide +kernel
theorem dX12_shifts_105 : decode cX12_shifts 105 = .ok (.iload 7, 2) := by decide +kernel
theorem dX12_shifts_107 : decode cX12_shifts 107 = .ok (.aload_n 0, 1) := by decide +kernel
theorem dX12_shifts_108 : decode cX12_shifts 108 = .ok (.getfield 57, 3) := by decide +kernel
theorem dX12_shifts_111 : decode cX12_shifts 111 = .ok (.iload 7, 2) := by decide +kernel
theorem dX12_shifts_113 : decode cX12_shifts 113 = .ok (.iaload, 1) := by decide +kernel
theorem dX12_shifts_114 : decode cX12_shifts 114 = .ok (.iastore, 1) := by decide +kernel
theorem dX12_shifts_115 : decode cX12_shifts 115 = .ok (.iinc 7 1, 3) := by decide +kernel
theorem dX12_shifts_118 : decode cX12_shifts 118 = .ok (.goto (-23), 3) := by decide +kernel
theorem dX12_shifts_121 : decode cX12_shifts 121 = .ok (.iinc 5 1, 3) := by decide +kernel
theorem dX12_shifts_124 : decode cX12_shifts 124 = .ok (.goto (-86), 3) := by decide +kernel
theorem dX12_shifts_127 : decode cX12_shifts 127 = .ok (.iload_n 3, 1) := by decide +kernel
theorem dX12_shifts_128 : decode cX12_shifts 128 = .ok (.iconst (-1), 1) := by decide +kernel
theorem dX12_shifts_129 : decode cX12_shifts 129 = .ok (.if_icmp .ne 8, 3) := by decide +kernel
theorem dX12_shifts_132 : decode cX12_shifts 132 = .ok (.iload 4, 2) := by decide +kernel
theorem dX12_shifts_134 : decode cX12_shifts 134 = .ok (.goto 30, 3) := by decide +kernel
theorem dX12_shifts_137 : decode cX12_shifts 137 = .ok (.iload 4, 2) := by decide +kernel
theorem dX12_shifts_139 : decode cX12_shifts 139 = .ok (.iconst (-1), 1) := by decide +kernel
theorem dX12_shifts_140 : decode cX12_shifts 140 = .ok (.if_icmp .eq 14, 3) := by decide +kernel
theorem dX12_shifts_143 : decode cX12_shifts 143 = .ok (.iload_n 3, 1) := by decide +kernel
theorem dX12_shifts_144 : decode cX12_shifts 144 = .ok (.iconst 0, 1) := by decide +kernel
theorem dX12_shifts_145 : decode cX12_shifts 145 = .ok (.iload_n 1, 1) := by decide +kernel
theorem dX12_shifts_146 : decode cX12_shifts 146 = .ok (.iconst 1, 1) := by decide +kernel
theorem dX12_shifts_147 : decode cX12_shifts 147 = .ok (.isub, 1) := by decide +kernel
theorem dX12_shifts_148 : decode cX12_shifts 148 = .ok (.invokestatic 72, 3) := by decide +kernel
theorem dX12_shifts_151 : decode cX12_shifts 151 = .ok (.ifCond .ne 7, 3) := by decide +kernel
theorem dX12_shifts_154 : decode cX12_shifts 154 = .ok (.iconst (-1), 1) := by decide +kernel
theorem dX12_shifts_155 : decode cX12_shifts 155 = .ok (.goto 9, 3) := by decide +kernel
theorem dX12_shifts_158 : decode cX12_shifts 158 = .ok (.aload_n 0, 1) := by decide +kernel
theorem dX12_shifts_159 : decode cX12_shifts 159 = .ok (.getfield 60, 3) := by decide +kernel
theorem dX12_shifts_162 : decode cX12_shifts 162 = .ok (.iload_n 3, 1) := by decide +kernel
theorem dX12_shifts_163 : decode cX12_shifts 163 = .ok (.iaload, 1) := by decide +kernel
theorem dX12_shifts_164 : decode cX12_shifts 164 = .ok (.ireturn, 1) := by decide +kernel
theorem dX12_sinks_0 : decode cX12_sinks 0 = .ok (.iload_n 1, 1) := by decide +kernel
theorem dX12_sinks_1 : decode cX12_sinks 1 = .ok (.iconst 1, 1) := by decide +kernel
theorem dX12_sinks_2 : decode cX12_sinks 2 = .ok (.iconst 5, 1) := by decide +kernel
theorem dX12_sinks_3 : decode cX12_sinks 3 = .ok (.invokestatic 72, 3) := by decide +kernel
theorem dX12_sinks_6 : decode cX12_sinks 6 = .ok (.ifCond .eq 13, 3) := by decide +kernel
theorem dX12_sinks_9 : decode cX12_sinks 9 = .ok (.iload_n 2, 1) := by decide +kernel
theorem dX12_sinks_10 : decode cX12_sinks 10 = .ok (.iconst 0, 1) := by decide +kernel
theorem dX12_sinks_11 : decode cX12_sinks 11 = .ok (.bipush 99, 2) := by decide +kernel
theorem dX12_sinks_13 : decode cX12_sinks 13 = .ok (.invokestatic 72, 3) := by decide +kernel
theorem dX12_sinks_16 : decode cX12_sinks 16 = .ok (.ifCond .ne 6, 3) := by decide +kernel
theorem dX12_sinks_19 : decode cX12_sinks 19 = .ok (.ldc 85, 2) := by decide +kernel
theorem dX12_sinks_21 : decode cX12_sinks 21 = .ok (.ireturn, 1) := by decide +kernel
theorem dX12_sinks_22 : decode cX12_sinks 22 = .ok (.aload_n 0, 1) := by decide +kernel
theorem dX12_sinks_23 : decode cX12_sinks 23 = .ok (.invokevirtual 181, 3) := by decide +kernel
theorem dX12_sinks_26 : decode cX12_sinks 26 = .ok (.ifCond .ne 6, 3) := by decide +kernel
theorem dX12_sinks_29 : decode cX12_sinks 29 = .ok (.ldc 184, 2) := by decide +kernel
theorem dX12_sinks_31 : decode cX12_sinks 31 = .ok (.ireturn, 1) := by decide +kernel
theorem dX12_sinks_32 : decode cX12_sinks 32 = .ok (.iconst 0, 1) := by decide +kernel
theorem dX12_sinks_33 : decode cX12_sinks 33 = .ok (.istore_n 3, 1) := by decide +kernel
theorem dX12_sinks_34 : decode cX12_sinks 34 = .ok (.iconst 0, 1) := by decide +kernel
theorem dX12_sinks_35 : decode cX12_sinks 35 = .ok (.istore 4, 2) := by decide +kernel
theorem dX12_sinks_37 : decode cX12_sinks 37 = .ok (.iload 4, 2) := by decide +kernel
theorem dX12_sinks_39 : decode cX12_sinks 39 = .ok (.aload_n 0, 1) := by decide +kernel
theorem dX12_sinks_40 : decode cX12_sinks 40 = .ok (.getfield 69, 3) := by decide +kernel
theorem dX12_sinks_43 : decode cX12_sinks 43 = .ok (.iload_n 1, 1) := by decide +kernel
theorem dX12_sinks_44 : decode cX12_sinks 44 = .ok (.invokestatic 229, 3) := by decide +kernel
theorem dX12_sinks_47 : decode cX12_sinks 47 = .ok (.if_icmp .ge 37, 3) := by decide +kernel
theorem dX12_sinks_50 : decode cX12_sinks 50 = .ok (.aload_n 0, 1) := by decide +kernel
theorem dX12_sinks_51 : decode cX12_sinks 51 = .ok (.iload 4, 2) := by decide +kernel
theorem dX12_sinks_53 : decode cX12_sinks 53 = .ok (.iload_n 1, 1) := by decide +kernel
theorem dX12_sinks_54 : decode cX12_sinks 54 = .ok (.invokevirtual 233, 3) := by decide +kernel
theorem dX12_sinks_57 : decode cX12_sinks 57 = .ok (.aload_n 0, 1) := by decide +kernel
theorem dX12_sinks_58 : decode cX12_sinks 58 = .ok (.iload_n 1, 1) := by decide +kernel
theorem dX12_sinks_59 : decode cX12_sinks 59 = .ok (.iload_n 2, 1) := by decide +kernel
theorem dX12_sinks_60 : decode cX12_sinks 60 = .ok (.invokevirtual 240, 3) := by decide +kernel
theorem dX12_sinks_63 : decode cX12_sinks 63 = .ok (.istore 5, 2) := by decide +kernel
theorem dX12_sinks_65 : decode cX12_sinks 65 = .ok (.iload 5, 2) := by decide +kernel
theorem dX12_sinks_67 : decode cX12_sinks 67 = .ok (.iload_n 3, 1) := by decide +kernel
theorem dX12_sinks_68 : decode cX12_sinks 68 = .ok (.if_icmp .le 8, 3) := by decide +kernel
theorem dX12_sinks_71 : decode cX12_sinks 71 = .ok (.iload 5, 2) := by decide +kernel
theorem dX12_sinks_73 : decode cX12_sinks 73 = .ok (.goto 4, 3) := by decide +kernel
theorem dX12_sinks_76 : decode cX12_sinks 76 = .ok (.iload_n 3, 1) := by decide +kernel
theorem dX12_sinks_77 : decode cX12_sinks 77 = .ok (.istore_n 3, 1) := by decide +kernel
theorem dX12_sinks_78 : decode cX12_sinks 78 = .ok (.iinc 4 1, 3) := by decide +kernel
theorem dX12_sinks_81 : decode cX12_sinks 81 = .ok (.goto (-44), 3) := by decide +kernel
theorem dX12_sinks_84 : decode cX12_sinks 84 = .ok (.iload_n 3, 1) := by decide +kernel
theorem dX12_sinks_85 : decode cX12_sinks 85 = .ok (.iload_n 1, 1) := by decide +kernel
theorem dX12_sinks_86 : decode cX12_sinks 86 = .ok (.if_icmp .ne 7, 3) := by decide +kernel
theorem dX12_sinks_89 : decode cX12_sinks 89 = .ok (.iconst (-1), 1) := by decide +kernel
theorem dX12_sinks_90 : decode cX12_sinks 90 = .ok (.goto 4, 3) := by decide +kernel
theorem dX12_sinks_93 : decode cX12_sinks 93 = .ok (.iload_n 3, 1) := by decide +kernel
theorem dX12_sinks_94 : decode cX12_sinks 94 = .ok (.ireturn, 1) := by decide +kernel
theorem dX12_fallsNow_0 : decode cX12_fallsNow 0 = .ok (.aload_n 0, 1) := by decide +kernel
theorem dX12_fallsNow_1 : decode cX12_fallsNow 1 = .ok (.aload_n 0, 1) := by decide +kernel
theorem dX12_fallsNow_2 : decode cX12_fallsNow 2 = .ok (.getfield 35, 3) := by decide +kernel
theorem dX12_fallsNow_5 : decode cX12_fallsNow 5 = .ok (.iload_n 1, 1) := by decide +kernel
theorem dX12_fallsNow_6 : decode cX12_fallsNow 6 = .ok (.iconst 0, 1) := by decide +kernel
theorem dX12_fallsNow_7 : decode cX12_fallsNow 7 = .ok (.invokevirtual 195, 3) := by decide +kernel
theorem dX12_fallsNow_10 : decode cX12_fallsNow 10 = .ok (.ifCond .ne 29, 3) := by decide +kernel
theorem dX12_fallsNow_13 : decode cX12_fallsNow 13 = .ok (.aload_n 0, 1) := by decide +kernel
theorem dX12_fallsNow_14 : decode cX12_fallsNow 14 = .ok (.aload_n 0, 1) := by decide +kernel
theorem dX12_fallsNow_15 : decode cX12_fallsNow 15 = .ok (.getfield 35, 3) := by decide +kernel
theorem dX12_fallsNow_18 : decode cX12_fallsNow 18 = .ok (.iload_n 1, 1) := by decide +kernel
theorem dX12_fallsNow_19 : decode cX12_fallsNow 19 = .ok (.iconst 1, 1) := by decide +kernel
theorem dX12_fallsNow_20 : decode cX12_fallsNow 20 = .ok (.invokevirtual 195, 3) := by decide +kernel
theorem dX12_fallsNow_23 : decode cX12_fallsNow 23 = .ok (.ifCond .ne 16, 3) := by decide +kernel
theorem dX12_fallsNow_26 : decode cX12_fallsNow 26 = .ok (.aload_n 0, 1) := by decide +kernel
theorem dX12_fallsNow_27 : decode cX12_fallsNow 27 = .ok (.aload_n 0, 1) := by decide +kernel
theorem dX12_fallsNow_28 : decode cX12_fallsNow 28 = .ok (.getfield 35, 3) := by decide +kernel
theorem dX12_fallsNow_31 : decode cX12_fallsNow 31 = .ok (.iload_n 1, 1) := by decide +kernel
theorem dX12_fallsNow_32 : decode cX12_fallsNow 32 = .ok (.iconst 2, 1) := by decide +kernel
theorem dX12_fallsNow_33 : decode cX12_fallsNow 33 = .ok (.invokevirtual 195, 3) := by decide +kernel
theorem dX12_fallsNow_36 : decode cX12_fallsNow 36 = .ok (.ifCond .eq 7, 3) := by decide +kernel
theorem dX12_fallsNow_39 : decode cX12_fallsNow 39 = .ok (.iconst 1, 1) := by decide +kernel
theorem dX12_fallsNow_40 : decode cX12_fallsNow 40 = .ok (.goto 4, 3) := by decide +kernel
theorem dX12_fallsNow_43 : decode cX12_fallsNow 43 = .ok (.iconst 0, 1) := by decide +kernel
theorem dX12_fallsNow_44 : decode cX12_fallsNow 44 = .ok (.ireturn, 1) := by decide +kernel
theorem dX12_isNext_0 : decode cX12_isNext 0 = .ok (.iload_n 1, 1) := by decide +kernel
theorem dX12_isNext_1 : decode cX12_isNext 1 = .ok (.iconst (-1), 1) := by decide +kernel
theorem dX12_isNext_2 : decode cX12_isNext 2 = .ok (.if_icmp .ne 36, 3) := by decide +kernel
theorem dX12_isNext_5 : decode cX12_isNext 5 = .ok (.aload_n 0, 1) := by decide +kernel
theorem dX12_isNext_6 : decode cX12_isNext 6 = .ok (.getfield 35, 3) := by decide +kernel
theorem dX12_isNext_9 : decode cX12_isNext 9 = .ok (.iload_n 2, 1) := by decide +kernel
theorem dX12_isNext_10 : decode cX12_isNext 10 = .ok (.invokestatic 199, 3) := by decide +kernel
theorem dX12_isNext_13 : decode cX12_isNext 13 = .ok (.ifCond .ne 23, 3) := by decide +kernel
theorem dX12_isNext_16 : decode cX12_isNext 16 = .ok (.aload_n 0, 1) := by decide +kernel
theorem dX12_isNext_17 : decode cX12_isNext 17 = .ok (.iload_n 2, 1) := by decide +kernel
theorem dX12_isNext_18 : decode cX12_isNext 18 = .ok (.invokevirtual 243, 3) := by decide +kernel
theorem dX12_isNext_21 : decode cX12_isNext 21 = .ok (.ifCond .ne 11, 3) := by decide +kernel
theorem dX12_isNext_24 : decode cX12_isNext 24 = .ok (.aload_n 0, 1) := by decide +kernel
theorem dX12_isNext_25 : decode cX12_isNext 25 = .ok (.iload_n 2, 1) := by decide +kernel
theorem dX12_isNext_26 : decode cX12_isNext 26 = .ok (.invokevirtual 209, 3) := by decide +kernel
theorem dX12_isNext_29 : decode cX12_isNext 29 = .ok (.ifCond .eq 7, 3) := by decide +kernel
theorem dX12_isNext_32 : decode cX12_isNext 32 = .ok (.iconst 1, 1) := by decide +kernel
theorem dX12_isNext_33 : decode cX12_isNext 33 = .ok (.goto 4, 3) := by decide +kernel
theorem dX12_isNext_36 : decode cX12_isNext 36 = .ok (.iconst 0, 1) := by decide +kernel
theorem dX12_isNext_37 : decode cX12_isNext 37 = .ok (.ireturn, 1) := by decide +kernel
theorem dX12_isNext_38 : decode cX12_isNext 38 = .ok (.iload_n 2, 1) := by decide +kernel
theorem dX12_isNext_39 : decode cX12_isNext 39 = .ok (.iload_n 1, 1) := by decide +kernel
theorem dX12_isNext_40 : decode cX12_isNext 40 = .ok (.if_icmp .eq 24, 3) := by decide +kernel
theorem dX12_isNext_43 : decode cX12_isNext 43 = .ok (.aload_n 0, 1) := by decide +kernel
theorem dX12_isNext_44 : decode cX12_isNext 44 = .ok (.iload_n 2, 1) := by decide +kernel
theorem dX12_isNext_45 : decode cX12_isNext 45 = .ok (.invokevirtual 243, 3) := by decide +kernel
theorem dX12_isNext_48 : decode cX12_isNext 48 = .ok (.ifCond .ne 12, 3) := by decide +kernel
theorem dX12_isNext_51 : decode cX12_isNext 51 = .ok (.aload_n 0, 1) := by decide +kernel
theorem dX12_isNext_52 : decode cX12_isNext 52 = .ok (.iload_n 2, 1) := by decide +kernel
theorem dX12_isNext_53 : decode cX12_isNext 53 = .ok (.invokevirtual 206, 3) := by decide +kernel
theorem dX12_isNext_56 : decode cX12_isNext 56 = .ok (.iload_n 1, 1) := by decide +kernel
theorem dX12_isNext_57 : decode cX12_isNext 57 = .ok (.if_icmp .ne 7, 3) := by decide +kernel
theorem dX12_isNext_60 : decode cX12_isNext 60 = .ok (.iconst 1, 1) := by decide +kernel
theorem dX12_isNext_61 : decode cX12_isNext 61 = .ok (.goto 4, 3) := by decide +kernel
theorem dX12_isNext_64 : decode cX12_isNext 64 = .ok (.iconst 0, 1) := by decide +kernel
theorem dX12_isNext_65 : decode cX12_isNext 65 = .ok (.ireturn, 1) := by decide +kernel
theorem dX12_layFar_0 : decode cX12_layFar 0 = .ok (.iconst 0, 1) := by decide +kernel
theorem dX12_layFar_1 : decode cX12_layFar 1 = .ok (.istore_n 2, 1) := by decide +kernel
theorem dX12_layFar_2 : decode cX12_layFar 2 = .ok (.iload_n 2, 1) := by decide +kernel
theorem dX12_layFar_3 : decode cX12_layFar 3 = .ok (.aload_n 0, 1) := by decide +kernel
theorem dX12_layFar_4 : decode cX12_layFar 4 = .ok (.getfield 69, 3) := by decide +kernel
theorem dX12_layFar_7 : decode cX12_layFar 7 = .ok (.if_icmp .ge 26, 3) := by decide +kernel
theorem dX12_layFar_10 : decode cX12_layFar 10 = .ok (.aload_n 0, 1) := by decide +kernel
theorem dX12_layFar_11 : decode cX12_layFar 11 = .ok (.getfield 60, 3) := by decide +kernel
theorem dX12_layFar_14 : decode cX12_layFar 14 = .ok (.iload_n 2, 1) := by decide +kernel
theorem dX12_layFar_15 : decode cX12_layFar 15 = .ok (.iload_n 2, 1) := by decide +kernel
theorem dX12_layFar_16 : decode cX12_layFar 16 = .ok (.iload_n 1, 1) := by decide +kernel
theorem dX12_layFar_17 : decode cX12_layFar 17 = .ok (.if_icmp .ne 7, 3) := by decide +kernel
theorem dX12_layFar_20 : decode cX12_layFar 20 = .ok (.iconst 0, 1) := by decide +kernel
theorem dX12_layFar_21 : decode cX12_layFar 21 = .ok (.goto 5, 3) := by decide +kernel
theorem dX12_layFar_24 : decode cX12_layFar 24 = .ok (.bipush 99, 2) := by decide +kernel
theorem dX12_layFar_26 : decode cX12_layFar 26 = .ok (.iastore, 1) := by decide +kernel
theorem dX12_layFar_27 : decode cX12_layFar 27 = .ok (.iinc 2 1, 3) := by decide +kernel
theorem dX12_layFar_30 : decode cX12_layFar 30 = .ok (.goto (-28), 3) := by decide +kernel
theorem dX12_layFar_33 : decode cX12_layFar 33 = .ok (.iconst 0, 1) := by decide +kernel
theorem dX12_layFar_34 : decode cX12_layFar 34 = .ok (.istore_n 2, 1) := by decide +kernel
theorem dX12_layFar_35 : decode cX12_layFar 35 = .ok (.iload_n 2, 1) := by decide +kernel
theorem dX12_layFar_36 : decode cX12_layFar 36 = .ok (.aload_n 0, 1) := by decide +kernel
theorem dX12_layFar_37 : decode cX12_layFar 37 = .ok (.getfield 69, 3) := by decide +kernel
theorem dX12_layFar_40 : decode cX12_layFar 40 = .ok (.if_icmp .ge 86, 3) := by decide +kernel
theorem dX12_layFar_43 : decode cX12_layFar 43 = .ok (.iconst 0, 1) := by decide +kernel
theorem dX12_layFar_44 : decode cX12_layFar 44 = .ok (.istore_n 3, 1) := by decide +kernel
theorem dX12_layFar_45 : decode cX12_layFar 45 = .ok (.iload_n 3, 1) := by decide +kernel
theorem dX12_layFar_46 : decode cX12_layFar 46 = .ok (.aload_n 0, 1) := by decide +kernel
theorem dX12_layFar_47 : decode cX12_layFar 47 = .ok (.getfield 69, 3) := by decide +kernel
theorem dX12_layFar_50 : decode cX12_layFar 50 = .ok (.if_icmp .ge 70, 3) := by decide +kernel
theorem dX12_layFar_53 : decode cX12_layFar 53 = .ok (.iconst 0, 1) := by decide +kernel
theorem dX12_layFar_54 : decode cX12_layFar 54 = .ok (.istore 4, 2) := by decide +kernel
theorem dX12_layFar_56 : decode cX12_layFar 56 = .ok (.iload 4, 2) := by decide +kernel
theorem dX12_layFar_58 : decode cX12_layFar 58 = .ok (.aload_n 0, 1) := by decide +kernel
theorem dX12_layFar_59 : decode cX12_layFar 59 = .ok (.getfield 69, 3) := by decide +kernel
theorem dX12_layFar_62 : decode cX12_layFar 62 = .ok (.if_icmp .ge 52, 3) := by decide +kernel
theorem dX12_layFar_65 : decode cX12_layFar 65 = .ok (.aload_n 0, 1) := by decide +kernel
theorem dX12_layFar_66 : decode cX12_layFar 66 = .ok (.iload_n 3, 1) := by decide +kernel
theorem dX12_layFar_67 : decode cX12_layFar 67 = .ok (.iload 4, 2) := by decide +kernel
theorem dX12_layFar_69 : decode cX12_layFar 69 = .ok (.invokevirtual 246, 3) := by decide +kernel
theorem dX12_layFar_72 : decode cX12_layFar 72 = .ok (.ifCond .eq 36, 3) := by decide +kernel
theorem dX12_layFar_75 : decode cX12_layFar 75 = .ok (.aload_n 0, 1) := by decide +kernel
theorem dX12_layFar_76 : decode cX12_layFar 76 = .ok (.getfield 60, 3) := by decide +kernel
theorem dX12_layFar_79 : decode cX12_layFar 79 = .ok (.iload 4, 2) := by decide +kernel
theorem dX12_layFar_81 : decode cX12_layFar 81 = .ok (.iaload, 1) := by decide +kernel
theorem dX12_layFar_82 : decode cX12_layFar 82 = .ok (.iconst 1, 1) := by decide +kernel
theorem dX12_layFar_83 : decode cX12_layFar 83 = .ok (.iadd, 1) := by decide +kernel
theorem dX12_layFar_84 : decode cX12_layFar 84 = .ok (.aload_n 0, 1) := by decide +kernel
theorem dX12_layFar_85 : decode cX12_layFar 85 = .ok (.getfield 60, 3) := by decide +kernel
theorem dX12_layFar_88 : decode cX12_layFar 88 = .ok (.iload_n 3, 1) := by decide +kernel
theorem dX12_layFar_89 : decode cX12_layFar 89 = .ok (.iaload, 1) := by decide +kernel
theorem dX12_layFar_90 : decode cX12_layFar 90 = .ok (.if_icmp .ge 18, 3) := by decide +kernel
theorem dX12_layFar_93 : decode cX12_layFar 93 = .ok (.aload_n 0, 1) := by decide +kernel
theorem dX12_layFar_94 : decode cX12_layFar 94 = .ok (.getfield 60, 3) := by decide +kernel
theorem dX12_layFar_97 : decode cX12_layFar 97 = .ok (.iload_n 3, 1) := by decide +kernel
theorem dX12_layFar_98 : decode cX12_layFar 98 = .ok (.aload_n 0, 1) := by decide +kernel
theorem dX12_layFar_99 : decode cX12_layFar 99 = .ok (.getfield 60, 3) := by decide +kernel
theorem dX12_layFar_102 : decode cX12_layFar 102 = .ok (.iload 4, 2) := by decide +kernel
theorem dX12_layFar_104 : decode cX12_layFar 104 = .ok (.iaload, 1) := by decide +kernel
theorem dX12_layFar_105 : decode cX12_layFar 105 = .ok (.iconst 1, 1) := by decide +kernel
theorem dX12_layFar_106 : decode cX12_layFar 106 = .ok (.iadd, 1) := by decide +kernel
theorem dX12_layFar_107 : decode cX12_layFar 107 = .ok (.iastore, 1) := by decide +kernel
theorem dX12_layFar_108 : decode cX12_layFar 108 = .ok (.iinc 4 1, 3) := by decide +kernel
theorem dX12_layFar_111 : decode cX12_layFar 111 = .ok (.goto (-55), 3) := by decide +kernel
theorem dX12_layFar_114 : decode cX12_layFar 114 = .ok (.iinc 3 1, 3) := by decide +kernel
theorem dX12_layFar_117 : decode cX12_layFar 117 = .ok (.goto (-72), 3) := by decide +kernel
theorem dX12_layFar_120 : decode cX12_layFar 120 = .ok (.iinc 2 1, 3) := by decide +kernel
theorem dX12_layFar_123 : decode cX12_layFar 123 = .ok (.goto (-88), 3) := by decide +kernel
theorem dX12_layFar_126 : decode cX12_layFar 126 = .ok (.return_, 1) := by decide +kernel
theorem dX12_chain_0 : decode cX12_chain 0 = .ok (.aload_n 0, 1) := by decide +kernel
theorem dX12_chain_1 : decode cX12_chain 1 = .ok (.iload_n 1, 1) := by decide +kernel
theorem dX12_chain_2 : decode cX12_chain 2 = .ok (.invokevirtual 177, 3) := by decide +kernel
theorem dX12_chain_5 : decode cX12_chain 5 = .ok (.ifCond .ne 6, 3) := by decide +kernel
theorem dX12_chain_8 : decode cX12_chain 8 = .ok (.ldc 180, 2) := by decide +kernel
theorem dX12_chain_10 : decode cX12_chain 10 = .ok (.ireturn, 1) := by decide +kernel
theorem dX12_chain_11 : decode cX12_chain 11 = .ok (.aload_n 0, 1) := by decide +kernel
theorem dX12_chain_12 : decode cX12_chain 12 = .ok (.getfield 35, 3) := by decide +kernel
theorem dX12_chain_15 : decode cX12_chain 15 = .ok (.iload_n 1, 1) := by decide +kernel
theorem dX12_chain_16 : decode cX12_chain 16 = .ok (.invokestatic 199, 3) := by decide +kernel
theorem dX12_chain_19 : decode cX12_chain 19 = .ok (.ifCond .eq 14, 3) := by decide +kernel
theorem dX12_chain_22 : decode cX12_chain 22 = .ok (.iload_n 2, 1) := by decide +kernel
theorem dX12_chain_23 : decode cX12_chain 23 = .ok (.iconst (-1), 1) := by decide +kernel
theorem dX12_chain_24 : decode cX12_chain 24 = .ok (.if_icmp .ne 7, 3) := by decide +kernel
theorem dX12_chain_27 : decode cX12_chain 27 = .ok (.iconst 0, 1) := by decide +kernel
theorem dX12_chain_28 : decode cX12_chain 28 = .ok (.goto 4, 3) := by decide +kernel
theorem dX12_chain_31 : decode cX12_chain 31 = .ok (.iconst (-1), 1) := by decide +kernel
theorem dX12_chain_32 : decode cX12_chain 32 = .ok (.ireturn, 1) := by decide +kernel
theorem dX12_chain_33 : decode cX12_chain 33 = .ok (.aload_n 0, 1) := by decide +kernel
theorem dX12_chain_34 : decode cX12_chain 34 = .ok (.iload_n 1, 1) := by decide +kernel
theorem dX12_chain_35 : decode cX12_chain 35 = .ok (.invokevirtual 249, 3) := by decide +kernel
theorem dX12_chain_38 : decode cX12_chain 38 = .ok (.iconst (-1), 1) := by decide +kernel
theorem dX12_chain_39 : decode cX12_chain 39 = .ok (.istore_n 3, 1) := by decide +kernel
theorem dX12_chain_40 : decode cX12_chain 40 = .ok (.bipush 99, 2) := by decide +kernel
theorem dX12_chain_42 : decode cX12_chain 42 = .ok (.istore 4, 2) := by decide +kernel
theorem dX12_chain_44 : decode cX12_chain 44 = .ok (.iconst 0, 1) := by decide +kernel
theorem dX12_chain_45 : decode cX12_chain 45 = .ok (.istore 5, 2) := by decide +kernel
theorem dX12_chain_47 : decode cX12_chain 47 = .ok (.iload 5, 2) := by decide +kernel
theorem dX12_chain_49 : decode cX12_chain 49 = .ok (.aload_n 0, 1) := by decide +kernel
theorem dX12_chain_50 : decode cX12_chain 50 = .ok (.getfield 69, 3) := by decide +kernel
theorem dX12_chain_53 : decode cX12_chain 53 = .ok (.if_icmp .ge 49, 3) := by decide +kernel
theorem dX12_chain_56 : decode cX12_chain 56 = .ok (.aload_n 0, 1) := by decide +kernel
theorem dX12_chain_57 : decode cX12_chain 57 = .ok (.iconst (-1), 1) := by decide +kernel
theorem dX12_chain_58 : decode cX12_chain 58 = .ok (.iload 5, 2) := by decide +kernel
theorem dX12_chain_60 : decode cX12_chain 60 = .ok (.invokevirtual 246, 3) := by decide +kernel
theorem dX12_chain_63 : decode cX12_chain 63 = .ok (.ifCond .eq 29, 3) := by decide +kernel
theorem dX12_chain_66 : decode cX12_chain 66 = .ok (.aload_n 0, 1) := by decide +kernel
theorem dX12_chain_67 : decode cX12_chain 67 = .ok (.getfield 60, 3) := by decide +kernel
theorem dX12_chain_70 : decode cX12_chain 70 = .ok (.iload 5, 2) := by decide +kernel
theorem dX12_chain_72 : decode cX12_chain 72 = .ok (.iaload, 1) := by decide +kernel
theorem dX12_chain_73 : decode cX12_chain 73 = .ok (.iconst 1, 1) := by decide +kernel
theorem dX12_chain_74 : decode cX12_chain 74 = .ok (.iadd, 1) := by decide +kernel
theorem dX12_chain_75 : decode cX12_chain 75 = .ok (.iload 4, 2) := by decide +kernel
theorem dX12_chain_77 : decode cX12_chain 77 = .ok (.if_icmp .ge 15, 3) := by decide +kernel
theorem dX12_chain_80 : decode cX12_chain 80 = .ok (.aload_n 0, 1) := by decide +kernel
theorem dX12_chain_81 : decode cX12_chain 81 = .ok (.getfield 60, 3) := by decide +kernel
theorem dX12_chain_84 : decode cX12_chain 84 = .ok (.iload 5, 2) := by decide +kernel
theorem dX12_chain_86 : decode cX12_chain 86 = .ok (.iaload, 1) := by decide +kernel
theorem dX12_chain_87 : decode cX12_chain 87 = .ok (.iconst 1, 1) := by decide +kernel
theorem dX12_chain_88 : decode cX12_chain 88 = .ok (.iadd, 1) := by decide +kernel
theorem dX12_chain_89 : decode cX12_chain 89 = .ok (.goto 5, 3) := by decide +kernel
theorem dX12_chain_92 : decode cX12_chain 92 = .ok (.iload 4, 2) := by decide +kernel
theorem dX12_chain_94 : decode cX12_chain 94 = .ok (.istore 4, 2) := by decide +kernel
theorem dX12_chain_96 : decode cX12_chain 96 = .ok (.iinc 5 1, 3) := by decide +kernel
theorem dX12_chain_99 : decode cX12_chain 99 = .ok (.goto (-52), 3) := by decide +kernel
theorem dX12_chain_102 : decode cX12_chain 102 = .ok (.iload 4, 2) := by decide +kernel
theorem dX12_chain_104 : decode cX12_chain 104 = .ok (.bipush 99, 2) := by decide +kernel
theorem dX12_chain_106 : decode cX12_chain 106 = .ok (.if_icmp .eq 14, 3) := by decide +kernel
theorem dX12_chain_109 : decode cX12_chain 109 = .ok (.iload_n 2, 1) := by decide +kernel
theorem dX12_chain_110 : decode cX12_chain 110 = .ok (.iload 4, 2) := by decide +kernel
theorem dX12_chain_112 : decode cX12_chain 112 = .ok (.if_icmp .ge 8, 3) := by decide +kernel
theorem dX12_chain_115 : decode cX12_chain 115 = .ok (.iload_n 2, 1) := by decide +kernel
theorem dX12_chain_116 : decode cX12_chain 116 = .ok (.iconst (-1), 1) := by decide +kernel
theorem dX12_chain_117 : decode cX12_chain 117 = .ok (.if_icmp .ge 5, 3) := by decide +kernel
theorem dX12_chain_120 : decode cX12_chain 120 = .ok (.iconst (-1), 1) := by decide +kernel
theorem dX12_chain_121 : decode cX12_chain 121 = .ok (.ireturn, 1) := by decide +kernel
theorem dX12_chain_122 : decode cX12_chain 122 = .ok (.iload_n 2, 1) := by decide +kernel
theorem dX12_chain_123 : decode cX12_chain 123 = .ok (.iconst (-1), 1) := by decide +kernel
theorem dX12_chain_124 : decode cX12_chain 124 = .ok (.if_icmp .ne 6, 3) := by decide +kernel
theorem dX12_chain_127 : decode cX12_chain 127 = .ok (.iload 4, 2) := by decide +kernel
theorem dX12_chain_129 : decode cX12_chain 129 = .ok (.ireturn, 1) := by decide +kernel
theorem dX12_chain_130 : decode cX12_chain 130 = .ok (.iload 4, 2) := by decide +kernel
theorem dX12_chain_132 : decode cX12_chain 132 = .ok (.istore 5, 2) := by decide +kernel
theorem dX12_chain_134 : decode cX12_chain 134 = .ok (.iconst 0, 1) := by decide +kernel
theorem dX12_chain_135 : decode cX12_chain 135 = .ok (.istore 6, 2) := by decide +kernel
theorem dX12_chain_137 : decode cX12_chain 137 = .ok (.iload 6, 2) := by decide +kernel
theorem dX12_chain_139 : decode cX12_chain 139 = .ok (.iload_n 2, 1) := by decide +kernel
theorem dX12_chain_140 : decode cX12_chain 140 = .ok (.if_icmp .gt 70, 3) := by decide +kernel
theorem dX12_chain_143 : decode cX12_chain 143 = .ok (.iconst (-1), 1) := by decide +kernel
theorem dX12_chain_144 : decode cX12_chain 144 = .ok (.istore 7, 2) := by decide +kernel
theorem dX12_chain_146 : decode cX12_chain 146 = .ok (.aload_n 0, 1) := by decide +kernel
theorem dX12_chain_147 : decode cX12_chain 147 = .ok (.getfield 69, 3) := by decide +kernel
theorem dX12_chain_150 : decode cX12_chain 150 = .ok (.iconst 1, 1) := by decide +kernel
theorem dX12_chain_151 : decode cX12_chain 151 = .ok (.isub, 1) := by decide +kernel
theorem dX12_chain_152 : decode cX12_chain 152 = .ok (.istore 8, 2) := by decide +kernel
theorem dX12_chain_154 : decode cX12_chain 154 = .ok (.iload 8, 2) := by decide +kernel
theorem dX12_chain_156 : decode cX12_chain 156 = .ok (.ifCond .lt 42, 3) := by decide +kernel
theorem dX12_chain_159 : decode cX12_chain 159 = .ok (.aload_n 0, 1) := by decide +kernel
theorem dX12_chain_160 : decode cX12_chain 160 = .ok (.iload_n 3, 1) := by decide +kernel
theorem dX12_chain_161 : decode cX12_chain 161 = .ok (.iload 8, 2) := by decide +kernel
theorem dX12_chain_163 : decode cX12_chain 163 = .ok (.invokevirtual 246, 3) := by decide +kernel
theorem dX12_chain_166 : decode cX12_chain 166 = .ok (.ifCond .eq 22, 3) := by decide +kernel
theorem dX12_chain_169 : decode cX12_chain 169 = .ok (.aload_n 0, 1) := by decide +kernel
theorem dX12_chain_170 : decode cX12_chain 170 = .ok (.getfield 60, 3) := by decide +kernel
theorem dX12_chain_173 : decode cX12_chain 173 = .ok (.iload 8, 2) := by decide +kernel
theorem dX12_chain_175 : decode cX12_chain 175 = .ok (.iaload, 1) := by decide +kernel
theorem dX12_chain_176 : decode cX12_chain 176 = .ok (.iconst 1, 1) := by decide +kernel
theorem dX12_chain_177 : decode cX12_chain 177 = .ok (.iadd, 1) := by decide +kernel
theorem dX12_chain_178 : decode cX12_chain 178 = .ok (.iload 5, 2) := by decide +kernel
theorem dX12_chain_180 : decode cX12_chain 180 = .ok (.if_icmp .ne 8, 3) := by decide +kernel
theorem dX12_chain_183 : decode cX12_chain 183 = .ok (.iload 8, 2) := by decide +kernel
theorem dX12_chain_185 : decode cX12_chain 185 = .ok (.goto 5, 3) := by decide +kernel
theorem dX12_chain_188 : decode cX12_chain 188 = .ok (.iload 7, 2) := by decide +kernel
theorem dX12_chain_190 : decode cX12_chain 190 = .ok (.istore 7, 2) := by decide +kernel
theorem dX12_chain_192 : decode cX12_chain 192 = .ok (.iinc 8 (-1), 3) := by decide +kernel
theorem dX12_chain_195 : decode cX12_chain 195 = .ok (.goto (-41), 3) := by decide +kernel
theorem dX12_chain_198 : decode cX12_chain 198 = .ok (.iload 7, 2) := by decide +kernel
theorem dX12_chain_200 : decode cX12_chain 200 = .ok (.istore_n 3, 1) := by decide +kernel
theorem dX12_chain_201 : decode cX12_chain 201 = .ok (.iinc 5 (-1), 3) := by decide +kernel
theorem dX12_chain_204 : decode cX12_chain 204 = .ok (.iinc 6 1, 3) := by decide +kernel
theorem dX12_chain_207 : decode cX12_chain 207 = .ok (.goto (-70), 3) := by decide +kernel
theorem dX12_chain_210 : decode cX12_chain 210 = .ok (.iload_n 3, 1) := by decide +kernel
theorem dX12_chain_211 : decode cX12_chain 211 = .ok (.ireturn, 1) := by decide +kernel
theorem dX12_pair_0 : decode cX12_pair 0 = .ok (.iload_n 1, 1) := by decide +kernel
theorem dX12_pair_1 : decode cX12_pair 1 = .ok (.iconst 0, 1) := by decide +kernel
theorem dX12_pair_2 : decode cX12_pair 2 = .ok (.iconst 2, 1) := by decide +kernel
theorem dX12_pair_3 : decode cX12_pair 3 = .ok (.invokestatic 72, 3) := by decide +kernel
theorem dX12_pair_6 : decode cX12_pair 6 = .ok (.ifCond .ne 6, 3) := by decide +kernel
theorem dX12_pair_9 : decode cX12_pair 9 = .ok (.ldc 85, 2) := by decide +kernel
theorem dX12_pair_11 : decode cX12_pair 11 = .ok (.ireturn, 1) := by decide +kernel
theorem dX12_pair_12 : decode cX12_pair 12 = .ok (.iconst (-1), 1) := by decide +kernel
theorem dX12_pair_13 : decode cX12_pair 13 = .ok (.istore_n 2, 1) := by decide +kernel
theorem dX12_pair_14 : decode cX12_pair 14 = .ok (.iconst (-1), 1) := by decide +kernel
theorem dX12_pair_15 : decode cX12_pair 15 = .ok (.istore_n 3, 1) := by decide +kernel
theorem dX12_pair_16 : decode cX12_pair 16 = .ok (.iconst (-1), 1) := by decide +kernel
theorem dX12_pair_17 : decode cX12_pair 17 = .ok (.istore 4, 2) := by decide +kernel
theorem dX12_pair_19 : decode cX12_pair 19 = .ok (.iconst 0, 1) := by decide +kernel
theorem dX12_pair_20 : decode cX12_pair 20 = .ok (.istore 5, 2) := by decide +kernel
theorem dX12_pair_22 : decode cX12_pair 22 = .ok (.iload 5, 2) := by decide +kernel
theorem dX12_pair_24 : decode cX12_pair 24 = .ok (.aload_n 0, 1) := by decide +kernel
theorem dX12_pair_25 : decode cX12_pair 25 = .ok (.getfield 69, 3) := by decide +kernel
theorem dX12_pair_28 : decode cX12_pair 28 = .ok (.if_icmp .ge 81, 3) := by decide +kernel
theorem dX12_pair_31 : decode cX12_pair 31 = .ok (.iload 5, 2) := by decide +kernel
theorem dX12_pair_33 : decode cX12_pair 33 = .ok (.iconst 1, 1) := by decide +kernel
theorem dX12_pair_34 : decode cX12_pair 34 = .ok (.iadd, 1) := by decide +kernel
theorem dX12_pair_35 : decode cX12_pair 35 = .ok (.istore 6, 2) := by decide +kernel
theorem dX12_pair_37 : decode cX12_pair 37 = .ok (.iload 6, 2) := by decide +kernel
theorem dX12_pair_39 : decode cX12_pair 39 = .ok (.aload_n 0, 1) := by decide +kernel
theorem dX12_pair_40 : decode cX12_pair 40 = .ok (.getfield 69, 3) := by decide +kernel
theorem dX12_pair_43 : decode cX12_pair 43 = .ok (.if_icmp .ge 60, 3) := by decide +kernel
theorem dX12_pair_46 : decode cX12_pair 46 = .ok (.aload_n 0, 1) := by decide +kernel
theorem dX12_pair_47 : decode cX12_pair 47 = .ok (.aload_n 0, 1) := by decide +kernel
theorem dX12_pair_48 : decode cX12_pair 48 = .ok (.getfield 35, 3) := by decide +kernel
theorem dX12_pair_51 : decode cX12_pair 51 = .ok (.iload 5, 2) := by decide +kernel
theorem dX12_pair_53 : decode cX12_pair 53 = .ok (.invokevirtual 161, 3) := by decide +kernel
theorem dX12_pair_56 : decode cX12_pair 56 = .ok (.aload_n 0, 1) := by decide +kernel
theorem dX12_pair_57 : decode cX12_pair 57 = .ok (.aload_n 0, 1) := by decide +kernel
theorem dX12_pair_58 : decode cX12_pair 58 = .ok (.getfield 35, 3) := by decide +kernel
theorem dX12_pair_61 : decode cX12_pair 61 = .ok (.iload 6, 2) := by decide +kernel
theorem dX12_pair_63 : decode cX12_pair 63 = .ok (.invokevirtual 161, 3) := by decide +kernel
theorem dX12_pair_66 : decode cX12_pair 66 = .ok (.iadd, 1) := by decide +kernel
theorem dX12_pair_67 : decode cX12_pair 67 = .ok (.istore 7, 2) := by decide +kernel
theorem dX12_pair_69 : decode cX12_pair 69 = .ok (.aload_n 0, 1) := by decide +kernel
theorem dX12_pair_70 : decode cX12_pair 70 = .ok (.iload 5, 2) := by decide +kernel
theorem dX12_pair_72 : decode cX12_pair 72 = .ok (.iload 6, 2) := by decide +kernel
theorem dX12_pair_74 : decode cX12_pair 74 = .ok (.invokevirtual 216, 3) := by decide +kernel
theorem dX12_pair_77 : decode cX12_pair 77 = .ok (.ifCond .eq 20, 3) := by decide +kernel
theorem dX12_pair_80 : decode cX12_pair 80 = .ok (.iload 7, 2) := by decide +kernel
theorem dX12_pair_82 : decode cX12_pair 82 = .ok (.iload 4, 2) := by decide +kernel
theorem dX12_pair_84 : decode cX12_pair 84 = .ok (.if_icmp .le 13, 3) := by decide +kernel
theorem dX12_pair_87 : decode cX12_pair 87 = .ok (.iload 5, 2) := by decide +kernel
theorem dX12_pair_89 : decode cX12_pair 89 = .ok (.istore_n 2, 1) := by decide +kernel
theorem dX12_pair_90 : decode cX12_pair 90 = .ok (.iload 6, 2) := by decide +kernel
theorem dX12_pair_92 : decode cX12_pair 92 = .ok (.istore_n 3, 1) := by decide +kernel
theorem dX12_pair_93 : decode cX12_pair 93 = .ok (.iload 7, 2) := by decide +kernel
theorem dX12_pair_95 : decode cX12_pair 95 = .ok (.istore 4, 2) := by decide +kernel
theorem dX12_pair_97 : decode cX12_pair 97 = .ok (.iinc 6 1, 3) := by decide +kernel
theorem dX12_pair_100 : decode cX12_pair 100 = .ok (.goto (-63), 3) := by decide +kernel
theorem dX12_pair_103 : decode cX12_pair 103 = .ok (.iinc 5 1, 3) := by decide +kernel
theorem dX12_pair_106 : decode cX12_pair 106 = .ok (.goto (-84), 3) := by decide +kernel
theorem dX12_pair_109 : decode cX12_pair 109 = .ok (.iload_n 1, 1) := by decide +kernel
theorem dX12_pair_110 : decode cX12_pair 110 = .ok (.ifCond .ne 7, 3) := by decide +kernel
theorem dX12_pair_113 : decode cX12_pair 113 = .ok (.iload_n 2, 1) := by decide +kernel
theorem dX12_pair_114 : decode cX12_pair 114 = .ok (.goto 14, 3) := by decide +kernel
theorem dX12_pair_117 : decode cX12_pair 117 = .ok (.iload_n 1, 1) := by decide +kernel
theorem dX12_pair_118 : decode cX12_pair 118 = .ok (.iconst 1, 1) := by decide +kernel
theorem dX12_pair_119 : decode cX12_pair 119 = .ok (.if_icmp .ne 7, 3) := by decide +kernel
theorem dX12_pair_122 : decode cX12_pair 122 = .ok (.iload_n 3, 1) := by decide +kernel
theorem dX12_pair_123 : decode cX12_pair 123 = .ok (.goto 5, 3) := by decide +kernel
theorem dX12_pair_126 : decode cX12_pair 126 = .ok (.iload 4, 2) := by decide +kernel
theorem dX12_pair_128 : decode cX12_pair 128 = .ok (.ireturn, 1) := by decide +kernel
theorem dX12_owesOf_0 : decode cX12_owesOf 0 = .ok (.iconst 0, 1) := by decide +kernel
theorem dX12_owesOf_1 : decode cX12_owesOf 1 = .ok (.istore_n 2, 1) := by decide +kernel
theorem dX12_owesOf_2 : decode cX12_owesOf 2 = .ok (.iconst 0, 1) := by decide +kernel
theorem dX12_owesOf_3 : decode cX12_owesOf 3 = .ok (.istore_n 3, 1) := by decide +kernel
theorem dX12_owesOf_4 : decode cX12_owesOf 4 = .ok (.iload_n 3, 1) := by decide +kernel
theorem dX12_owesOf_5 : decode cX12_owesOf 5 = .ok (.aload_n 0, 1) := by decide +kernel
theorem dX12_owesOf_6 : decode cX12_owesOf 6 = .ok (.getfield 69, 3) := by decide +kernel
theorem dX12_owesOf_9 : decode cX12_owesOf 9 = .ok (.if_icmp .ge 21, 3) := by decide +kernel
theorem dX12_owesOf_12 : decode cX12_owesOf 12 = .ok (.iload_n 2, 1) := by decide +kernel
theorem dX12_owesOf_13 : decode cX12_owesOf 13 = .ok (.aload_n 0, 1) := by decide +kernel
theorem dX12_owesOf_14 : decode cX12_owesOf 14 = .ok (.getfield 35, 3) := by decide +kernel
theorem dX12_owesOf_17 : decode cX12_owesOf 17 = .ok (.bipush 13, 2) := by decide +kernel
theorem dX12_owesOf_19 : decode cX12_owesOf 19 = .ok (.iload_n 3, 1) := by decide +kernel
theorem dX12_owesOf_20 : decode cX12_owesOf 20 = .ok (.iadd, 1) := by decide +kernel
theorem dX12_owesOf_21 : decode cX12_owesOf 21 = .ok (.iaload, 1) := by decide +kernel
theorem dX12_owesOf_22 : decode cX12_owesOf 22 = .ok (.iadd, 1) := by decide +kernel
theorem dX12_owesOf_23 : decode cX12_owesOf 23 = .ok (.istore_n 2, 1) := by decide +kernel
theorem dX12_owesOf_24 : decode cX12_owesOf 24 = .ok (.iinc 3 1, 3) := by decide +kernel
theorem dX12_owesOf_27 : decode cX12_owesOf 27 = .ok (.goto (-23), 3) := by decide +kernel
theorem dX12_owesOf_30 : decode cX12_owesOf 30 = .ok (.aload_n 0, 1) := by decide +kernel
theorem dX12_owesOf_31 : decode cX12_owesOf 31 = .ok (.getfield 69, 3) := by decide +kernel
theorem dX12_owesOf_34 : decode cX12_owesOf 34 = .ok (.aload_n 0, 1) := by decide +kernel
theorem dX12_owesOf_35 : decode cX12_owesOf 35 = .ok (.getfield 35, 3) := by decide +kernel
theorem dX12_owesOf_38 : decode cX12_owesOf 38 = .ok (.bipush 13, 2) := by decide +kernel
theorem dX12_owesOf_40 : decode cX12_owesOf 40 = .ok (.iload_n 1, 1) := by decide +kernel
theorem dX12_owesOf_41 : decode cX12_owesOf 41 = .ok (.iadd, 1) := by decide +kernel
theorem dX12_owesOf_42 : decode cX12_owesOf 42 = .ok (.iaload, 1) := by decide +kernel
theorem dX12_owesOf_43 : decode cX12_owesOf 43 = .ok (.imul, 1) := by decide +kernel
theorem dX12_owesOf_44 : decode cX12_owesOf 44 = .ok (.iload_n 2, 1) := by decide +kernel
theorem dX12_owesOf_45 : decode cX12_owesOf 45 = .ok (.isub, 1) := by decide +kernel
theorem dX12_owesOf_46 : decode cX12_owesOf 46 = .ok (.ireturn, 1) := by decide +kernel
theorem dX12_owes_0 : decode cX12_owes 0 = .ok (.aload_n 0, 1) := by decide +kernel
theorem dX12_owes_1 : decode cX12_owes 1 = .ok (.iload_n 1, 1) := by decide +kernel
theorem dX12_owes_2 : decode cX12_owes 2 = .ok (.invokevirtual 177, 3) := by decide +kernel
theorem dX12_owes_5 : decode cX12_owes 5 = .ok (.ifCond .eq 11, 3) := by decide +kernel
theorem dX12_owes_8 : decode cX12_owes 8 = .ok (.aload_n 0, 1) := by decide +kernel
theorem dX12_owes_9 : decode cX12_owes 9 = .ok (.iload_n 1, 1) := by decide +kernel
theorem dX12_owes_10 : decode cX12_owes 10 = .ok (.invokevirtual 252, 3) := by decide +kernel
theorem dX12_owes_13 : decode cX12_owes 13 = .ok (.goto 5, 3) := by decide +kernel
theorem dX12_owes_16 : decode cX12_owes 16 = .ok (.ldc 180, 2) := by decide +kernel
theorem dX12_owes_18 : decode cX12_owes 18 = .ok (.ireturn, 1) := by decide +kernel
theorem dX12_payments_0 : decode cX12_payments 0 = .ok (.iconst 0, 1) := by decide +kernel
theorem dX12_payments_1 : decode cX12_payments 1 = .ok (.istore_n 1, 1) := by decide +kernel
theorem dX12_payments_2 : decode cX12_payments 2 = .ok (.iconst 0, 1) := by decide +kernel
theorem dX12_payments_3 : decode cX12_payments 3 = .ok (.istore_n 2, 1) := by decide +kernel
theorem dX12_payments_4 : decode cX12_payments 4 = .ok (.iload_n 2, 1) := by decide +kernel
theorem dX12_payments_5 : decode cX12_payments 5 = .ok (.aload_n 0, 1) := by decide +kernel
theorem dX12_payments_6 : decode cX12_payments 6 = .ok (.getfield 69, 3) := by decide +kernel
theorem dX12_payments_9 : decode cX12_payments 9 = .ok (.if_icmp .ge 25, 3) := by decide +kernel
theorem dX12_payments_12 : decode cX12_payments 12 = .ok (.iload_n 1, 1) := by decide +kernel
theorem dX12_payments_13 : decode cX12_payments 13 = .ok (.aload_n 0, 1) := by decide +kernel
theorem dX12_payments_14 : decode cX12_payments 14 = .ok (.iload_n 2, 1) := by decide +kernel
theorem dX12_payments_15 : decode cX12_payments 15 = .ok (.invokevirtual 252, 3) := by decide +kernel
theorem dX12_payments_18 : decode cX12_payments 18 = .ok (.ifCond .ne 7, 3) := by decide +kernel
theorem dX12_payments_21 : decode cX12_payments 21 = .ok (.iconst 0, 1) := by decide +kernel
theorem dX12_payments_22 : decode cX12_payments 22 = .ok (.goto 4, 3) := by decide +kernel
theorem dX12_payments_25 : decode cX12_payments 25 = .ok (.iconst 1, 1) := by decide +kernel
theorem dX12_payments_26 : decode cX12_payments 26 = .ok (.iadd, 1) := by decide +kernel
theorem dX12_payments_27 : decode cX12_payments 27 = .ok (.istore_n 1, 1) := by decide +kernel
theorem dX12_payments_28 : decode cX12_payments 28 = .ok (.iinc 2 1, 3) := by decide +kernel
theorem dX12_payments_31 : decode cX12_payments 31 = .ok (.goto (-27), 3) := by decide +kernel
theorem dX12_payments_34 : decode cX12_payments 34 = .ok (.iconst 1, 1) := by decide +kernel
theorem dX12_payments_35 : decode cX12_payments 35 = .ok (.aload_n 0, 1) := by decide +kernel
theorem dX12_payments_36 : decode cX12_payments 36 = .ok (.getfield 69, 3) := by decide +kernel
theorem dX12_payments_39 : decode cX12_payments 39 = .ok (.ishl, 1) := by decide +kernel
theorem dX12_payments_40 : decode cX12_payments 40 = .ok (.iconst 1, 1) := by decide +kernel
theorem dX12_payments_41 : decode cX12_payments 41 = .ok (.isub, 1) := by decide +kernel
theorem dX12_payments_42 : decode cX12_payments 42 = .ok (.istore_n 2, 1) := by decide +kernel
theorem dX12_payments_43 : decode cX12_payments 43 = .ok (.iconst 0, 1) := by decide +kernel
theorem dX12_payments_44 : decode cX12_payments 44 = .ok (.istore_n 3, 1) := by decide +kernel
theorem dX12_payments_45 : decode cX12_payments 45 = .ok (.iload_n 3, 1) := by decide +kernel
theorem dX12_payments_46 : decode cX12_payments 46 = .ok (.iload_n 2, 1) := by decide +kernel
theorem dX12_payments_47 : decode cX12_payments 47 = .ok (.if_icmp .gt 184, 3) := by decide +kernel
theorem dX12_payments_50 : decode cX12_payments 50 = .ok (.iconst 0, 1) := by decide +kernel
theorem dX12_payments_51 : decode cX12_payments 51 = .ok (.istore 4, 2) := by decide +kernel
theorem dX12_payments_53 : decode cX12_payments 53 = .ok (.iconst 0, 1) := by decide +kernel
theorem dX12_payments_54 : decode cX12_payments 54 = .ok (.istore 5, 2) := by decide +kernel
theorem dX12_payments_56 : decode cX12_payments 56 = .ok (.iconst 0, 1) := by decide +kernel
theorem dX12_payments_57 : decode cX12_payments 57 = .ok (.istore 6, 2) := by decide +kernel
theorem dX12_payments_59 : decode cX12_payments 59 = .ok (.iload 6, 2) := by decide +kernel
theorem dX12_payments_61 : decode cX12_payments 61 = .ok (.aload_n 0, 1) := by decide +kernel
theorem dX12_payments_62 : decode cX12_payments 62 = .ok (.getfield 69, 3) := by decide +kernel
theorem dX12_payments_65 : decode cX12_payments 65 = .ok (.if_icmp .ge 80, 3) := by decide +kernel
theorem dX12_payments_68 : decode cX12_payments 68 = .ok (.iload 4, 2) := by decide +kernel
theorem dX12_payments_70 : decode cX12_payments 70 = .ok (.iload_n 3, 1) := by decide +kernel
theorem dX12_payments_71 : decode cX12_payments 71 = .ok (.iload 6, 2) := by decide +kernel
theorem dX12_payments_73 : decode cX12_payments 73 = .ok (.invokestatic 192, 3) := by decide +kernel
theorem dX12_payments_76 : decode cX12_payments 76 = .ok (.ifCond .eq 12, 3) := by decide +kernel
theorem dX12_payments_79 : decode cX12_payments 79 = .ok (.aload_n 0, 1) := by decide +kernel
theorem dX12_payments_80 : decode cX12_payments 80 = .ok (.iload 6, 2) := by decide +kernel
theorem dX12_payments_82 : decode cX12_payments 82 = .ok (.invokevirtual 252, 3) := by decide +kernel
theorem dX12_payments_85 : decode cX12_payments 85 = .ok (.goto 4, 3) := by decide +kernel
theorem dX12_payments_88 : decode cX12_payments 88 = .ok (.iconst 0, 1) := by decide +kernel
theorem dX12_payments_89 : decode cX12_payments 89 = .ok (.iadd, 1) := by decide +kernel
theorem dX12_payments_90 : decode cX12_payments 90 = .ok (.istore 4, 2) := by decide +kernel
theorem dX12_payments_92 : decode cX12_payments 92 = .ok (.iload_n 3, 1) := by decide +kernel
theorem dX12_payments_93 : decode cX12_payments 93 = .ok (.iload 6, 2) := by decide +kernel
theorem dX12_payments_95 : decode cX12_payments 95 = .ok (.invokestatic 192, 3) := by decide +kernel
theorem dX12_payments_98 : decode cX12_payments 98 = .ok (.ifCond .eq 37, 3) := by decide +kernel
theorem dX12_payments_101 : decode cX12_payments 101 = .ok (.aload_n 0, 1) := by decide +kernel
theorem dX12_payments_102 : decode cX12_payments 102 = .ok (.getfield 63, 3) := by decide +kernel
theorem dX12_payments_105 : decode cX12_payments 105 = .ok (.iload_n 3, 1) := by decide +kernel
theorem dX12_payments_106 : decode cX12_payments 106 = .ok (.iconst 1, 1) := by decide +kernel
theorem dX12_payments_107 : decode cX12_payments 107 = .ok (.iload 6, 2) := by decide +kernel
theorem dX12_payments_109 : decode cX12_payments 109 = .ok (.ishl, 1) := by decide +kernel
theorem dX12_payments_110 : decode cX12_payments 110 = .ok (.iconst (-1), 1) := by decide +kernel
theorem dX12_payments_111 : decode cX12_payments 111 = .ok (.ixor, 1) := by decide +kernel
theorem dX12_payments_112 : decode cX12_payments 112 = .ok (.iand, 1) := by decide +kernel
theorem dX12_payments_113 : decode cX12_payments 113 = .ok (.iaload, 1) := by decide +kernel
theorem dX12_payments_114 : decode cX12_payments 114 = .ok (.iload 5, 2) := by decide +kernel
theorem dX12_payments_116 : decode cX12_payments 116 = .ok (.if_icmp .le 19, 3) := by decide +kernel
theorem dX12_payments_119 : decode cX12_payments 119 = .ok (.aload_n 0, 1) := by decide +kernel
theorem dX12_payments_120 : decode cX12_payments 120 = .ok (.getfield 63, 3) := by decide +kernel
theorem dX12_payments_123 : decode cX12_payments 123 = .ok (.iload_n 3, 1) := by decide +kernel
theorem dX12_payments_124 : decode cX12_payments 124 = .ok (.iconst 1, 1) := by decide +kernel
theorem dX12_payments_125 : decode cX12_payments 125 = .ok (.iload 6, 2) := by decide +kernel
theorem dX12_payments_127 : decode cX12_payments 127 = .ok (.ishl, 1) := by decide +kernel
theorem dX12_payments_128 : decode cX12_payments 128 = .ok (.iconst (-1), 1) := by decide +kernel
theorem dX12_payments_129 : decode cX12_payments 129 = .ok (.ixor, 1) := by decide +kernel
theorem dX12_payments_130 : decode cX12_payments 130 = .ok (.iand, 1) := by decide +kernel
theorem dX12_payments_131 : decode cX12_payments 131 = .ok (.iaload, 1) := by decide +kernel
theorem dX12_payments_132 : decode cX12_payments 132 = .ok (.goto 5, 3) := by decide +kernel
theorem dX12_payments_135 : decode cX12_payments 135 = .ok (.iload 5, 2) := by decide +kernel
theorem dX12_payments_137 : decode cX12_payments 137 = .ok (.istore 5, 2) := by decide +kernel
theorem dX12_payments_139 : decode cX12_payments 139 = .ok (.iinc 6 1, 3) := by decide +kernel
theorem dX12_payments_142 : decode cX12_payments 142 = .ok (.goto (-83), 3) := by decide +kernel
theorem dX12_payments_145 : decode cX12_payments 145 = .ok (.iconst 0, 1) := by decide +kernel
theorem dX12_payments_146 : decode cX12_payments 146 = .ok (.istore 6, 2) := by decide +kernel
theorem dX12_payments_148 : decode cX12_payments 148 = .ok (.iconst 0, 1) := by decide +kernel
theorem dX12_payments_149 : decode cX12_payments 149 = .ok (.istore 7, 2) := by decide +kernel
theorem dX12_payments_151 : decode cX12_payments 151 = .ok (.iload 7, 2) := by decide +kernel
theorem dX12_payments_153 : decode cX12_payments 153 = .ok (.aload_n 0, 1) := by decide +kernel
theorem dX12_payments_154 : decode cX12_payments 154 = .ok (.getfield 69, 3) := by decide +kernel
theorem dX12_payments_157 : decode cX12_payments 157 = .ok (.if_icmp .ge 39, 3) := by decide +kernel
theorem dX12_payments_160 : decode cX12_payments 160 = .ok (.iload 6, 2) := by decide +kernel
theorem dX12_payments_162 : decode cX12_payments 162 = .ok (.ifCond .ne 21, 3) := by decide +kernel
theorem dX12_payments_165 : decode cX12_payments 165 = .ok (.iload_n 3, 1) := by decide +kernel
theorem dX12_payments_166 : decode cX12_payments 166 = .ok (.iload 7, 2) := by decide +kernel
theorem dX12_payments_168 : decode cX12_payments 168 = .ok (.invokestatic 192, 3) := by decide +kernel
theorem dX12_payments_171 : decode cX12_payments 171 = .ok (.ifCond .eq 16, 3) := by decide +kernel
theorem dX12_payments_174 : decode cX12_payments 174 = .ok (.aload_n 0, 1) := by decide +kernel
theorem dX12_payments_175 : decode cX12_payments 175 = .ok (.iload 7, 2) := by decide +kernel
theorem dX12_payments_177 : decode cX12_payments 177 = .ok (.invokevirtual 252, 3) := by decide +kernel
theorem dX12_payments_180 : decode cX12_payments 180 = .ok (.ifCond .ne 7, 3) := by decide +kernel
theorem dX12_payments_183 : decode cX12_payments 183 = .ok (.iconst 1, 1) := by decide +kernel
theorem dX12_payments_184 : decode cX12_payments 184 = .ok (.goto 4, 3) := by decide +kernel
theorem dX12_payments_187 : decode cX12_payments 187 = .ok (.iconst 0, 1) := by decide +kernel
theorem dX12_payments_188 : decode cX12_payments 188 = .ok (.istore 6, 2) := by decide +kernel
theorem dX12_payments_190 : decode cX12_payments 190 = .ok (.iinc 7 1, 3) := by decide +kernel
theorem dX12_payments_193 : decode cX12_payments 193 = .ok (.goto (-42), 3) := by decide +kernel
theorem dX12_payments_196 : decode cX12_payments 196 = .ok (.aload_n 0, 1) := by decide +kernel
theorem dX12_payments_197 : decode cX12_payments 197 = .ok (.getfield 63, 3) := by decide +kernel
theorem dX12_payments_200 : decode cX12_payments 200 = .ok (.iload_n 3, 1) := by decide +kernel
theorem dX12_payments_201 : decode cX12_payments 201 = .ok (.iload 4, 2) := by decide +kernel
theorem dX12_payments_203 : decode cX12_payments 203 = .ok (.ifCond .ne 19, 3) := by decide +kernel
theorem dX12_payments_206 : decode cX12_payments 206 = .ok (.iload_n 3, 1) := by decide +kernel
theorem dX12_payments_207 : decode cX12_payments 207 = .ok (.ifCond .eq 15, 3) := by decide +kernel
theorem dX12_payments_210 : decode cX12_payments 210 = .ok (.iload 6, 2) := by decide +kernel
theorem dX12_payments_212 : decode cX12_payments 212 = .ok (.ifCond .ne 10, 3) := by decide +kernel
theorem dX12_payments_215 : decode cX12_payments 215 = .ok (.iload 5, 2) := by decide +kernel
theorem dX12_payments_217 : decode cX12_payments 217 = .ok (.iconst 1, 1) := by decide +kernel
theorem dX12_payments_218 : decode cX12_payments 218 = .ok (.iadd, 1) := by decide +kernel
theorem dX12_payments_219 : decode cX12_payments 219 = .ok (.goto 5, 3) := by decide +kernel
theorem dX12_payments_222 : decode cX12_payments 222 = .ok (.iload 5, 2) := by decide +kernel
theorem dX12_payments_224 : decode cX12_payments 224 = .ok (.iastore, 1) := by decide +kernel
theorem dX12_payments_225 : decode cX12_payments 225 = .ok (.iinc 3 1, 3) := by decide +kernel
theorem dX12_payments_228 : decode cX12_payments 228 = .ok (.goto (-183), 3) := by decide +kernel
theorem dX12_payments_231 : decode cX12_payments 231 = .ok (.iload_n 2, 1) := by decide +kernel
theorem dX12_payments_232 : decode cX12_payments 232 = .ok (.istore_n 3, 1) := by decide +kernel
theorem dX12_payments_233 : decode cX12_payments 233 = .ok (.iconst 0, 1) := by decide +kernel
theorem dX12_payments_234 : decode cX12_payments 234 = .ok (.istore 4, 2) := by decide +kernel
theorem dX12_payments_236 : decode cX12_payments 236 = .ok (.iload 4, 2) := by decide +kernel
theorem dX12_payments_238 : decode cX12_payments 238 = .ok (.aload_n 0, 1) := by decide +kernel
theorem dX12_payments_239 : decode cX12_payments 239 = .ok (.getfield 69, 3) := by decide +kernel
theorem dX12_payments_242 : decode cX12_payments 242 = .ok (.if_icmp .ge 31, 3) := by decide +kernel
theorem dX12_payments_245 : decode cX12_payments 245 = .ok (.aload_n 0, 1) := by decide +kernel
theorem dX12_payments_246 : decode cX12_payments 246 = .ok (.iload 4, 2) := by decide +kernel
theorem dX12_payments_248 : decode cX12_payments 248 = .ok (.invokevirtual 252, 3) := by decide +kernel
theorem dX12_payments_251 : decode cX12_payments 251 = .ok (.ifCond .ne 14, 3) := by decide +kernel
theorem dX12_payments_254 : decode cX12_payments 254 = .ok (.iload_n 3, 1) := by decide +kernel
theorem dX12_payments_255 : decode cX12_payments 255 = .ok (.iconst 1, 1) := by decide +kernel
theorem dX12_payments_256 : decode cX12_payments 256 = .ok (.iload 4, 2) := by decide +kernel
theorem dX12_payments_258 : decode cX12_payments 258 = .ok (.ishl, 1) := by decide +kernel
theorem dX12_payments_259 : decode cX12_payments 259 = .ok (.iconst (-1), 1) := by decide +kernel
theorem dX12_payments_260 : decode cX12_payments 260 = .ok (.ixor, 1) := by decide +kernel
theorem dX12_payments_261 : decode cX12_payments 261 = .ok (.iand, 1) := by decide +kernel
theorem dX12_payments_262 : decode cX12_payments 262 = .ok (.goto 4, 3) := by decide +kernel
theorem dX12_payments_265 : decode cX12_payments 265 = .ok (.iload_n 3, 1) := by decide +kernel
theorem dX12_payments_266 : decode cX12_payments 266 = .ok (.istore_n 3, 1) := by decide +kernel
theorem dX12_payments_267 : decode cX12_payments 267 = .ok (.iinc 4 1, 3) := by decide +kernel
theorem dX12_payments_270 : decode cX12_payments 270 = .ok (.goto (-34), 3) := by decide +kernel
theorem dX12_payments_273 : decode cX12_payments 273 = .ok (.iload_n 1, 1) := by decide +kernel
theorem dX12_payments_274 : decode cX12_payments 274 = .ok (.aload_n 0, 1) := by decide +kernel
theorem dX12_payments_275 : decode cX12_payments 275 = .ok (.getfield 63, 3) := by decide +kernel
theorem dX12_payments_278 : decode cX12_payments 278 = .ok (.iload_n 3, 1) := by decide +kernel
theorem dX12_payments_279 : decode cX12_payments 279 = .ok (.iaload, 1) := by decide +kernel
theorem dX12_payments_280 : decode cX12_payments 280 = .ok (.isub, 1) := by decide +kernel
theorem dX12_payments_281 : decode cX12_payments 281 = .ok (.ireturn, 1) := by decide +kernel
theorem dX12_sons_0 : decode cX12_sons 0 = .ok (.aload_n 0, 1) := by decide +kernel
theorem dX12_sons_1 : decode cX12_sons 1 = .ok (.iload_n 1, 1) := by decide +kernel
theorem dX12_sons_2 : decode cX12_sons 2 = .ok (.invokevirtual 177, 3) := by decide +kernel
theorem dX12_sons_5 : decode cX12_sons 5 = .ok (.ifCond .ne 6, 3) := by decide +kernel
theorem dX12_sons_8 : decode cX12_sons 8 = .ok (.ldc 180, 2) := by decide +kernel
theorem dX12_sons_10 : decode cX12_sons 10 = .ok (.ireturn, 1) := by decide +kernel
theorem dX12_sons_11 : decode cX12_sons 11 = .ok (.iconst 0, 1) := by decide +kernel
theorem dX12_sons_12 : decode cX12_sons 12 = .ok (.istore_n 2, 1) := by decide +kernel
theorem dX12_sons_13 : decode cX12_sons 13 = .ok (.iconst 0, 1) := by decide +kernel
theorem dX12_sons_14 : decode cX12_sons 14 = .ok (.istore_n 3, 1) := by decide +kernel
theorem dX12_sons_15 : decode cX12_sons 15 = .ok (.iload_n 3, 1) := by decide +kernel
theorem dX12_sons_16 : decode cX12_sons 16 = .ok (.aload_n 0, 1) := by decide +kernel
theorem dX12_sons_17 : decode cX12_sons 17 = .ok (.getfield 69, 3) := by decide +kernel
theorem dX12_sons_20 : decode cX12_sons 20 = .ok (.if_icmp .ge 53, 3) := by decide +kernel
theorem dX12_sons_23 : decode cX12_sons 23 = .ok (.iload_n 3, 1) := by decide +kernel
theorem dX12_sons_24 : decode cX12_sons 24 = .ok (.istore 4, 2) := by decide +kernel
theorem dX12_sons_26 : decode cX12_sons 26 = .ok (.iload 4, 2) := by decide +kernel
theorem dX12_sons_28 : decode cX12_sons 28 = .ok (.iconst (-1), 1) := by decide +kernel
theorem dX12_sons_29 : decode cX12_sons 29 = .ok (.if_icmp .eq 20, 3) := by decide +kernel
theorem dX12_sons_32 : decode cX12_sons 32 = .ok (.iload 4, 2) := by decide +kernel
theorem dX12_sons_34 : decode cX12_sons 34 = .ok (.iload_n 1, 1) := by decide +kernel
theorem dX12_sons_35 : decode cX12_sons 35 = .ok (.if_icmp .eq 14, 3) := by decide +kernel
theorem dX12_sons_38 : decode cX12_sons 38 = .ok (.aload_n 0, 1) := by decide +kernel
theorem dX12_sons_39 : decode cX12_sons 39 = .ok (.iload 4, 2) := by decide +kernel
theorem dX12_sons_41 : decode cX12_sons 41 = .ok (.invokevirtual 206, 3) := by decide +kernel
theorem dX12_sons_44 : decode cX12_sons 44 = .ok (.istore 4, 2) := by decide +kernel
theorem dX12_sons_46 : decode cX12_sons 46 = .ok (.goto (-20), 3) := by decide +kernel
theorem dX12_sons_49 : decode cX12_sons 49 = .ok (.iload_n 2, 1) := by decide +kernel
theorem dX12_sons_50 : decode cX12_sons 50 = .ok (.iload 4, 2) := by decide +kernel
theorem dX12_sons_52 : decode cX12_sons 52 = .ok (.iload_n 1, 1) := by decide +kernel
theorem dX12_sons_53 : decode cX12_sons 53 = .ok (.if_icmp .ne 11, 3) := by decide +kernel
theorem dX12_sons_56 : decode cX12_sons 56 = .ok (.aload_n 0, 1) := by decide +kernel
theorem dX12_sons_57 : decode cX12_sons 57 = .ok (.iload_n 3, 1) := by decide +kernel
theorem dX12_sons_58 : decode cX12_sons 58 = .ok (.invokevirtual 252, 3) := by decide +kernel
theorem dX12_sons_61 : decode cX12_sons 61 = .ok (.goto 4, 3) := by decide +kernel
theorem dX12_sons_64 : decode cX12_sons 64 = .ok (.iconst 0, 1) := by decide +kernel
theorem dX12_sons_65 : decode cX12_sons 65 = .ok (.iadd, 1) := by decide +kernel
theorem dX12_sons_66 : decode cX12_sons 66 = .ok (.istore_n 2, 1) := by decide +kernel
theorem dX12_sons_67 : decode cX12_sons 67 = .ok (.iinc 3 1, 3) := by decide +kernel
theorem dX12_sons_70 : decode cX12_sons 70 = .ok (.goto (-55), 3) := by decide +kernel
theorem dX12_sons_73 : decode cX12_sons 73 = .ok (.iload_n 2, 1) := by decide +kernel
theorem dX12_sons_74 : decode cX12_sons 74 = .ok (.ireturn, 1) := by decide +kernel
theorem dX12_words_0 : decode cX12_words 0 = .ok (.iload_n 1, 1) := by decide +kernel
theorem dX12_words_1 : decode cX12_words 1 = .ok (.iconst 0, 1) := by decide +kernel
theorem dX12_words_2 : decode cX12_words 2 = .ok (.bipush 9, 2) := by decide +kernel
theorem dX12_words_4 : decode cX12_words 4 = .ok (.invokestatic 72, 3) := by decide +kernel
theorem dX12_words_7 : decode cX12_words 7 = .ok (.ifCond .eq 44, 3) := by decide +kernel
theorem dX12_words_10 : decode cX12_words 10 = .ok (.iload_n 2, 1) := by decide +kernel
theorem dX12_words_11 : decode cX12_words 11 = .ok (.iconst 0, 1) := by decide +kernel
theorem dX12_words_12 : decode cX12_words 12 = .ok (.bipush 9, 2) := by decide +kernel
theorem dX12_words_14 : decode cX12_words 14 = .ok (.invokestatic 72, 3) := by decide +kernel
theorem dX12_words_17 : decode cX12_words 17 = .ok (.ifCond .eq 34, 3) := by decide +kernel
theorem dX12_words_20 : decode cX12_words 20 = .ok (.iload_n 3, 1) := by decide +kernel
theorem dX12_words_21 : decode cX12_words 21 = .ok (.iconst 0, 1) := by decide +kernel
theorem dX12_words_22 : decode cX12_words 22 = .ok (.bipush 9, 2) := by decide +kernel
theorem dX12_words_24 : decode cX12_words 24 = .ok (.invokestatic 72, 3) := by decide +kernel
theorem dX12_words_27 : decode cX12_words 27 = .ok (.ifCond .eq 24, 3) := by decide +kernel
theorem dX12_words_30 : decode cX12_words 30 = .ok (.iload 4, 2) := by decide +kernel
theorem dX12_words_32 : decode cX12_words 32 = .ok (.iconst 0, 1) := by decide +kernel
theorem dX12_words_33 : decode cX12_words 33 = .ok (.bipush 9, 2) := by decide +kernel
theorem dX12_words_35 : decode cX12_words 35 = .ok (.invokestatic 72, 3) := by decide +kernel
theorem dX12_words_38 : decode cX12_words 38 = .ok (.ifCond .eq 13, 3) := by decide +kernel
theorem dX12_words_41 : decode cX12_words 41 = .ok (.iload 5, 2) := by decide +kernel
theorem dX12_words_43 : decode cX12_words 43 = .ok (.iconst 0, 1) := by decide +kernel
theorem dX12_words_44 : decode cX12_words 44 = .ok (.iconst 3, 1) := by decide +kernel
theorem dX12_words_45 : decode cX12_words 45 = .ok (.invokestatic 72, 3) := by decide +kernel
theorem dX12_words_48 : decode cX12_words 48 = .ok (.ifCond .ne 6, 3) := by decide +kernel
theorem dX12_words_51 : decode cX12_words 51 = .ok (.ldc 85, 2) := by decide +kernel
theorem dX12_words_53 : decode cX12_words 53 = .ok (.ireturn, 1) := by decide +kernel
theorem dX12_words_54 : decode cX12_words 54 = .ok (.iconst 0, 1) := by decide +kernel
theorem dX12_words_55 : decode cX12_words 55 = .ok (.istore 6, 2) := by decide +kernel
theorem dX12_words_57 : decode cX12_words 57 = .ok (.iconst 1, 1) := by decide +kernel
theorem dX12_words_58 : decode cX12_words 58 = .ok (.istore 7, 2) := by decide +kernel
theorem dX12_words_60 : decode cX12_words 60 = .ok (.iload_n 3, 1) := by decide +kernel
theorem dX12_words_61 : decode cX12_words 61 = .ok (.iload 4, 2) := by decide +kernel
theorem dX12_words_63 : decode cX12_words 63 = .ok (.if_icmp .ge 7, 3) := by decide +kernel
theorem dX12_words_66 : decode cX12_words 66 = .ok (.iload_n 3, 1) := by decide +kernel
theorem dX12_words_67 : decode cX12_words 67 = .ok (.goto 5, 3) := by decide +kernel
theorem dX12_words_70 : decode cX12_words 70 = .ok (.iload 4, 2) := by decide +kernel
theorem dX12_words_72 : decode cX12_words 72 = .ok (.istore 8, 2) := by decide +kernel
theorem dX12_words_74 : decode cX12_words 74 = .ok (.iconst 1, 1) := by decide +kernel
theorem dX12_words_75 : decode cX12_words 75 = .ok (.istore 9, 2) := by decide +kernel
theorem dX12_words_77 : decode cX12_words 77 = .ok (.iload_n 1, 1) := by decide +kernel
theorem dX12_words_78 : decode cX12_words 78 = .ok (.iload_n 3, 1) := by decide +kernel
theorem dX12_words_79 : decode cX12_words 79 = .ok (.isub, 1) := by decide +kernel
theorem dX12_words_80 : decode cX12_words 80 = .ok (.iload_n 2, 1) := by decide +kernel
theorem dX12_words_81 : decode cX12_words 81 = .ok (.isub, 1) := by decide +kernel
theorem dX12_words_82 : decode cX12_words 82 = .ok (.iload 4, 2) := by decide +kernel
theorem dX12_words_84 : decode cX12_words 84 = .ok (.iadd, 1) := by decide +kernel
theorem dX12_words_85 : decode cX12_words 85 = .ok (.istore 10, 2) := by decide +kernel
theorem dX12_words_87 : decode cX12_words 87 = .ok (.iload 4, 2) := by decide +kernel
theorem dX12_words_89 : decode cX12_words 89 = .ok (.iload_n 3, 1) := by decide +kernel
theorem dX12_words_90 : decode cX12_words 90 = .ok (.isub, 1) := by decide +kernel
theorem dX12_words_91 : decode cX12_words 91 = .ok (.istore 11, 2) := by decide +kernel
theorem dX12_words_93 : decode cX12_words 93 = .ok (.iload 10, 2) := by decide +kernel
theorem dX12_words_95 : decode cX12_words 95 = .ok (.ifCond .ge 13, 3) := by decide +kernel
theorem dX12_words_98 : decode cX12_words 98 = .ok (.iload 10, 2) := by decide +kernel
theorem dX12_words_100 : decode cX12_words 100 = .ok (.ineg, 1) := by decide +kernel
theorem dX12_words_101 : decode cX12_words 101 = .ok (.istore 10, 2) := by decide +kernel
theorem dX12_words_103 : decode cX12_words 103 = .ok (.iload 11, 2) := by decide +kernel
theorem dX12_words_105 : decode cX12_words 105 = .ok (.ineg, 1) := by decide +kernel
theorem dX12_words_106 : decode cX12_words 106 = .ok (.istore 11, 2) := by decide +kernel
theorem dX12_words_108 : decode cX12_words 108 = .ok (.iload 10, 2) := by decide +kernel
theorem dX12_words_110 : decode cX12_words 110 = .ok (.ifCond .le 54, 3) := by decide +kernel
theorem dX12_words_113 : decode cX12_words 113 = .ok (.iload 11, 2) := by decide +kernel
theorem dX12_words_115 : decode cX12_words 115 = .ok (.ifCond .le 49, 3) := by decide +kernel
theorem dX12_words_118 : decode cX12_words 118 = .ok (.iload 11, 2) := by decide +kernel
theorem dX12_words_120 : decode cX12_words 120 = .ok (.iload 10, 2) := by decide +kernel
theorem dX12_words_122 : decode cX12_words 122 = .ok (.if_icmp .ge 42, 3) := by decide +kernel
theorem dX12_words_125 : decode cX12_words 125 = .ok (.iload_n 3, 1) := by decide +kernel
theorem dX12_words_126 : decode cX12_words 126 = .ok (.iload 10, 2) := by decide +kernel
theorem dX12_words_128 : decode cX12_words 128 = .ok (.imul, 1) := by decide +kernel
theorem dX12_words_129 : decode cX12_words 129 = .ok (.iload 11, 2) := by decide +kernel
theorem dX12_words_131 : decode cX12_words 131 = .ok (.iload_n 1, 1) := by decide +kernel
theorem dX12_words_132 : decode cX12_words 132 = .ok (.iload_n 3, 1) := by decide +kernel
theorem dX12_words_133 : decode cX12_words 133 = .ok (.isub, 1) := by decide +kernel
theorem dX12_words_134 : decode cX12_words 134 = .ok (.imul, 1) := by decide +kernel
theorem dX12_words_135 : decode cX12_words 135 = .ok (.iadd, 1) := by decide +kernel
theorem dX12_words_136 : decode cX12_words 136 = .ok (.istore 12, 2) := by decide +kernel
theorem dX12_words_138 : decode cX12_words 138 = .ok (.iload 12, 2) := by decide +kernel
theorem dX12_words_140 : decode cX12_words 140 = .ok (.iload 8, 2) := by decide +kernel
theorem dX12_words_142 : decode cX12_words 142 = .ok (.iload 10, 2) := by decide +kernel
theorem dX12_words_144 : decode cX12_words 144 = .ok (.imul, 1) := by decide +kernel
theorem dX12_words_145 : decode cX12_words 145 = .ok (.if_icmp .le 19, 3) := by decide +kernel
theorem dX12_words_148 : decode cX12_words 148 = .ok (.iload 11, 2) := by decide +kernel
theorem dX12_words_150 : decode cX12_words 150 = .ok (.istore 6, 2) := by decide +kernel
theorem dX12_words_152 : decode cX12_words 152 = .ok (.iload 10, 2) := by decide +kernel
theorem dX12_words_154 : decode cX12_words 154 = .ok (.istore 7, 2) := by decide +kernel
theorem dX12_words_156 : decode cX12_words 156 = .ok (.iload 12, 2) := by decide +kernel
theorem dX12_words_158 : decode cX12_words 158 = .ok (.istore 8, 2) := by decide +kernel
theorem dX12_words_160 : decode cX12_words 160 = .ok (.iload 10, 2) := by decide +kernel
theorem dX12_words_162 : decode cX12_words 162 = .ok (.istore 9, 2) := by decide +kernel
theorem dX12_words_164 : decode cX12_words 164 = .ok (.iload_n 1, 1) := by decide +kernel
theorem dX12_words_165 : decode cX12_words 165 = .ok (.iload_n 2, 1) := by decide +kernel
theorem dX12_words_166 : decode cX12_words 166 = .ok (.if_icmp .ge 7, 3) := by decide +kernel
theorem dX12_words_169 : decode cX12_words 169 = .ok (.iload_n 1, 1) := by decide +kernel
theorem dX12_words_170 : decode cX12_words 170 = .ok (.goto 4, 3) := by decide +kernel
theorem dX12_words_173 : decode cX12_words 173 = .ok (.iload_n 2, 1) := by decide +kernel
theorem dX12_words_174 : decode cX12_words 174 = .ok (.istore 12, 2) := by decide +kernel
theorem dX12_words_176 : decode cX12_words 176 = .ok (.iload 12, 2) := by decide +kernel
theorem dX12_words_178 : decode cX12_words 178 = .ok (.iload 9, 2) := by decide +kernel
theorem dX12_words_180 : decode cX12_words 180 = .ok (.imul, 1) := by decide +kernel
theorem dX12_words_181 : decode cX12_words 181 = .ok (.iload 8, 2) := by decide +kernel
theorem dX12_words_183 : decode cX12_words 183 = .ok (.if_icmp .le 16, 3) := by decide +kernel
theorem dX12_words_186 : decode cX12_words 186 = .ok (.iconst 1, 1) := by decide +kernel
theorem dX12_words_187 : decode cX12_words 187 = .ok (.istore 6, 2) := by decide +kernel
theorem dX12_words_189 : decode cX12_words 189 = .ok (.iconst 1, 1) := by decide +kernel
theorem dX12_words_190 : decode cX12_words 190 = .ok (.istore 7, 2) := by decide +kernel
theorem dX12_words_192 : decode cX12_words 192 = .ok (.iload 12, 2) := by decide +kernel
theorem dX12_words_194 : decode cX12_words 194 = .ok (.istore 8, 2) := by decide +kernel
theorem dX12_words_196 : decode cX12_words 196 = .ok (.iconst 1, 1) := by decide +kernel
theorem dX12_words_197 : decode cX12_words 197 = .ok (.istore 9, 2) := by decide +kernel
theorem dX12_words_199 : decode cX12_words 199 = .ok (.iload 5, 2) := by decide +kernel
theorem dX12_words_201 : decode cX12_words 201 = .ok (.iconst 2, 1) := by decide +kernel
theorem dX12_words_202 : decode cX12_words 202 = .ok (.if_icmp .ge 8, 3) := by decide +kernel
theorem dX12_words_205 : decode cX12_words 205 = .ok (.iload 8, 2) := by decide +kernel
theorem dX12_words_207 : decode cX12_words 207 = .ok (.goto 5, 3) := by decide +kernel
theorem dX12_words_210 : decode cX12_words 210 = .ok (.iload 6, 2) := by decide +kernel
theorem dX12_words_212 : decode cX12_words 212 = .ok (.istore 13, 2) := by decide +kernel
theorem dX12_words_214 : decode cX12_words 214 = .ok (.iload 5, 2) := by decide +kernel
theorem dX12_words_216 : decode cX12_words 216 = .ok (.iconst 2, 1) := by decide +kernel
theorem dX12_words_217 : decode cX12_words 217 = .ok (.if_icmp .ge 8, 3) := by decide +kernel
theorem dX12_words_220 : decode cX12_words 220 = .ok (.iload 9, 2) := by decide +kernel
theorem dX12_words_222 : decode cX12_words 222 = .ok (.goto 5, 3) := by decide +kernel
theorem dX12_words_225 : decode cX12_words 225 = .ok (.iload 7, 2) := by decide +kernel
theorem dX12_words_227 : decode cX12_words 227 = .ok (.istore 14, 2) := by decide +kernel
theorem dX12_words_229 : decode cX12_words 229 = .ok (.iload 14, 2) := by decide +kernel
theorem dX12_words_231 : decode cX12_words 231 = .ok (.istore 15, 2) := by decide +kernel
theorem dX12_words_233 : decode cX12_words 233 = .ok (.iload 13, 2) := by decide +kernel
theorem dX12_words_235 : decode cX12_words 235 = .ok (.istore 16, 2) := by decide +kernel
theorem dX12_words_237 : decode cX12_words 237 = .ok (.iload 16, 2) := by decide +kernel
theorem dX12_words_239 : decode cX12_words 239 = .ok (.ifCond .eq 21, 3) := by decide +kernel
theorem dX12_words_242 : decode cX12_words 242 = .ok (.iload 15, 2) := by decide +kernel
theorem dX12_words_244 : decode cX12_words 244 = .ok (.iload 16, 2) := by decide +kernel
theorem dX12_words_246 : decode cX12_words 246 = .ok (.irem, 1) := by decide +kernel
theorem dX12_words_247 : decode cX12_words 247 = .ok (.istore 17, 2) := by decide +kernel
theorem dX12_words_249 : decode cX12_words 249 = .ok (.iload 16, 2) := by decide +kernel
theorem dX12_words_251 : decode cX12_words 251 = .ok (.istore 15, 2) := by decide +kernel
theorem dX12_words_253 : decode cX12_words 253 = .ok (.iload 17, 2) := by decide +kernel
theorem dX12_words_255 : decode cX12_words 255 = .ok (.istore 16, 2) := by decide +kernel
theorem dX12_words_257 : decode cX12_words 257 = .ok (.goto (-20), 3) := by decide +kernel
theorem dX12_words_260 : decode cX12_words 260 = .ok (.iload 5, 2) := by decide +kernel
theorem dX12_words_262 : decode cX12_words 262 = .ok (.iconst 2, 1) := by decide +kernel
theorem dX12_words_263 : decode cX12_words 263 = .ok (.irem, 1) := by decide +kernel
theorem dX12_words_264 : decode cX12_words 264 = .ok (.ifCond .ne 8, 3) := by decide +kernel
theorem dX12_words_267 : decode cX12_words 267 = .ok (.iload 13, 2) := by decide +kernel
theorem dX12_words_269 : decode cX12_words 269 = .ok (.goto 5, 3) := by decide +kernel
theorem dX12_words_272 : decode cX12_words 272 = .ok (.iload 14, 2) := by decide +kernel
theorem dX12_words_274 : decode cX12_words 274 = .ok (.iload 15, 2) := by decide +kernel
theorem dX12_words_276 : decode cX12_words 276 = .ok (.idiv, 1) := by decide +kernel
theorem dX12_words_277 : decode cX12_words 277 = .ok (.ireturn, 1) := by decide +kernel
theorem dX12_pillar_0 : decode cX12_pillar 0 = .ok (.iload_n 1, 1) := by decide +kernel
theorem dX12_pillar_1 : decode cX12_pillar 1 = .ok (.iconst 1, 1) := by decide +kernel
theorem dX12_pillar_2 : decode cX12_pillar 2 = .ok (.bipush 30, 2) := by decide +kernel
theorem dX12_pillar_4 : decode cX12_pillar 4 = .ok (.invokestatic 72, 3) := by decide +kernel
theorem dX12_pillar_7 : decode cX12_pillar 7 = .ok (.ifCond .eq 13, 3) := by decide +kernel
theorem dX12_pillar_10 : decode cX12_pillar 10 = .ok (.iload_n 2, 1) := by decide +kernel
theorem dX12_pillar_11 : decode cX12_pillar 11 = .ok (.iconst 1, 1) := by decide +kernel
theorem dX12_pillar_12 : decode cX12_pillar 12 = .ok (.bipush 40, 2) := by decide +kernel
theorem dX12_pillar_14 : decode cX12_pillar 14 = .ok (.invokestatic 72, 3) := by decide +kernel
theorem dX12_pillar_17 : decode cX12_pillar 17 = .ok (.ifCond .ne 6, 3) := by decide +kernel
theorem dX12_pillar_20 : decode cX12_pillar 20 = .ok (.ldc 85, 2) := by decide +kernel
theorem dX12_pillar_22 : decode cX12_pillar 22 = .ok (.ireturn, 1) := by decide +kernel
theorem dX12_pillar_23 : decode cX12_pillar 23 = .ok (.aload_n 0, 1) := by decide +kernel
theorem dX12_pillar_24 : decode cX12_pillar 24 = .ok (.invokevirtual 181, 3) := by decide +kernel
theorem dX12_pillar_27 : decode cX12_pillar 27 = .ok (.ifCond .ne 6, 3) := by decide +kernel
theorem dX12_pillar_30 : decode cX12_pillar 30 = .ok (.ldc 184, 2) := by decide +kernel
theorem dX12_pillar_32 : decode cX12_pillar 32 = .ok (.ireturn, 1) := by decide +kernel
theorem dX12_pillar_33 : decode cX12_pillar 33 = .ok (.aload_n 0, 1) := by decide +kernel
theorem dX12_pillar_34 : decode cX12_pillar 34 = .ok (.getfield 35, 3) := by decide +kernel
theorem dX12_pillar_37 : decode cX12_pillar 37 = .ok (.iconst 0, 1) := by decide +kernel
theorem dX12_pillar_38 : decode cX12_pillar 38 = .ok (.aload_n 0, 1) := by decide +kernel
theorem dX12_pillar_39 : decode cX12_pillar 39 = .ok (.getfield 38, 3) := by decide +kernel
theorem dX12_pillar_42 : decode cX12_pillar 42 = .ok (.iconst 0, 1) := by decide +kernel
theorem dX12_pillar_43 : decode cX12_pillar 43 = .ok (.invokestatic 173, 3) := by decide +kernel
theorem dX12_pillar_46 : decode cX12_pillar 46 = .ok (.iconst 0, 1) := by decide +kernel
theorem dX12_pillar_47 : decode cX12_pillar 47 = .ok (.istore_n 3, 1) := by decide +kernel
theorem dX12_pillar_48 : decode cX12_pillar 48 = .ok (.iload_n 3, 1) := by decide +kernel
theorem dX12_pillar_49 : decode cX12_pillar 49 = .ok (.iload_n 2, 1) := by decide +kernel
theorem dX12_pillar_50 : decode cX12_pillar 50 = .ok (.if_icmp .ge 18, 3) := by decide +kernel
theorem dX12_pillar_53 : decode cX12_pillar 53 = .ok (.aload_n 0, 1) := by decide +kernel
theorem dX12_pillar_54 : decode cX12_pillar 54 = .ok (.aload_n 0, 1) := by decide +kernel
theorem dX12_pillar_55 : decode cX12_pillar 55 = .ok (.getfield 38, 3) := by decide +kernel
theorem dX12_pillar_58 : decode cX12_pillar 58 = .ok (.iconst 0, 1) := by decide +kernel
theorem dX12_pillar_59 : decode cX12_pillar 59 = .ok (.invokevirtual 188, 3) := by decide +kernel
theorem dX12_pillar_62 : decode cX12_pillar 62 = .ok (.iinc 3 1, 3) := by decide +kernel
theorem dX12_pillar_65 : decode cX12_pillar 65 = .ok (.goto (-17), 3) := by decide +kernel
theorem dX12_pillar_68 : decode cX12_pillar 68 = .ok (.aload_n 0, 1) := by decide +kernel
theorem dX12_pillar_69 : decode cX12_pillar 69 = .ok (.getfield 38, 3) := by decide +kernel
theorem dX12_pillar_72 : decode cX12_pillar 72 = .ok (.iconst 2, 1) := by decide +kernel
theorem dX12_pillar_73 : decode cX12_pillar 73 = .ok (.iaload, 1) := by decide +kernel
theorem dX12_pillar_74 : decode cX12_pillar 74 = .ok (.istore_n 3, 1) := by decide +kernel
theorem dX12_pillar_75 : decode cX12_pillar 75 = .ok (.aload_n 0, 1) := by decide +kernel
theorem dX12_pillar_76 : decode cX12_pillar 76 = .ok (.getfield 35, 3) := by decide +kernel
theorem dX12_pillar_79 : decode cX12_pillar 79 = .ok (.iconst 0, 1) := by decide +kernel
theorem dX12_pillar_80 : decode cX12_pillar 80 = .ok (.aload_n 0, 1) := by decide +kernel
theorem dX12_pillar_81 : decode cX12_pillar 81 = .ok (.getfield 38, 3) := by decide +kernel
theorem dX12_pillar_84 : decode cX12_pillar 84 = .ok (.iconst 0, 1) := by decide +kernel
theorem dX12_pillar_85 : decode cX12_pillar 85 = .ok (.invokestatic 173, 3) := by decide +kernel
theorem dX12_pillar_88 : decode cX12_pillar 88 = .ok (.iconst 0, 1) := by decide +kernel
theorem dX12_pillar_89 : decode cX12_pillar 89 = .ok (.istore 4, 2) := by decide +kernel
theorem dX12_pillar_91 : decode cX12_pillar 91 = .ok (.iload 4, 2) := by decide +kernel
theorem dX12_pillar_93 : decode cX12_pillar 93 = .ok (.iload_n 2, 1) := by decide +kernel
theorem dX12_pillar_94 : decode cX12_pillar 94 = .ok (.if_icmp .ge 18, 3) := by decide +kernel
theorem dX12_pillar_97 : decode cX12_pillar 97 = .ok (.aload_n 0, 1) := by decide +kernel
theorem dX12_pillar_98 : decode cX12_pillar 98 = .ok (.aload_n 0, 1) := by decide +kernel
theorem dX12_pillar_99 : decode cX12_pillar 99 = .ok (.getfield 38, 3) := by decide +kernel
theorem dX12_pillar_102 : decode cX12_pillar 102 = .ok (.iload_n 1, 1) := by decide +kernel
theorem dX12_pillar_103 : decode cX12_pillar 103 = .ok (.invokevirtual 188, 3) := by decide +kernel
theorem dX12_pillar_106 : decode cX12_pillar 106 = .ok (.iinc 4 1, 3) := by decide +kernel
theorem dX12_pillar_109 : decode cX12_pillar 109 = .ok (.goto (-18), 3) := by decide +kernel
theorem dX12_pillar_112 : decode cX12_pillar 112 = .ok (.iload_n 3, 1) := by decide +kernel
theorem dX12_pillar_113 : decode cX12_pillar 113 = .ok (.aload_n 0, 1) := by decide +kernel
theorem dX12_pillar_114 : decode cX12_pillar 114 = .ok (.getfield 38, 3) := by decide +kernel
theorem dX12_pillar_117 : decode cX12_pillar 117 = .ok (.iconst 2, 1) := by decide +kernel
theorem dX12_pillar_118 : decode cX12_pillar 118 = .ok (.iaload, 1) := by decide +kernel
theorem dX12_pillar_119 : decode cX12_pillar 119 = .ok (.isub, 1) := by decide +kernel
theorem dX12_pillar_120 : decode cX12_pillar 120 = .ok (.ireturn, 1) := by decide +kernel
theorem dX12_see_0 : decode cX12_see 0 = .ok (.iload_n 1, 1) := by decide +kernel
theorem dX12_see_1 : decode cX12_see 1 = .ok (.iconst 0, 1) := by decide +kernel
theorem dX12_see_2 : decode cX12_see 2 = .ok (.bipush 99, 2) := by decide +kernel
theorem dX12_see_4 : decode cX12_see 4 = .ok (.invokestatic 72, 3) := by decide +kernel
theorem dX12_see_7 : decode cX12_see 7 = .ok (.ifCond .ne 6, 3) := by decide +kernel
theorem dX12_see_10 : decode cX12_see 10 = .ok (.ldc 85, 2) := by decide +kernel
theorem dX12_see_12 : decode cX12_see 12 = .ok (.ireturn, 1) := by decide +kernel
theorem dX12_see_13 : decode cX12_see 13 = .ok (.aload_n 0, 1) := by decide +kernel
theorem dX12_see_14 : decode cX12_see 14 = .ok (.getfield 79, 3) := by decide +kernel
theorem dX12_see_17 : decode cX12_see 17 = .ok (.iconst 5, 1) := by decide +kernel
theorem dX12_see_18 : decode cX12_see 18 = .ok (.if_icmp .ne 6, 3) := by decide +kernel
theorem dX12_see_21 : decode cX12_see 21 = .ok (.ldc 89, 2) := by decide +kernel
theorem dX12_see_23 : decode cX12_see 23 = .ok (.ireturn, 1) := by decide +kernel
theorem dX12_see_24 : decode cX12_see 24 = .ok (.aload_n 0, 1) := by decide +kernel
theorem dX12_see_25 : decode cX12_see 25 = .ok (.getfield 51, 3) := by decide +kernel
theorem dX12_see_28 : decode cX12_see 28 = .ok (.aload_n 0, 1) := by decide +kernel
theorem dX12_see_29 : decode cX12_see 29 = .ok (.getfield 79, 3) := by decide +kernel
theorem dX12_see_32 : decode cX12_see 32 = .ok (.iload_n 1, 1) := by decide +kernel
theorem dX12_see_33 : decode cX12_see 33 = .ok (.iastore, 1) := by decide +kernel
theorem dX12_see_34 : decode cX12_see 34 = .ok (.aload_n 0, 1) := by decide +kernel
theorem dX12_see_35 : decode cX12_see 35 = .ok (.dup, 1) := by decide +kernel
theorem dX12_see_36 : decode cX12_see 36 = .ok (.getfield 79, 3) := by decide +kernel
theorem dX12_see_39 : decode cX12_see 39 = .ok (.iconst 1, 1) := by decide +kernel
theorem dX12_see_40 : decode cX12_see 40 = .ok (.iadd, 1) := by decide +kernel
theorem dX12_see_41 : decode cX12_see 41 = .ok (.putfield 79, 3) := by decide +kernel
theorem dX12_see_44 : decode cX12_see 44 = .ok (.aload_n 0, 1) := by decide +kernel
theorem dX12_see_45 : decode cX12_see 45 = .ok (.getfield 79, 3) := by decide +kernel
theorem dX12_see_48 : decode cX12_see 48 = .ok (.ireturn, 1) := by decide +kernel
theorem dX12_isAsSeen_0 : decode cX12_isAsSeen 0 = .ok (.aload_n 0, 1) := by decide +kernel
theorem dX12_isAsSeen_1 : decode cX12_isAsSeen 1 = .ok (.getfield 35, 3) := by decide +kernel
theorem dX12_isAsSeen_4 : decode cX12_isAsSeen 4 = .ok (.iconst 0, 1) := by decide +kernel
theorem dX12_isAsSeen_5 : decode cX12_isAsSeen 5 = .ok (.aload_n 0, 1) := by decide +kernel
theorem dX12_isAsSeen_6 : decode cX12_isAsSeen 6 = .ok (.getfield 38, 3) := by decide +kernel
theorem dX12_isAsSeen_9 : decode cX12_isAsSeen 9 = .ok (.iconst 0, 1) := by decide +kernel
theorem dX12_isAsSeen_10 : decode cX12_isAsSeen 10 = .ok (.invokestatic 173, 3) := by decide +kernel
theorem dX12_isAsSeen_13 : decode cX12_isAsSeen 13 = .ok (.iconst 0, 1) := by decide +kernel
theorem dX12_isAsSeen_14 : decode cX12_isAsSeen 14 = .ok (.istore_n 1, 1) := by decide +kernel
theorem dX12_isAsSeen_15 : decode cX12_isAsSeen 15 = .ok (.iload_n 1, 1) := by decide +kernel
theorem dX12_isAsSeen_16 : decode cX12_isAsSeen 16 = .ok (.aload_n 0, 1) := by decide +kernel
theorem dX12_isAsSeen_17 : decode cX12_isAsSeen 17 = .ok (.getfield 79, 3) := by decide +kernel
theorem dX12_isAsSeen_20 : decode cX12_isAsSeen 20 = .ok (.if_icmp .ge 54, 3) := by decide +kernel
theorem dX12_isAsSeen_23 : decode cX12_isAsSeen 23 = .ok (.aload_n 0, 1) := by decide +kernel
theorem dX12_isAsSeen_24 : decode cX12_isAsSeen 24 = .ok (.getfield 38, 3) := by decide +kernel
theorem dX12_isAsSeen_27 : decode cX12_isAsSeen 27 = .ok (.iconst 4, 1) := by decide +kernel
theorem dX12_isAsSeen_28 : decode cX12_isAsSeen 28 = .ok (.aload_n 0, 1) := by decide +kernel
theorem dX12_isAsSeen_29 : decode cX12_isAsSeen 29 = .ok (.getfield 57, 3) := by decide +kernel
theorem dX12_isAsSeen_32 : decode cX12_isAsSeen 32 = .ok (.iload_n 1, 1) := by decide +kernel
theorem dX12_isAsSeen_33 : decode cX12_isAsSeen 33 = .ok (.iaload, 1) := by decide +kernel
theorem dX12_isAsSeen_34 : decode cX12_isAsSeen 34 = .ok (.iastore, 1) := by decide +kernel
theorem dX12_isAsSeen_35 : decode cX12_isAsSeen 35 = .ok (.aload_n 0, 1) := by decide +kernel
theorem dX12_isAsSeen_36 : decode cX12_isAsSeen 36 = .ok (.getfield 38, 3) := by decide +kernel
theorem dX12_isAsSeen_39 : decode cX12_isAsSeen 39 = .ok (.iconst 5, 1) := by decide +kernel
theorem dX12_isAsSeen_40 : decode cX12_isAsSeen 40 = .ok (.iconst (-1), 1) := by decide +kernel
theorem dX12_isAsSeen_41 : decode cX12_isAsSeen 41 = .ok (.iastore, 1) := by decide +kernel
theorem dX12_isAsSeen_42 : decode cX12_isAsSeen 42 = .ok (.aload_n 0, 1) := by decide +kernel
theorem dX12_isAsSeen_43 : decode cX12_isAsSeen 43 = .ok (.aload_n 0, 1) := by decide +kernel
theorem dX12_isAsSeen_44 : decode cX12_isAsSeen 44 = .ok (.getfield 38, 3) := by decide +kernel
theorem dX12_isAsSeen_47 : decode cX12_isAsSeen 47 = .ok (.iconst 0, 1) := by decide +kernel
theorem dX12_isAsSeen_48 : decode cX12_isAsSeen 48 = .ok (.invokevirtual 188, 3) := by decide +kernel
theorem dX12_isAsSeen_51 : decode cX12_isAsSeen 51 = .ok (.aload_n 0, 1) := by decide +kernel
theorem dX12_isAsSeen_52 : decode cX12_isAsSeen 52 = .ok (.getfield 38, 3) := by decide +kernel
theorem dX12_isAsSeen_55 : decode cX12_isAsSeen 55 = .ok (.iconst 1, 1) := by decide +kernel
theorem dX12_isAsSeen_56 : decode cX12_isAsSeen 56 = .ok (.iaload, 1) := by decide +kernel
theorem dX12_isAsSeen_57 : decode cX12_isAsSeen 57 = .ok (.aload_n 0, 1) := by decide +kernel
theorem dX12_isAsSeen_58 : decode cX12_isAsSeen 58 = .ok (.getfield 51, 3) := by decide +kernel
theorem dX12_isAsSeen_61 : decode cX12_isAsSeen 61 = .ok (.iload_n 1, 1) := by decide +kernel
theorem dX12_isAsSeen_62 : decode cX12_isAsSeen 62 = .ok (.iaload, 1) := by decide +kernel
theorem dX12_isAsSeen_63 : decode cX12_isAsSeen 63 = .ok (.if_icmp .eq 5, 3) := by decide +kernel
theorem dX12_isAsSeen_66 : decode cX12_isAsSeen 66 = .ok (.iconst 0, 1) := by decide +kernel
theorem dX12_isAsSeen_67 : decode cX12_isAsSeen 67 = .ok (.ireturn, 1) := by decide +kernel
theorem dX12_isAsSeen_68 : decode cX12_isAsSeen 68 = .ok (.iinc 1 1, 3) := by decide +kernel
theorem dX12_isAsSeen_71 : decode cX12_isAsSeen 71 = .ok (.goto (-56), 3) := by decide +kernel
theorem dX12_isAsSeen_74 : decode cX12_isAsSeen 74 = .ok (.iconst 1, 1) := by decide +kernel
theorem dX12_isAsSeen_75 : decode cX12_isAsSeen 75 = .ok (.ireturn, 1) := by decide +kernel
theorem dX12_who_0 : decode cX12_who 0 = .ok (.aload_n 0, 1) := by decide +kernel
theorem dX12_who_1 : decode cX12_who 1 = .ok (.invokevirtual 181, 3) := by decide +kernel
theorem dX12_who_4 : decode cX12_who 4 = .ok (.ifCond .ne 6, 3) := by decide +kernel
theorem dX12_who_7 : decode cX12_who 7 = .ok (.ldc 184, 2) := by decide +kernel
theorem dX12_who_9 : decode cX12_who 9 = .ok (.ireturn, 1) := by decide +kernel
theorem dX12_who_10 : decode cX12_who 10 = .ok (.iconst 0, 1) := by decide +kernel
theorem dX12_who_11 : decode cX12_who 11 = .ok (.istore_n 2, 1) := by decide +kernel
theorem dX12_who_12 : decode cX12_who 12 = .ok (.aload_n 0, 1) := by decide +kernel
theorem dX12_who_13 : decode cX12_who 13 = .ok (.getfield 69, 3) := by decide +kernel
theorem dX12_who_16 : decode cX12_who 16 = .ok (.aload_n 0, 1) := by decide +kernel
theorem dX12_who_17 : decode cX12_who 17 = .ok (.getfield 79, 3) := by decide +kernel
theorem dX12_who_20 : decode cX12_who 20 = .ok (.invokestatic 229, 3) := by decide +kernel
theorem dX12_who_23 : decode cX12_who 23 = .ok (.iconst 1, 1) := by decide +kernel
theorem dX12_who_24 : decode cX12_who 24 = .ok (.isub, 1) := by decide +kernel
theorem dX12_who_25 : decode cX12_who 25 = .ok (.istore_n 3, 1) := by decide +kernel
theorem dX12_who_26 : decode cX12_who 26 = .ok (.iload_n 3, 1) := by decide +kernel
theorem dX12_who_27 : decode cX12_who 27 = .ok (.ifCond .lt 60, 3) := by decide +kernel
theorem dX12_who_30 : decode cX12_who 30 = .ok (.aload_n 0, 1) := by decide +kernel
theorem dX12_who_31 : decode cX12_who 31 = .ok (.iload_n 3, 1) := by decide +kernel
theorem dX12_who_32 : decode cX12_who 32 = .ok (.aload_n 0, 1) := by decide +kernel
theorem dX12_who_33 : decode cX12_who 33 = .ok (.getfield 79, 3) := by decide +kernel
theorem dX12_who_36 : decode cX12_who 36 = .ok (.invokevirtual 233, 3) := by decide +kernel
theorem dX12_who_39 : decode cX12_who 39 = .ok (.aload_n 0, 1) := by decide +kernel
theorem dX12_who_40 : decode cX12_who 40 = .ok (.invokevirtual 255, 3) := by decide +kernel
theorem dX12_who_43 : decode cX12_who 43 = .ok (.ifCond .eq 38, 3) := by decide +kernel
theorem dX12_who_46 : decode cX12_who 46 = .ok (.iinc 2 1, 3) := by decide +kernel
theorem dX12_who_49 : decode cX12_who 49 = .ok (.iconst 0, 1) := by decide +kernel
theorem dX12_who_50 : decode cX12_who 50 = .ok (.istore 4, 2) := by decide +kernel
theorem dX12_who_52 : decode cX12_who 52 = .ok (.iload 4, 2) := by decide +kernel
theorem dX12_who_54 : decode cX12_who 54 = .ok (.aload_n 0, 1) := by decide +kernel
theorem dX12_who_55 : decode cX12_who 55 = .ok (.getfield 79, 3) := by decide +kernel
theorem dX12_who_58 : decode cX12_who 58 = .ok (.if_icmp .ge 23, 3) := by decide +kernel
theorem dX12_who_61 : decode cX12_who 61 = .ok (.aload_n 0, 1) := by decide +kernel
theorem dX12_who_62 : decode cX12_who 62 = .ok (.getfield 60, 3) := by decide +kernel
theorem dX12_who_65 : decode cX12_who 65 = .ok (.iload 4, 2) := by decide +kernel
theorem dX12_who_67 : decode cX12_who 67 = .ok (.aload_n 0, 1) := by decide +kernel
theorem dX12_who_68 : decode cX12_who 68 = .ok (.getfield 57, 3) := by decide +kernel
theorem dX12_who_71 : decode cX12_who 71 = .ok (.iload 4, 2) := by decide +kernel
theorem dX12_who_73 : decode cX12_who 73 = .ok (.iaload, 1) := by decide +kernel
theorem dX12_who_74 : decode cX12_who 74 = .ok (.iastore, 1) := by decide +kernel
theorem dX12_who_75 : decode cX12_who 75 = .ok (.iinc 4 1, 3) := by decide +kernel
theorem dX12_who_78 : decode cX12_who 78 = .ok (.goto (-26), 3) := by decide +kernel
theorem dX12_who_81 : decode cX12_who 81 = .ok (.iinc 3 (-1), 3) := by decide +kernel
theorem dX12_who_84 : decode cX12_who 84 = .ok (.goto (-58), 3) := by decide +kernel
theorem dX12_who_87 : decode cX12_who 87 = .ok (.iload_n 1, 1) := by decide +kernel
theorem dX12_who_88 : decode cX12_who 88 = .ok (.iconst (-1), 1) := by decide +kernel
theorem dX12_who_89 : decode cX12_who 89 = .ok (.if_icmp .ne 7, 3) := by decide +kernel
theorem dX12_who_92 : decode cX12_who 92 = .ok (.iload_n 2, 1) := by decide +kernel
theorem dX12_who_93 : decode cX12_who 93 = .ok (.goto 31, 3) := by decide +kernel
theorem dX12_who_96 : decode cX12_who 96 = .ok (.iload_n 2, 1) := by decide +kernel
theorem dX12_who_97 : decode cX12_who 97 = .ok (.ifCond .eq 17, 3) := by decide +kernel
theorem dX12_who_100 : decode cX12_who 100 = .ok (.iload_n 1, 1) := by decide +kernel
theorem dX12_who_101 : decode cX12_who 101 = .ok (.iconst 0, 1) := by decide +kernel
theorem dX12_who_102 : decode cX12_who 102 = .ok (.aload_n 0, 1) := by decide +kernel
theorem dX12_who_103 : decode cX12_who 103 = .ok (.getfield 79, 3) := by decide +kernel
theorem dX12_who_106 : decode cX12_who 106 = .ok (.iconst 1, 1) := by decide +kernel
theorem dX12_who_107 : decode cX12_who 107 = .ok (.isub, 1) := by decide +kernel
theorem dX12_who_108 : decode cX12_who 108 = .ok (.invokestatic 72, 3) := by decide +kernel
theorem dX12_who_111 : decode cX12_who 111 = .ok (.ifCond .ne 7, 3) := by decide +kernel
theorem dX12_who_114 : decode cX12_who 114 = .ok (.iconst (-1), 1) := by decide +kernel
theorem dX12_who_115 : decode cX12_who 115 = .ok (.goto 9, 3) := by decide +kernel
theorem dX12_who_118 : decode cX12_who 118 = .ok (.aload_n 0, 1) := by decide +kernel
theorem dX12_who_119 : decode cX12_who 119 = .ok (.getfield 60, 3) := by decide +kernel
theorem dX12_who_122 : decode cX12_who 122 = .ok (.iload_n 1, 1) := by decide +kernel
theorem dX12_who_123 : decode cX12_who 123 = .ok (.iaload, 1) := by decide +kernel
theorem dX12_who_124 : decode cX12_who 124 = .ok (.ireturn, 1) := by decide +kernel
theorem dX12_sure_0 : decode cX12_sure 0 = .ok (.aload_n 0, 1) := by decide +kernel
theorem dX12_sure_1 : decode cX12_sure 1 = .ok (.invokevirtual 181, 3) := by decide +kernel
theorem dX12_sure_4 : decode cX12_sure 4 = .ok (.ifCond .ne 6, 3) := by decide +kernel
theorem dX12_sure_7 : decode cX12_sure 7 = .ok (.ldc 184, 2) := by decide +kernel
theorem dX12_sure_9 : decode cX12_sure 9 = .ok (.ireturn, 1) := by decide +kernel
theorem dX12_sure_10 : decode cX12_sure 10 = .ok (.iconst 1, 1) := by decide +kernel
theorem dX12_sure_11 : decode cX12_sure 11 = .ok (.aload_n 0, 1) := by decide +kernel
theorem dX12_sure_12 : decode cX12_sure 12 = .ok (.getfield 69, 3) := by decide +kernel
theorem dX12_sure_15 : decode cX12_sure 15 = .ok (.ishl, 1) := by decide +kernel
theorem dX12_sure_16 : decode cX12_sure 16 = .ok (.iconst 1, 1) := by decide +kernel
theorem dX12_sure_17 : decode cX12_sure 17 = .ok (.isub, 1) := by decide +kernel
theorem dX12_sure_18 : decode cX12_sure 18 = .ok (.istore_n 1, 1) := by decide +kernel
theorem dX12_sure_19 : decode cX12_sure 19 = .ok (.iconst 0, 1) := by decide +kernel
theorem dX12_sure_20 : decode cX12_sure 20 = .ok (.istore_n 2, 1) := by decide +kernel
theorem dX12_sure_21 : decode cX12_sure 21 = .ok (.iconst 0, 1) := by decide +kernel
theorem dX12_sure_22 : decode cX12_sure 22 = .ok (.istore_n 3, 1) := by decide +kernel
theorem dX12_sure_23 : decode cX12_sure 23 = .ok (.iload_n 3, 1) := by decide +kernel
theorem dX12_sure_24 : decode cX12_sure 24 = .ok (.aload_n 0, 1) := by decide +kernel
theorem dX12_sure_25 : decode cX12_sure 25 = .ok (.getfield 69, 3) := by decide +kernel
theorem dX12_sure_28 : decode cX12_sure 28 = .ok (.aload_n 0, 1) := by decide +kernel
theorem dX12_sure_29 : decode cX12_sure 29 = .ok (.getfield 79, 3) := by decide +kernel
theorem dX12_sure_32 : decode cX12_sure 32 = .ok (.invokestatic 229, 3) := by decide +kernel
theorem dX12_sure_35 : decode cX12_sure 35 = .ok (.if_icmp .ge 68, 3) := by decide +kernel
theorem dX12_sure_38 : decode cX12_sure 38 = .ok (.aload_n 0, 1) := by decide +kernel
theorem dX12_sure_39 : decode cX12_sure 39 = .ok (.iload_n 3, 1) := by decide +kernel
theorem dX12_sure_40 : decode cX12_sure 40 = .ok (.aload_n 0, 1) := by decide +kernel
theorem dX12_sure_41 : decode cX12_sure 41 = .ok (.getfield 79, 3) := by decide +kernel
theorem dX12_sure_44 : decode cX12_sure 44 = .ok (.invokevirtual 233, 3) := by decide +kernel
theorem dX12_sure_47 : decode cX12_sure 47 = .ok (.aload_n 0, 1) := by decide +kernel
theorem dX12_sure_48 : decode cX12_sure 48 = .ok (.invokevirtual 255, 3) := by decide +kernel
theorem dX12_sure_51 : decode cX12_sure 51 = .ok (.ifCond .eq 46, 3) := by decide +kernel
theorem dX12_sure_54 : decode cX12_sure 54 = .ok (.iconst 0, 1) := by decide +kernel
theorem dX12_sure_55 : decode cX12_sure 55 = .ok (.istore 4, 2) := by decide +kernel
theorem dX12_sure_57 : decode cX12_sure 57 = .ok (.iconst 0, 1) := by decide +kernel
theorem dX12_sure_58 : decode cX12_sure 58 = .ok (.istore 5, 2) := by decide +kernel
theorem dX12_sure_60 : decode cX12_sure 60 = .ok (.iload 5, 2) := by decide +kernel
theorem dX12_sure_62 : decode cX12_sure 62 = .ok (.aload_n 0, 1) := by decide +kernel
theorem dX12_sure_63 : decode cX12_sure 63 = .ok (.getfield 79, 3) := by decide +kernel
theorem dX12_sure_66 : decode cX12_sure 66 = .ok (.if_icmp .ge 23, 3) := by decide +kernel
theorem dX12_sure_69 : decode cX12_sure 69 = .ok (.iload 4, 2) := by decide +kernel
theorem dX12_sure_71 : decode cX12_sure 71 = .ok (.iconst 1, 1) := by decide +kernel
theorem dX12_sure_72 : decode cX12_sure 72 = .ok (.aload_n 0, 1) := by decide +kernel
theorem dX12_sure_73 : decode cX12_sure 73 = .ok (.getfield 57, 3) := by decide +kernel
theorem dX12_sure_76 : decode cX12_sure 76 = .ok (.iload 5, 2) := by decide +kernel
theorem dX12_sure_78 : decode cX12_sure 78 = .ok (.iaload, 1) := by decide +kernel
theorem dX12_sure_79 : decode cX12_sure 79 = .ok (.ishl, 1) := by decide +kernel
theorem dX12_sure_80 : decode cX12_sure 80 = .ok (.ior, 1) := by decide +kernel
theorem dX12_sure_81 : decode cX12_sure 81 = .ok (.istore 4, 2) := by decide +kernel
theorem dX12_sure_83 : decode cX12_sure 83 = .ok (.iinc 5 1, 3) := by decide +kernel
theorem dX12_sure_86 : decode cX12_sure 86 = .ok (.goto (-26), 3) := by decide +kernel
theorem dX12_sure_89 : decode cX12_sure 89 = .ok (.iload_n 1, 1) := by decide +kernel
theorem dX12_sure_90 : decode cX12_sure 90 = .ok (.iload 4, 2) := by decide +kernel
theorem dX12_sure_92 : decode cX12_sure 92 = .ok (.iand, 1) := by decide +kernel
theorem dX12_sure_93 : decode cX12_sure 93 = .ok (.istore_n 1, 1) := by decide +kernel
theorem dX12_sure_94 : decode cX12_sure 94 = .ok (.iinc 2 1, 3) := by decide +kernel
theorem dX12_sure_97 : decode cX12_sure 97 = .ok (.iinc 3 1, 3) := by decide +kernel
theorem dX12_sure_100 : decode cX12_sure 100 = .ok (.goto (-77), 3) := by decide +kernel
theorem dX12_sure_103 : decode cX12_sure 103 = .ok (.iload_n 2, 1) := by decide +kernel
theorem dX12_sure_104 : decode cX12_sure 104 = .ok (.ifCond .ne 7, 3) := by decide +kernel
theorem dX12_sure_107 : decode cX12_sure 107 = .ok (.iconst 0, 1) := by decide +kernel
theorem dX12_sure_108 : decode cX12_sure 108 = .ok (.goto 4, 3) := by decide +kernel
theorem dX12_sure_111 : decode cX12_sure 111 = .ok (.iload_n 1, 1) := by decide +kernel
theorem dX12_sure_112 : decode cX12_sure 112 = .ok (.ireturn, 1) := by decide +kernel
theorem dX12_write_0 : decode cX12_write 0 = .ok (.aload_n 0, 1) := by decide +kernel
theorem dX12_write_1 : decode cX12_write 1 = .ok (.iload_n 1, 1) := by decide +kernel
theorem dX12_write_2 : decode cX12_write 2 = .ok (.invokevirtual 177, 3) := by decide +kernel
theorem dX12_write_5 : decode cX12_write 5 = .ok (.ifCond .ne 6, 3) := by decide +kernel
theorem dX12_write_8 : decode cX12_write 8 = .ok (.ldc 180, 2) := by decide +kernel
theorem dX12_write_10 : decode cX12_write 10 = .ok (.ireturn, 1) := by decide +kernel
theorem dX12_write_11 : decode cX12_write 11 = .ok (.iload_n 2, 1) := by decide +kernel
theorem dX12_write_12 : decode cX12_write 12 = .ok (.iconst 0, 1) := by decide +kernel
theorem dX12_write_13 : decode cX12_write 13 = .ok (.iconst 2, 1) := by decide +kernel
theorem dX12_write_14 : decode cX12_write 14 = .ok (.invokestatic 72, 3) := by decide +kernel
theorem dX12_write_17 : decode cX12_write 17 = .ok (.ifCond .ne 6, 3) := by decide +kernel
theorem dX12_write_20 : decode cX12_write 20 = .ok (.ldc 85, 2) := by decide +kernel
theorem dX12_write_22 : decode cX12_write 22 = .ok (.ireturn, 1) := by decide +kernel
theorem dX12_write_23 : decode cX12_write 23 = .ok (.aload_n 0, 1) := by decide +kernel
theorem dX12_write_24 : decode cX12_write 24 = .ok (.getfield 82, 3) := by decide +kernel
theorem dX12_write_27 : decode cX12_write 27 = .ok (.bipush 20, 2) := by decide +kernel
theorem dX12_write_29 : decode cX12_write 29 = .ok (.if_icmp .ne 6, 3) := by decide +kernel
theorem dX12_write_32 : decode cX12_write 32 = .ok (.ldc 89, 2) := by decide +kernel
theorem dX12_write_34 : decode cX12_write 34 = .ok (.ireturn, 1) := by decide +kernel
theorem dX12_write_35 : decode cX12_write 35 = .ok (.aload_n 0, 1) := by decide +kernel
theorem dX12_write_36 : decode cX12_write 36 = .ok (.getfield 54, 3) := by decide +kernel
theorem dX12_write_39 : decode cX12_write 39 = .ok (.iconst 3, 1) := by decide +kernel
theorem dX12_write_40 : decode cX12_write 40 = .ok (.aload_n 0, 1) := by decide +kernel
theorem dX12_write_41 : decode cX12_write 41 = .ok (.getfield 82, 3) := by decide +kernel
theorem dX12_write_44 : decode cX12_write 44 = .ok (.imul, 1) := by decide +kernel
theorem dX12_write_45 : decode cX12_write 45 = .ok (.iload_n 1, 1) := by decide +kernel
theorem dX12_write_46 : decode cX12_write 46 = .ok (.iastore, 1) := by decide +kernel
theorem dX12_write_47 : decode cX12_write 47 = .ok (.aload_n 0, 1) := by decide +kernel
theorem dX12_write_48 : decode cX12_write 48 = .ok (.getfield 54, 3) := by decide +kernel
theorem dX12_write_51 : decode cX12_write 51 = .ok (.iconst 3, 1) := by decide +kernel
theorem dX12_write_52 : decode cX12_write 52 = .ok (.aload_n 0, 1) := by decide +kernel
theorem dX12_write_53 : decode cX12_write 53 = .ok (.getfield 82, 3) := by decide +kernel
theorem dX12_write_56 : decode cX12_write 56 = .ok (.imul, 1) := by decide +kernel
theorem dX12_write_57 : decode cX12_write 57 = .ok (.iconst 1, 1) := by decide +kernel
theorem dX12_write_58 : decode cX12_write 58 = .ok (.iadd, 1) := by decide +kernel
theorem dX12_write_59 : decode cX12_write 59 = .ok (.iload_n 2, 1) := by decide +kernel
theorem dX12_write_60 : decode cX12_write 60 = .ok (.iastore, 1) := by decide +kernel
theorem dX12_write_61 : decode cX12_write 61 = .ok (.aload_n 0, 1) := by decide +kernel
theorem dX12_write_62 : decode cX12_write 62 = .ok (.getfield 54, 3) := by decide +kernel
theorem dX12_write_65 : decode cX12_write 65 = .ok (.iconst 3, 1) := by decide +kernel
theorem dX12_write_66 : decode cX12_write 66 = .ok (.aload_n 0, 1) := by decide +kernel
theorem dX12_write_67 : decode cX12_write 67 = .ok (.getfield 82, 3) := by decide +kernel
theorem dX12_write_70 : decode cX12_write 70 = .ok (.imul, 1) := by decide +kernel
theorem dX12_write_71 : decode cX12_write 71 = .ok (.iconst 2, 1) := by decide +kernel
theorem dX12_write_72 : decode cX12_write 72 = .ok (.iadd, 1) := by decide +kernel
theorem dX12_write_73 : decode cX12_write 73 = .ok (.iload_n 3, 1) := by decide +kernel
theorem dX12_write_74 : decode cX12_write 74 = .ok (.ifCond .eq 7, 3) := by decide +kernel
theorem dX12_write_77 : decode cX12_write 77 = .ok (.iconst 1, 1) := by decide +kernel
theorem dX12_write_78 : decode cX12_write 78 = .ok (.goto 4, 3) := by decide +kernel
theorem dX12_write_81 : decode cX12_write 81 = .ok (.iconst 0, 1) := by decide +kernel
theorem dX12_write_82 : decode cX12_write 82 = .ok (.iastore, 1) := by decide +kernel
theorem dX12_write_83 : decode cX12_write 83 = .ok (.aload_n 0, 1) := by decide +kernel
theorem dX12_write_84 : decode cX12_write 84 = .ok (.dup, 1) := by decide +kernel
theorem dX12_write_85 : decode cX12_write 85 = .ok (.getfield 82, 3) := by decide +kernel
theorem dX12_write_88 : decode cX12_write 88 = .ok (.iconst 1, 1) := by decide +kernel
theorem dX12_write_89 : decode cX12_write 89 = .ok (.iadd, 1) := by decide +kernel
theorem dX12_write_90 : decode cX12_write 90 = .ok (.putfield 82, 3) := by decide +kernel
theorem dX12_write_93 : decode cX12_write 93 = .ok (.aload_n 0, 1) := by decide +kernel
theorem dX12_write_94 : decode cX12_write 94 = .ok (.getfield 82, 3) := by decide +kernel
theorem dX12_write_97 : decode cX12_write 97 = .ok (.ireturn, 1) := by decide +kernel
theorem dX12_judge_0 : decode cX12_judge 0 = .ok (.aload_n 0, 1) := by decide +kernel
theorem dX12_judge_1 : decode cX12_judge 1 = .ok (.getfield 35, 3) := by decide +kernel
theorem dX12_judge_4 : decode cX12_judge 4 = .ok (.iconst 0, 1) := by decide +kernel
theorem dX12_judge_5 : decode cX12_judge 5 = .ok (.aload_n 0, 1) := by decide +kernel
theorem dX12_judge_6 : decode cX12_judge 6 = .ok (.getfield 38, 3) := by decide +kernel
theorem dX12_judge_9 : decode cX12_judge 9 = .ok (.iconst 0, 1) := by decide +kernel
theorem dX12_judge_10 : decode cX12_judge 10 = .ok (.invokestatic 173, 3) := by decide +kernel
theorem dX12_judge_13 : decode cX12_judge 13 = .ok (.iconst 0, 1) := by decide +kernel
theorem dX12_judge_14 : decode cX12_judge 14 = .ok (.istore_n 1, 1) := by decide +kernel
theorem dX12_judge_15 : decode cX12_judge 15 = .ok (.iload_n 1, 1) := by decide +kernel
theorem dX12_judge_16 : decode cX12_judge 16 = .ok (.aload_n 0, 1) := by decide +kernel
theorem dX12_judge_17 : decode cX12_judge 17 = .ok (.getfield 82, 3) := by decide +kernel
theorem dX12_judge_20 : decode cX12_judge 20 = .ok (.if_icmp .ge 72, 3) := by decide +kernel
theorem dX12_judge_23 : decode cX12_judge 23 = .ok (.aload_n 0, 1) := by decide +kernel
theorem dX12_judge_24 : decode cX12_judge 24 = .ok (.getfield 54, 3) := by decide +kernel
theorem dX12_judge_27 : decode cX12_judge 27 = .ok (.iconst 3, 1) := by decide +kernel
theorem dX12_judge_28 : decode cX12_judge 28 = .ok (.iload_n 1, 1) := by decide +kernel
theorem dX12_judge_29 : decode cX12_judge 29 = .ok (.imul, 1) := by decide +kernel
theorem dX12_judge_30 : decode cX12_judge 30 = .ok (.iaload, 1) := by decide +kernel
theorem dX12_judge_31 : decode cX12_judge 31 = .ok (.istore_n 2, 1) := by decide +kernel
theorem dX12_judge_32 : decode cX12_judge 32 = .ok (.aload_n 0, 1) := by decide +kernel
theorem dX12_judge_33 : decode cX12_judge 33 = .ok (.getfield 38, 3) := by decide +kernel
theorem dX12_judge_36 : decode cX12_judge 36 = .ok (.iload_n 2, 1) := by decide +kernel
theorem dX12_judge_37 : decode cX12_judge 37 = .ok (.invokestatic 199, 3) := by decide +kernel
theorem dX12_judge_40 : decode cX12_judge 40 = .ok (.ifCond .ne 44, 3) := by decide +kernel
theorem dX12_judge_43 : decode cX12_judge 43 = .ok (.aload_n 0, 1) := by decide +kernel
theorem dX12_judge_44 : decode cX12_judge 44 = .ok (.aload_n 0, 1) := by decide +kernel
theorem dX12_judge_45 : decode cX12_judge 45 = .ok (.getfield 38, 3) := by decide +kernel
theorem dX12_judge_48 : decode cX12_judge 48 = .ok (.iload_n 2, 1) := by decide +kernel
theorem dX12_judge_49 : decode cX12_judge 49 = .ok (.aload_n 0, 1) := by decide +kernel
theorem dX12_judge_50 : decode cX12_judge 50 = .ok (.getfield 54, 3) := by decide +kernel
theorem dX12_judge_53 : decode cX12_judge 53 = .ok (.iconst 3, 1) := by decide +kernel
theorem dX12_judge_54 : decode cX12_judge 54 = .ok (.iload_n 1, 1) := by decide +kernel
theorem dX12_judge_55 : decode cX12_judge 55 = .ok (.imul, 1) := by decide +kernel
theorem dX12_judge_56 : decode cX12_judge 56 = .ok (.iconst 1, 1) := by decide +kernel
theorem dX12_judge_57 : decode cX12_judge 57 = .ok (.iadd, 1) := by decide +kernel
theorem dX12_judge_58 : decode cX12_judge 58 = .ok (.iaload, 1) := by decide +kernel
theorem dX12_judge_59 : decode cX12_judge 59 = .ok (.invokevirtual 203, 3) := by decide +kernel
theorem dX12_judge_62 : decode cX12_judge 62 = .ok (.aload_n 0, 1) := by decide +kernel
theorem dX12_judge_63 : decode cX12_judge 63 = .ok (.getfield 54, 3) := by decide +kernel
theorem dX12_judge_66 : decode cX12_judge 66 = .ok (.iconst 3, 1) := by decide +kernel
theorem dX12_judge_67 : decode cX12_judge 67 = .ok (.iload_n 1, 1) := by decide +kernel
theorem dX12_judge_68 : decode cX12_judge 68 = .ok (.imul, 1) := by decide +kernel
theorem dX12_judge_69 : decode cX12_judge 69 = .ok (.iconst 2, 1) := by decide +kernel
theorem dX12_judge_70 : decode cX12_judge 70 = .ok (.iadd, 1) := by decide +kernel
theorem dX12_judge_71 : decode cX12_judge 71 = .ok (.iaload, 1) := by decide +kernel
theorem dX12_judge_72 : decode cX12_judge 72 = .ok (.iconst 1, 1) := by decide +kernel
theorem dX12_judge_73 : decode cX12_judge 73 = .ok (.if_icmp .ne 7, 3) := by decide +kernel
theorem dX12_judge_76 : decode cX12_judge 76 = .ok (.iconst 1, 1) := by decide +kernel
theorem dX12_judge_77 : decode cX12_judge 77 = .ok (.goto 4, 3) := by decide +kernel
theorem dX12_judge_80 : decode cX12_judge 80 = .ok (.iconst 0, 1) := by decide +kernel
theorem dX12_judge_81 : decode cX12_judge 81 = .ok (.if_icmp .eq 5, 3) := by decide +kernel
theorem dX12_judge_84 : decode cX12_judge 84 = .ok (.iload_n 1, 1) := by decide +kernel
theorem dX12_judge_85 : decode cX12_judge 85 = .ok (.ireturn, 1) := by decide +kernel
theorem dX12_judge_86 : decode cX12_judge 86 = .ok (.iinc 1 1, 3) := by decide +kernel
theorem dX12_judge_89 : decode cX12_judge 89 = .ok (.goto (-74), 3) := by decide +kernel
theorem dX12_judge_92 : decode cX12_judge 92 = .ok (.iconst (-1), 1) := by decide +kernel
theorem dX12_judge_93 : decode cX12_judge 93 = .ok (.ireturn, 1) := by decide +kernel
theorem dX12_tear_0 : decode cX12_tear 0 = .ok (.aload_n 0, 1) := by decide +kernel
theorem dX12_tear_1 : decode cX12_tear 1 = .ok (.getfield 79, 3) := by decide +kernel
theorem dX12_tear_4 : decode cX12_tear 4 = .ok (.aload_n 0, 1) := by decide +kernel
theorem dX12_tear_5 : decode cX12_tear 5 = .ok (.getfield 82, 3) := by decide +kernel
theorem dX12_tear_8 : decode cX12_tear 8 = .ok (.iadd, 1) := by decide +kernel
theorem dX12_tear_9 : decode cX12_tear 9 = .ok (.istore_n 1, 1) := by decide +kernel
theorem dX12_tear_10 : decode cX12_tear 10 = .ok (.aload_n 0, 1) := by decide +kernel
theorem dX12_tear_11 : decode cX12_tear 11 = .ok (.iconst 0, 1) := by decide +kernel
theorem dX12_tear_12 : decode cX12_tear 12 = .ok (.putfield 79, 3) := by decide +kernel
theorem dX12_tear_15 : decode cX12_tear 15 = .ok (.aload_n 0, 1) := by decide +kernel
theorem dX12_tear_16 : decode cX12_tear 16 = .ok (.iconst 0, 1) := by decide +kernel
theorem dX12_tear_17 : decode cX12_tear 17 = .ok (.putfield 82, 3) := by decide +kernel
theorem dX12_tear_20 : decode cX12_tear 20 = .ok (.iload_n 1, 1) := by decide +kernel
theorem dX12_tear_21 : decode cX12_tear 21 = .ok (.ireturn, 1) := by decide +kernel
theorem dX12_seed_0 : decode cX12_seed 0 = .ok (.iload_n 1, 1) := by decide +kernel
theorem dX12_seed_1 : decode cX12_seed 1 = .ok (.ifCond .ge 6, 3) := by decide +kernel
theorem dX12_seed_4 : decode cX12_seed 4 = .ok (.ldc 85, 2) := by decide +kernel
theorem dX12_seed_6 : decode cX12_seed 6 = .ok (.ireturn, 1) := by decide +kernel
theorem dX12_seed_7 : decode cX12_seed 7 = .ok (.aload_n 0, 1) := by decide +kernel
theorem dX12_seed_8 : decode cX12_seed 8 = .ok (.getfield 35, 3) := by decide +kernel
theorem dX12_seed_11 : decode cX12_seed 11 = .ok (.bipush 6, 2) := by decide +kernel
theorem dX12_seed_13 : decode cX12_seed 13 = .ok (.iaload, 1) := by decide +kernel
theorem dX12_seed_14 : decode cX12_seed 14 = .ok (.istore_n 2, 1) := by decide +kernel
theorem dX12_seed_15 : decode cX12_seed 15 = .ok (.aload_n 0, 1) := by decide +kernel
theorem dX12_seed_16 : decode cX12_seed 16 = .ok (.getfield 35, 3) := by decide +kernel
theorem dX12_seed_19 : decode cX12_seed 19 = .ok (.bipush 6, 2) := by decide +kernel
theorem dX12_seed_21 : decode cX12_seed 21 = .ok (.iload_n 1, 1) := by decide +kernel
theorem dX12_seed_22 : decode cX12_seed 22 = .ok (.iastore, 1) := by decide +kernel
theorem dX12_seed_23 : decode cX12_seed 23 = .ok (.iload_n 2, 1) := by decide +kernel
theorem dX12_seed_24 : decode cX12_seed 24 = .ok (.ireturn, 1) := by decide +kernel
theorem dX12_keep_0 : decode cX12_keep 0 = .ok (.iload_n 1, 1) := by decide +kernel
theorem dX12_keep_1 : decode cX12_keep 1 = .ok (.iconst 0, 1) := by decide +kernel
theorem dX12_keep_2 : decode cX12_keep 2 = .ok (.iconst 1, 1) := by decide +kernel
theorem dX12_keep_3 : decode cX12_keep 3 = .ok (.invokestatic 72, 3) := by decide +kernel
theorem dX12_keep_6 : decode cX12_keep 6 = .ok (.ifCond .ne 6, 3) := by decide +kernel
theorem dX12_keep_9 : decode cX12_keep 9 = .ok (.ldc 180, 2) := by decide +kernel
theorem dX12_keep_11 : decode cX12_keep 11 = .ok (.ireturn, 1) := by decide +kernel
theorem dX12_keep_12 : decode cX12_keep 12 = .ok (.aload_n 0, 1) := by decide +kernel
theorem dX12_keep_13 : decode cX12_keep 13 = .ok (.getfield 35, 3) := by decide +kernel
theorem dX12_keep_16 : decode cX12_keep 16 = .ok (.iconst 0, 1) := by decide +kernel
theorem dX12_keep_17 : decode cX12_keep 17 = .ok (.aload_n 0, 1) := by decide +kernel
theorem dX12_keep_18 : decode cX12_keep 18 = .ok (.getfield 41, 3) := by decide +kernel
theorem dX12_keep_21 : decode cX12_keep 21 = .ok (.bipush 31, 2) := by decide +kernel
theorem dX12_keep_23 : decode cX12_keep 23 = .ok (.iload_n 1, 1) := by decide +kernel
theorem dX12_keep_24 : decode cX12_keep 24 = .ok (.imul, 1) := by decide +kernel
theorem dX12_keep_25 : decode cX12_keep 25 = .ok (.invokestatic 173, 3) := by decide +kernel
theorem dX12_keep_28 : decode cX12_keep 28 = .ok (.aload_n 0, 1) := by decide +kernel
theorem dX12_keep_29 : decode cX12_keep 29 = .ok (.getfield 44, 3) := by decide +kernel
theorem dX12_keep_32 : decode cX12_keep 32 = .ok (.iload_n 1, 1) := by decide +kernel
theorem dX12_keep_33 : decode cX12_keep 33 = .ok (.iconst 1, 1) := by decide +kernel
theorem dX12_keep_34 : decode cX12_keep 34 = .ok (.bastore, 1) := by decide +kernel
theorem dX12_keep_35 : decode cX12_keep 35 = .ok (.aload_n 0, 1) := by decide +kernel
theorem dX12_keep_36 : decode cX12_keep 36 = .ok (.iconst 0, 1) := by decide +kernel
theorem dX12_keep_37 : decode cX12_keep 37 = .ok (.putfield 76, 3) := by decide +kernel
theorem dX12_keep_40 : decode cX12_keep 40 = .ok (.iconst 1, 1) := by decide +kernel
theorem dX12_keep_41 : decode cX12_keep 41 = .ok (.ireturn, 1) := by decide +kernel
theorem dX12_goBack_0 : decode cX12_goBack 0 = .ok (.iload_n 1, 1) := by decide +kernel
theorem dX12_goBack_1 : decode cX12_goBack 1 = .ok (.iconst 0, 1) := by decide +kernel
theorem dX12_goBack_2 : decode cX12_goBack 2 = .ok (.iconst 1, 1) := by decide +kernel
theorem dX12_goBack_3 : decode cX12_goBack 3 = .ok (.invokestatic 72, 3) := by decide +kernel
theorem dX12_goBack_6 : decode cX12_goBack 6 = .ok (.ifCond .ne 6, 3) := by decide +kernel
theorem dX12_goBack_9 : decode cX12_goBack 9 = .ok (.ldc 180, 2) := by decide +kernel
theorem dX12_goBack_11 : decode cX12_goBack 11 = .ok (.ireturn, 1) := by decide +kernel
theorem dX12_goBack_12 : decode cX12_goBack 12 = .ok (.aload_n 0, 1) := by decide +kernel
theorem dX12_goBack_13 : decode cX12_goBack 13 = .ok (.getfield 44, 3) := by decide +kernel
theorem dX12_goBack_16 : decode cX12_goBack 16 = .ok (.iload_n 1, 1) := by decide +kernel
theorem dX12_goBack_17 : decode cX12_goBack 17 = .ok (.baload, 1) := by decide +kernel
theorem dX12_goBack_18 : decode cX12_goBack 18 = .ok (.ifCond .ne 6, 3) := by decide +kernel
theorem dX12_goBack_21 : decode cX12_goBack 21 = .ok (.ldc 184, 2) := by decide +kernel
theorem dX12_goBack_23 : decode cX12_goBack 23 = .ok (.ireturn, 1) := by decide +kernel
theorem dX12_goBack_24 : decode cX12_goBack 24 = .ok (.aload_n 0, 1) := by decide +kernel
theorem dX12_goBack_25 : decode cX12_goBack 25 = .ok (.getfield 41, 3) := by decide +kernel
theorem dX12_goBack_28 : decode cX12_goBack 28 = .ok (.bipush 31, 2) := by decide +kernel
theorem dX12_goBack_30 : decode cX12_goBack 30 = .ok (.iload_n 1, 1) := by decide +kernel
theorem dX12_goBack_31 : decode cX12_goBack 31 = .ok (.imul, 1) := by decide +kernel
theorem dX12_goBack_32 : decode cX12_goBack 32 = .ok (.aload_n 0, 1) := by decide +kernel
theorem dX12_goBack_33 : decode cX12_goBack 33 = .ok (.getfield 35, 3) := by decide +kernel
theorem dX12_goBack_36 : decode cX12_goBack 36 = .ok (.iconst 0, 1) := by decide +kernel
theorem dX12_goBack_37 : decode cX12_goBack 37 = .ok (.invokestatic 173, 3) := by decide +kernel
theorem dX12_goBack_40 : decode cX12_goBack 40 = .ok (.aload_n 0, 1) := by decide +kernel
theorem dX12_goBack_41 : decode cX12_goBack 41 = .ok (.iconst 0, 1) := by decide +kernel
theorem dX12_goBack_42 : decode cX12_goBack 42 = .ok (.putfield 76, 3) := by decide +kernel
theorem dX12_goBack_45 : decode cX12_goBack 45 = .ok (.iconst 1, 1) := by decide +kernel
theorem dX12_goBack_46 : decode cX12_goBack 46 = .ok (.ireturn, 1) := by decide +kernel
