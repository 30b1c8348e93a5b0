theorem dX12_nextToken_169 : decode cX12_nextToken 169 = .ok (.iconst 1, 1) := by decide +kernel
theorem dX12_nextToken_170 : decode cX12_nextToken 170 = .ok (.iadd, 1) := by decide +kernel
theorem dX12_nextToken_171 : decode cX12_nextToken 171 = .ok (.putfield 90, 3) := by decide +kernel
theorem dX12_nextToken_174 : decode cX12_nextToken 174 = .ok (.goto (-84), 3) := by decide +kernel
theorem dX12_nextToken_177 : decode cX12_nextToken 177 = .ok (.aload_n 0, 1) := by decide +kernel
theorem dX12_nextToken_178 : decode cX12_nextToken 178 = .ok (.aload_n 0, 1) := by decide +kernel
theorem dX12_nextToken_179 : decode cX12_nextToken 179 = .ok (.getfield 90, 3) := by decide +kernel
theorem dX12_nextToken_182 : decode cX12_nextToken 182 = .ok (.aload_n 0, 1) := by decide +kernel
theorem dX12_nextToken_183 : decode cX12_nextToken 183 = .ok (.getfield 93, 3) := by decide +kernel
theorem dX12_nextToken_186 : decode cX12_nextToken 186 = .ok (.isub, 1) := by decide +kernel
theorem dX12_nextToken_187 : decode cX12_nextToken 187 = .ok (.iconst 3, 1) := by decide +kernel
theorem dX12_nextToken_188 : decode cX12_nextToken 188 = .ok (.if_icmp .le 8, 3) := by decide +kernel
theorem dX12_nextToken_191 : decode cX12_nextToken 191 = .ok (.bipush (-3), 2) := by decide +kernel
theorem dX12_nextToken_193 : decode cX12_nextToken 193 = .ok (.goto 4, 3) := by decide +kernel
theorem dX12_nextToken_196 : decode cX12_nextToken 196 = .ok (.iconst (-1), 1) := by decide +kernel
theorem dX12_nextToken_197 : decode cX12_nextToken 197 = .ok (.putfield 99, 3) := by decide +kernel
theorem dX12_nextToken_200 : decode cX12_nextToken 200 = .ok (.goto 26, 3) := by decide +kernel
theorem dX12_nextToken_203 : decode cX12_nextToken 203 = .ok (.aload_n 0, 1) := by decide +kernel
theorem dX12_nextToken_204 : decode cX12_nextToken 204 = .ok (.aload_n 0, 1) := by decide +kernel
theorem dX12_nextToken_205 : decode cX12_nextToken 205 = .ok (.getfield 7, 3) := by decide +kernel
theorem dX12_nextToken_208 : decode cX12_nextToken 208 = .ok (.aload_n 0, 1) := by decide +kernel
theorem dX12_nextToken_209 : decode cX12_nextToken 209 = .ok (.getfield 90, 3) := by decide +kernel
theorem dX12_nextToken_212 : decode cX12_nextToken 212 = .ok (.iaload, 1) := by decide +kernel
theorem dX12_nextToken_213 : decode cX12_nextToken 213 = .ok (.putfield 99, 3) := by decide +kernel
theorem dX12_nextToken_216 : decode cX12_nextToken 216 = .ok (.aload_n 0, 1) := by decide +kernel
theorem dX12_nextToken_217 : decode cX12_nextToken 217 = .ok (.dup, 1) := by decide +kernel
theorem dX12_nextToken_218 : decode cX12_nextToken 218 = .ok (.getfield 90, 3) := by decide +kernel
theorem dX12_nextToken_221 : decode cX12_nextToken 221 = .ok (.iconst 1, 1) := by decide +kernel
theorem dX12_nextToken_222 : decode cX12_nextToken 222 = .ok (.iadd, 1) := by decide +kernel
theorem dX12_nextToken_223 : decode cX12_nextToken 223 = .ok (.putfield 90, 3) := by decide +kernel
theorem dX12_nextToken_226 : decode cX12_nextToken 226 = .ok (.return_, 1) := by decide +kernel
theorem dX12_fails_0 : decode cX12_fails 0 = .ok (.aload_n 0, 1) := by decide +kernel
theorem dX12_fails_1 : decode cX12_fails 1 = .ok (.iload_n 1, 1) := by decide +kernel
theorem dX12_fails_2 : decode cX12_fails 2 = .ok (.putfield 102, 3) := by decide +kernel
theorem dX12_fails_5 : decode cX12_fails 5 = .ok (.aload_n 0, 1) := by decide +kernel
theorem dX12_fails_6 : decode cX12_fails 6 = .ok (.aload_n 0, 1) := by decide +kernel
theorem dX12_fails_7 : decode cX12_fails 7 = .ok (.getfield 93, 3) := by decide +kernel
theorem dX12_fails_10 : decode cX12_fails 10 = .ok (.putfield 13, 3) := by decide +kernel
theorem dX12_fails_13 : decode cX12_fails 13 = .ok (.iconst 0, 1) := by decide +kernel
theorem dX12_fails_14 : decode cX12_fails 14 = .ok (.ireturn, 1) := by decide +kernel
theorem dX12_isNumber_0 : decode cX12_isNumber 0 = .ok (.aload_n 0, 1) := by decide +kernel
theorem dX12_isNumber_1 : decode cX12_isNumber 1 = .ok (.invokevirtual 105, 3) := by decide +kernel
theorem dX12_isNumber_4 : decode cX12_isNumber 4 = .ok (.aload_n 0, 1) := by decide +kernel
theorem dX12_isNumber_5 : decode cX12_isNumber 5 = .ok (.getfield 99, 3) := by decide +kernel
theorem dX12_isNumber_8 : decode cX12_isNumber 8 = .ok (.iconst (-1), 1) := by decide +kernel
theorem dX12_isNumber_9 : decode cX12_isNumber 9 = .ok (.if_icmp .eq 18, 3) := by decide +kernel
theorem dX12_isNumber_12 : decode cX12_isNumber 12 = .ok (.aload_n 0, 1) := by decide +kernel
theorem dX12_isNumber_13 : decode cX12_isNumber 13 = .ok (.getfield 99, 3) := by decide +kernel
theorem dX12_isNumber_16 : decode cX12_isNumber 16 = .ok (.bipush (-3), 2) := by decide +kernel
theorem dX12_isNumber_18 : decode cX12_isNumber 18 = .ok (.if_icmp .eq 9, 3) := by decide +kernel
theorem dX12_isNumber_21 : decode cX12_isNumber 21 = .ok (.aload_n 0, 1) := by decide +kernel
theorem dX12_isNumber_22 : decode cX12_isNumber 22 = .ok (.iconst 1, 1) := by decide +kernel
theorem dX12_isNumber_23 : decode cX12_isNumber 23 = .ok (.invokevirtual 108, 3) := by decide +kernel
theorem dX12_isNumber_26 : decode cX12_isNumber 26 = .ok (.ireturn, 1) := by decide +kernel
theorem dX12_isNumber_27 : decode cX12_isNumber 27 = .ok (.aload_n 0, 1) := by decide +kernel
theorem dX12_isNumber_28 : decode cX12_isNumber 28 = .ok (.getfield 99, 3) := by decide +kernel
theorem dX12_isNumber_31 : decode cX12_isNumber 31 = .ok (.iconst (-1), 1) := by decide +kernel
theorem dX12_isNumber_32 : decode cX12_isNumber 32 = .ok (.if_icmp .ne 15, 3) := by decide +kernel
theorem dX12_isNumber_35 : decode cX12_isNumber 35 = .ok (.aload_n 0, 1) := by decide +kernel
theorem dX12_isNumber_36 : decode cX12_isNumber 36 = .ok (.getfield 96, 3) := by decide +kernel
theorem dX12_isNumber_39 : decode cX12_isNumber 39 = .ok (.iload_n 1, 1) := by decide +kernel
theorem dX12_isNumber_40 : decode cX12_isNumber 40 = .ok (.iload_n 2, 1) := by decide +kernel
theorem dX12_isNumber_41 : decode cX12_isNumber 41 = .ok (.invokestatic 72, 3) := by decide +kernel
theorem dX12_isNumber_44 : decode cX12_isNumber 44 = .ok (.ifCond .ne 11, 3) := by decide +kernel
theorem dX12_isNumber_47 : decode cX12_isNumber 47 = .ok (.aload_n 0, 1) := by decide +kernel
theorem dX12_isNumber_48 : decode cX12_isNumber 48 = .ok (.iconst 2, 1) := by decide +kernel
theorem dX12_isNumber_49 : decode cX12_isNumber 49 = .ok (.invokevirtual 108, 3) := by decide +kernel
theorem dX12_isNumber_52 : decode cX12_isNumber 52 = .ok (.ifCond .eq 7, 3) := by decide +kernel
theorem dX12_isNumber_55 : decode cX12_isNumber 55 = .ok (.iconst 1, 1) := by decide +kernel
theorem dX12_isNumber_56 : decode cX12_isNumber 56 = .ok (.goto 4, 3) := by decide +kernel
theorem dX12_isNumber_59 : decode cX12_isNumber 59 = .ok (.iconst 0, 1) := by decide +kernel
theorem dX12_isNumber_60 : decode cX12_isNumber 60 = .ok (.ireturn, 1) := by decide +kernel
theorem dX12_isEnd_0 : decode cX12_isEnd 0 = .ok (.aload_n 0, 1) := by decide +kernel
theorem dX12_isEnd_1 : decode cX12_isEnd 1 = .ok (.invokevirtual 105, 3) := by decide +kernel
theorem dX12_isEnd_4 : decode cX12_isEnd 4 = .ok (.aload_n 0, 1) := by decide +kernel
theorem dX12_isEnd_5 : decode cX12_isEnd 5 = .ok (.getfield 99, 3) := by decide +kernel
theorem dX12_isEnd_8 : decode cX12_isEnd 8 = .ok (.bipush 59, 2) := by decide +kernel
theorem dX12_isEnd_10 : decode cX12_isEnd 10 = .ok (.if_icmp .eq 11, 3) := by decide +kernel
theorem dX12_isEnd_13 : decode cX12_isEnd 13 = .ok (.aload_n 0, 1) := by decide +kernel
theorem dX12_isEnd_14 : decode cX12_isEnd 14 = .ok (.iconst 1, 1) := by decide +kernel
theorem dX12_isEnd_15 : decode cX12_isEnd 15 = .ok (.invokevirtual 108, 3) := by decide +kernel
theorem dX12_isEnd_18 : decode cX12_isEnd 18 = .ok (.ifCond .eq 7, 3) := by decide +kernel
theorem dX12_isEnd_21 : decode cX12_isEnd 21 = .ok (.iconst 1, 1) := by decide +kernel
theorem dX12_isEnd_22 : decode cX12_isEnd 22 = .ok (.goto 4, 3) := by decide +kernel
theorem dX12_isEnd_25 : decode cX12_isEnd 25 = .ok (.iconst 0, 1) := by decide +kernel
theorem dX12_isEnd_26 : decode cX12_isEnd 26 = .ok (.ireturn, 1) := by decide +kernel
theorem dX12_isWeightLine_0 : decode cX12_isWeightLine 0 = .ok (.aload_n 0, 1) := by decide +kernel
theorem dX12_isWeightLine_1 : decode cX12_isWeightLine 1 = .ok (.getfield 112, 3) := by decide +kernel
theorem dX12_isWeightLine_4 : decode cX12_isWeightLine 4 = .ok (.ifCond .eq 9, 3) := by decide +kernel
theorem dX12_isWeightLine_7 : decode cX12_isWeightLine 7 = .ok (.aload_n 0, 1) := by decide +kernel
theorem dX12_isWeightLine_8 : decode cX12_isWeightLine 8 = .ok (.iconst 3, 1) := by decide +kernel
theorem dX12_isWeightLine_9 : decode cX12_isWeightLine 9 = .ok (.invokevirtual 108, 3) := by decide +kernel
theorem dX12_isWeightLine_12 : decode cX12_isWeightLine 12 = .ok (.ireturn, 1) := by decide +kernel
theorem dX12_isWeightLine_13 : decode cX12_isWeightLine 13 = .ok (.aload_n 0, 1) := by decide +kernel
theorem dX12_isWeightLine_14 : decode cX12_isWeightLine 14 = .ok (.iconst 1, 1) := by decide +kernel
theorem dX12_isWeightLine_15 : decode cX12_isWeightLine 15 = .ok (.putfield 112, 3) := by decide +kernel
theorem dX12_isWeightLine_18 : decode cX12_isWeightLine 18 = .ok (.iconst 1, 1) := by decide +kernel
theorem dX12_isWeightLine_19 : decode cX12_isWeightLine 19 = .ok (.istore_n 1, 1) := by decide +kernel
theorem dX12_isWeightLine_20 : decode cX12_isWeightLine 20 = .ok (.iload_n 1, 1) := by decide +kernel
theorem dX12_isWeightLine_21 : decode cX12_isWeightLine 21 = .ok (.ifCond .eq 69, 3) := by decide +kernel
theorem dX12_isWeightLine_24 : decode cX12_isWeightLine 24 = .ok (.aload_n 0, 1) := by decide +kernel
theorem dX12_isWeightLine_25 : decode cX12_isWeightLine 25 = .ok (.iconst 0, 1) := by decide +kernel
theorem dX12_isWeightLine_26 : decode cX12_isWeightLine 26 = .ok (.bipush 30, 2) := by decide +kernel
theorem dX12_isWeightLine_28 : decode cX12_isWeightLine 28 = .ok (.invokevirtual 116, 3) := by decide +kernel
theorem dX12_isWeightLine_31 : decode cX12_isWeightLine 31 = .ok (.ifCond .ne 5, 3) := by decide +kernel
theorem dX12_isWeightLine_34 : decode cX12_isWeightLine 34 = .ok (.iconst 0, 1) := by decide +kernel
theorem dX12_isWeightLine_35 : decode cX12_isWeightLine 35 = .ok (.ireturn, 1) := by decide +kernel
theorem dX12_isWeightLine_36 : decode cX12_isWeightLine 36 = .ok (.aload_n 0, 1) := by decide +kernel
theorem dX12_isWeightLine_37 : decode cX12_isWeightLine 37 = .ok (.getfield 17, 3) := by decide +kernel
theorem dX12_isWeightLine_40 : decode cX12_isWeightLine 40 = .ok (.aload_n 0, 1) := by decide +kernel
theorem dX12_isWeightLine_41 : decode cX12_isWeightLine 41 = .ok (.getfield 120, 3) := by decide +kernel
theorem dX12_isWeightLine_44 : decode cX12_isWeightLine 44 = .ok (.aload_n 0, 1) := by decide +kernel
theorem dX12_isWeightLine_45 : decode cX12_isWeightLine 45 = .ok (.getfield 96, 3) := by decide +kernel
theorem dX12_isWeightLine_48 : decode cX12_isWeightLine 48 = .ok (.iastore, 1) := by decide +kernel
theorem dX12_isWeightLine_49 : decode cX12_isWeightLine 49 = .ok (.aload_n 0, 1) := by decide +kernel
theorem dX12_isWeightLine_50 : decode cX12_isWeightLine 50 = .ok (.dup, 1) := by decide +kernel
theorem dX12_isWeightLine_51 : decode cX12_isWeightLine 51 = .ok (.getfield 120, 3) := by decide +kernel
theorem dX12_isWeightLine_54 : decode cX12_isWeightLine 54 = .ok (.iconst 1, 1) := by decide +kernel
theorem dX12_isWeightLine_55 : decode cX12_isWeightLine 55 = .ok (.iadd, 1) := by decide +kernel
theorem dX12_isWeightLine_56 : decode cX12_isWeightLine 56 = .ok (.putfield 120, 3) := by decide +kernel
theorem dX12_isWeightLine_59 : decode cX12_isWeightLine 59 = .ok (.aload_n 0, 1) := by decide +kernel
theorem dX12_isWeightLine_60 : decode cX12_isWeightLine 60 = .ok (.invokevirtual 105, 3) := by decide +kernel
theorem dX12_isWeightLine_63 : decode cX12_isWeightLine 63 = .ok (.aload_n 0, 1) := by decide +kernel
theorem dX12_isWeightLine_64 : decode cX12_isWeightLine 64 = .ok (.getfield 99, 3) := by decide +kernel
theorem dX12_isWeightLine_67 : decode cX12_isWeightLine 67 = .ok (.bipush 44, 2) := by decide +kernel
theorem dX12_isWeightLine_69 : decode cX12_isWeightLine 69 = .ok (.if_icmp .ne 16, 3) := by decide +kernel
theorem dX12_isWeightLine_72 : decode cX12_isWeightLine 72 = .ok (.aload_n 0, 1) := by decide +kernel
theorem dX12_isWeightLine_73 : decode cX12_isWeightLine 73 = .ok (.getfield 120, 3) := by decide +kernel
theorem dX12_isWeightLine_76 : decode cX12_isWeightLine 76 = .ok (.bipush 12, 2) := by decide +kernel
theorem dX12_isWeightLine_78 : decode cX12_isWeightLine 78 = .ok (.if_icmp .ge 7, 3) := by decide +kernel
theorem dX12_isWeightLine_81 : decode cX12_isWeightLine 81 = .ok (.iconst 1, 1) := by decide +kernel
theorem dX12_isWeightLine_82 : decode cX12_isWeightLine 82 = .ok (.goto 4, 3) := by decide +kernel
theorem dX12_isWeightLine_85 : decode cX12_isWeightLine 85 = .ok (.iconst 0, 1) := by decide +kernel
theorem dX12_isWeightLine_86 : decode cX12_isWeightLine 86 = .ok (.istore_n 1, 1) := by decide +kernel
theorem dX12_isWeightLine_87 : decode cX12_isWeightLine 87 = .ok (.goto (-67), 3) := by decide +kernel
theorem dX12_isWeightLine_90 : decode cX12_isWeightLine 90 = .ok (.aload_n 0, 1) := by decide +kernel
theorem dX12_isWeightLine_91 : decode cX12_isWeightLine 91 = .ok (.getfield 99, 3) := by decide +kernel
theorem dX12_isWeightLine_94 : decode cX12_isWeightLine 94 = .ok (.bipush 59, 2) := by decide +kernel
theorem dX12_isWeightLine_96 : decode cX12_isWeightLine 96 = .ok (.if_icmp .eq 11, 3) := by decide +kernel
theorem dX12_isWeightLine_99 : decode cX12_isWeightLine 99 = .ok (.aload_n 0, 1) := by decide +kernel
theorem dX12_isWeightLine_100 : decode cX12_isWeightLine 100 = .ok (.iconst 1, 1) := by decide +kernel
theorem dX12_isWeightLine_101 : decode cX12_isWeightLine 101 = .ok (.invokevirtual 108, 3) := by decide +kernel
theorem dX12_isWeightLine_104 : decode cX12_isWeightLine 104 = .ok (.ifCond .eq 7, 3) := by decide +kernel
theorem dX12_isWeightLine_107 : decode cX12_isWeightLine 107 = .ok (.iconst 1, 1) := by decide +kernel
theorem dX12_isWeightLine_108 : decode cX12_isWeightLine 108 = .ok (.goto 4, 3) := by decide +kernel
theorem dX12_isWeightLine_111 : decode cX12_isWeightLine 111 = .ok (.iconst 0, 1) := by decide +kernel
theorem dX12_isWeightLine_112 : decode cX12_isWeightLine 112 = .ok (.ireturn, 1) := by decide +kernel
theorem dX12_isPersonLine_0 : decode cX12_isPersonLine 0 = .ok (.aload_n 0, 1) := by decide +kernel
theorem dX12_isPersonLine_1 : decode cX12_isPersonLine 1 = .ok (.getfield 123, 3) := by decide +kernel
theorem dX12_isPersonLine_4 : decode cX12_isPersonLine 4 = .ok (.bipush 6, 2) := by decide +kernel
theorem dX12_isPersonLine_6 : decode cX12_isPersonLine 6 = .ok (.if_icmp .ne 9, 3) := by decide +kernel
theorem dX12_isPersonLine_9 : decode cX12_isPersonLine 9 = .ok (.aload_n 0, 1) := by decide +kernel
theorem dX12_isPersonLine_10 : decode cX12_isPersonLine 10 = .ok (.iconst 3, 1) := by decide +kernel
theorem dX12_isPersonLine_11 : decode cX12_isPersonLine 11 = .ok (.invokevirtual 108, 3) := by decide +kernel
theorem dX12_isPersonLine_14 : decode cX12_isPersonLine 14 = .ok (.ireturn, 1) := by decide +kernel
theorem dX12_isPersonLine_15 : decode cX12_isPersonLine 15 = .ok (.iconst 5, 1) := by decide +kernel
theorem dX12_isPersonLine_16 : decode cX12_isPersonLine 16 = .ok (.aload_n 0, 1) := by decide +kernel
theorem dX12_isPersonLine_17 : decode cX12_isPersonLine 17 = .ok (.getfield 123, 3) := by decide +kernel
theorem dX12_isPersonLine_20 : decode cX12_isPersonLine 20 = .ok (.imul, 1) := by decide +kernel
theorem dX12_isPersonLine_21 : decode cX12_isPersonLine 21 = .ok (.istore_n 1, 1) := by decide +kernel
theorem dX12_isPersonLine_22 : decode cX12_isPersonLine 22 = .ok (.iconst 0, 1) := by decide +kernel
theorem dX12_isPersonLine_23 : decode cX12_isPersonLine 23 = .ok (.istore_n 2, 1) := by decide +kernel
theorem dX12_isPersonLine_24 : decode cX12_isPersonLine 24 = .ok (.iload_n 2, 1) := by decide +kernel
theorem dX12_isPersonLine_25 : decode cX12_isPersonLine 25 = .ok (.iconst 4, 1) := by decide +kernel
theorem dX12_isPersonLine_26 : decode cX12_isPersonLine 26 = .ok (.if_icmp .ge 65, 3) := by decide +kernel
theorem dX12_isPersonLine_29 : decode cX12_isPersonLine 29 = .ok (.aload_n 0, 1) := by decide +kernel
theorem dX12_isPersonLine_30 : decode cX12_isPersonLine 30 = .ok (.iload_n 2, 1) := by decide +kernel
theorem dX12_isPersonLine_31 : decode cX12_isPersonLine 31 = .ok (.iconst 1, 1) := by decide +kernel
theorem dX12_isPersonLine_32 : decode cX12_isPersonLine 32 = .ok (.if_icmp .eq 8, 3) := by decide +kernel
theorem dX12_isPersonLine_35 : decode cX12_isPersonLine 35 = .ok (.iload_n 2, 1) := by decide +kernel
theorem dX12_isPersonLine_36 : decode cX12_isPersonLine 36 = .ok (.iconst 2, 1) := by decide +kernel
theorem dX12_isPersonLine_37 : decode cX12_isPersonLine 37 = .ok (.if_icmp .ne 7, 3) := by decide +kernel
theorem dX12_isPersonLine_40 : decode cX12_isPersonLine 40 = .ok (.iconst 1, 1) := by decide +kernel
theorem dX12_isPersonLine_41 : decode cX12_isPersonLine 41 = .ok (.goto 4, 3) := by decide +kernel
theorem dX12_isPersonLine_44 : decode cX12_isPersonLine 44 = .ok (.iconst 0, 1) := by decide +kernel
theorem dX12_isPersonLine_45 : decode cX12_isPersonLine 45 = .ok (.iload_n 2, 1) := by decide +kernel
theorem dX12_isPersonLine_46 : decode cX12_isPersonLine 46 = .ok (.ifCond .ne 7, 3) := by decide +kernel
theorem dX12_isPersonLine_49 : decode cX12_isPersonLine 49 = .ok (.iconst 4, 1) := by decide +kernel
theorem dX12_isPersonLine_50 : decode cX12_isPersonLine 50 = .ok (.goto 15, 3) := by decide +kernel
theorem dX12_isPersonLine_53 : decode cX12_isPersonLine 53 = .ok (.iload_n 2, 1) := by decide +kernel
theorem dX12_isPersonLine_54 : decode cX12_isPersonLine 54 = .ok (.iconst 1, 1) := by decide +kernel
theorem dX12_isPersonLine_55 : decode cX12_isPersonLine 55 = .ok (.if_icmp .ne 8, 3) := by decide +kernel
theorem dX12_isPersonLine_58 : decode cX12_isPersonLine 58 = .ok (.bipush 20, 2) := by decide +kernel
theorem dX12_isPersonLine_60 : decode cX12_isPersonLine 60 = .ok (.goto 5, 3) := by decide +kernel
theorem dX12_isPersonLine_63 : decode cX12_isPersonLine 63 = .ok (.bipush 9, 2) := by decide +kernel
theorem dX12_isPersonLine_65 : decode cX12_isPersonLine 65 = .ok (.invokevirtual 116, 3) := by decide +kernel
theorem dX12_isPersonLine_68 : decode cX12_isPersonLine 68 = .ok (.ifCond .ne 5, 3) := by decide +kernel
theorem dX12_isPersonLine_71 : decode cX12_isPersonLine 71 = .ok (.iconst 0, 1) := by decide +kernel
theorem dX12_isPersonLine_72 : decode cX12_isPersonLine 72 = .ok (.ireturn, 1) := by decide +kernel
theorem dX12_isPersonLine_73 : decode cX12_isPersonLine 73 = .ok (.aload_n 0, 1) := by decide +kernel
theorem dX12_isPersonLine_74 : decode cX12_isPersonLine 74 = .ok (.getfield 20, 3) := by decide +kernel
theorem dX12_isPersonLine_77 : decode cX12_isPersonLine 77 = .ok (.iload_n 1, 1) := by decide +kernel
theorem dX12_isPersonLine_78 : decode cX12_isPersonLine 78 = .ok (.iload_n 2, 1) := by decide +kernel
theorem dX12_isPersonLine_79 : decode cX12_isPersonLine 79 = .ok (.iadd, 1) := by decide +kernel
theorem dX12_isPersonLine_80 : decode cX12_isPersonLine 80 = .ok (.aload_n 0, 1) := by decide +kernel
theorem dX12_isPersonLine_81 : decode cX12_isPersonLine 81 = .ok (.getfield 96, 3) := by decide +kernel
theorem dX12_isPersonLine_84 : decode cX12_isPersonLine 84 = .ok (.iastore, 1) := by decide +kernel
theorem dX12_isPersonLine_85 : decode cX12_isPersonLine 85 = .ok (.iinc 2 1, 3) := by decide +kernel
theorem dX12_isPersonLine_88 : decode cX12_isPersonLine 88 = .ok (.goto (-64), 3) := by decide +kernel
theorem dX12_isPersonLine_91 : decode cX12_isPersonLine 91 = .ok (.aload_n 0, 1) := by decide +kernel
theorem dX12_isPersonLine_92 : decode cX12_isPersonLine 92 = .ok (.iconst 0, 1) := by decide +kernel
theorem dX12_isPersonLine_93 : decode cX12_isPersonLine 93 = .ok (.bipush 9, 2) := by decide +kernel
theorem dX12_isPersonLine_95 : decode cX12_isPersonLine 95 = .ok (.invokevirtual 116, 3) := by decide +kernel
theorem dX12_isPersonLine_98 : decode cX12_isPersonLine 98 = .ok (.ifCond .ne 5, 3) := by decide +kernel
theorem dX12_isPersonLine_101 : decode cX12_isPersonLine 101 = .ok (.iconst 0, 1) := by decide +kernel
theorem dX12_isPersonLine_102 : decode cX12_isPersonLine 102 = .ok (.ireturn, 1) := by decide +kernel
theorem dX12_isPersonLine_103 : decode cX12_isPersonLine 103 = .ok (.aload_n 0, 1) := by decide +kernel
theorem dX12_isPersonLine_104 : decode cX12_isPersonLine 104 = .ok (.getfield 96, 3) := by decide +kernel
theorem dX12_isPersonLine_107 : decode cX12_isPersonLine 107 = .ok (.bipush 9, 2) := by decide +kernel
theorem dX12_isPersonLine_109 : decode cX12_isPersonLine 109 = .ok (.if_icmp .eq 20, 3) := by decide +kernel
theorem dX12_isPersonLine_112 : decode cX12_isPersonLine 112 = .ok (.aload_n 0, 1) := by decide +kernel
theorem dX12_isPersonLine_113 : decode cX12_isPersonLine 113 = .ok (.getfield 96, 3) := by decide +kernel
theorem dX12_isPersonLine_116 : decode cX12_isPersonLine 116 = .ok (.aload_n 0, 1) := by decide +kernel
theorem dX12_isPersonLine_117 : decode cX12_isPersonLine 117 = .ok (.getfield 123, 3) := by decide +kernel
theorem dX12_isPersonLine_120 : decode cX12_isPersonLine 120 = .ok (.if_icmp .lt 9, 3) := by decide +kernel
theorem dX12_isPersonLine_123 : decode cX12_isPersonLine 123 = .ok (.aload_n 0, 1) := by decide +kernel
theorem dX12_isPersonLine_124 : decode cX12_isPersonLine 124 = .ok (.iconst 2, 1) := by decide +kernel
theorem dX12_isPersonLine_125 : decode cX12_isPersonLine 125 = .ok (.invokevirtual 108, 3) := by decide +kernel
theorem dX12_isPersonLine_128 : decode cX12_isPersonLine 128 = .ok (.ireturn, 1) := by decide +kernel
theorem dX12_isPersonLine_129 : decode cX12_isPersonLine 129 = .ok (.aload_n 0, 1) := by decide +kernel
theorem dX12_isPersonLine_130 : decode cX12_isPersonLine 130 = .ok (.getfield 20, 3) := by decide +kernel
theorem dX12_isPersonLine_133 : decode cX12_isPersonLine 133 = .ok (.iload_n 1, 1) := by decide +kernel
theorem dX12_isPersonLine_134 : decode cX12_isPersonLine 134 = .ok (.iconst 4, 1) := by decide +kernel
theorem dX12_isPersonLine_135 : decode cX12_isPersonLine 135 = .ok (.iadd, 1) := by decide +kernel
theorem dX12_isPersonLine_136 : decode cX12_isPersonLine 136 = .ok (.aload_n 0, 1) := by decide +kernel
theorem dX12_isPersonLine_137 : decode cX12_isPersonLine 137 = .ok (.getfield 96, 3) := by decide +kernel
theorem dX12_isPersonLine_140 : decode cX12_isPersonLine 140 = .ok (.bipush 9, 2) := by decide +kernel
theorem dX12_isPersonLine_142 : decode cX12_isPersonLine 142 = .ok (.if_icmp .ne 7, 3) := by decide +kernel
theorem dX12_isPersonLine_145 : decode cX12_isPersonLine 145 = .ok (.iconst (-1), 1) := by decide +kernel
theorem dX12_isPersonLine_146 : decode cX12_isPersonLine 146 = .ok (.goto 7, 3) := by decide +kernel
theorem dX12_isPersonLine_149 : decode cX12_isPersonLine 149 = .ok (.aload_n 0, 1) := by decide +kernel
theorem dX12_isPersonLine_150 : decode cX12_isPersonLine 150 = .ok (.getfield 96, 3) := by decide +kernel
theorem dX12_isPersonLine_153 : decode cX12_isPersonLine 153 = .ok (.iastore, 1) := by decide +kernel
theorem dX12_isPersonLine_154 : decode cX12_isPersonLine 154 = .ok (.aload_n 0, 1) := by decide +kernel
theorem dX12_isPersonLine_155 : decode cX12_isPersonLine 155 = .ok (.dup, 1) := by decide +kernel
theorem dX12_isPersonLine_156 : decode cX12_isPersonLine 156 = .ok (.getfield 123, 3) := by decide +kernel
theorem dX12_isPersonLine_159 : decode cX12_isPersonLine 159 = .ok (.iconst 1, 1) := by decide +kernel
theorem dX12_isPersonLine_160 : decode cX12_isPersonLine 160 = .ok (.iadd, 1) := by decide +kernel
theorem dX12_isPersonLine_161 : decode cX12_isPersonLine 161 = .ok (.putfield 123, 3) := by decide +kernel
theorem dX12_isPersonLine_164 : decode cX12_isPersonLine 164 = .ok (.aload_n 0, 1) := by decide +kernel
theorem dX12_isPersonLine_165 : decode cX12_isPersonLine 165 = .ok (.invokevirtual 126, 3) := by decide +kernel
theorem dX12_isPersonLine_168 : decode cX12_isPersonLine 168 = .ok (.ireturn, 1) := by decide +kernel
theorem dX12_isWordLine_0 : decode cX12_isWordLine 0 = .ok (.aload_n 0, 1) := by decide +kernel
theorem dX12_isWordLine_1 : decode cX12_isWordLine 1 = .ok (.getfield 130, 3) := by decide +kernel
theorem dX12_isWordLine_4 : decode cX12_isWordLine 4 = .ok (.ifCond .eq 9, 3) := by decide +kernel
theorem dX12_isWordLine_7 : decode cX12_isWordLine 7 = .ok (.aload_n 0, 1) := by decide +kernel
theorem dX12_isWordLine_8 : decode cX12_isWordLine 8 = .ok (.iconst 3, 1) := by decide +kernel
theorem dX12_isWordLine_9 : decode cX12_isWordLine 9 = .ok (.invokevirtual 108, 3) := by decide +kernel
theorem dX12_isWordLine_12 : decode cX12_isWordLine 12 = .ok (.ireturn, 1) := by decide +kernel
theorem dX12_isWordLine_13 : decode cX12_isWordLine 13 = .ok (.aload_n 0, 1) := by decide +kernel
theorem dX12_isWordLine_14 : decode cX12_isWordLine 14 = .ok (.iconst 1, 1) := by decide +kernel
theorem dX12_isWordLine_15 : decode cX12_isWordLine 15 = .ok (.putfield 130, 3) := by decide +kernel
theorem dX12_isWordLine_18 : decode cX12_isWordLine 18 = .ok (.iconst 0, 1) := by decide +kernel
theorem dX12_isWordLine_19 : decode cX12_isWordLine 19 = .ok (.istore_n 1, 1) := by decide +kernel
theorem dX12_isWordLine_20 : decode cX12_isWordLine 20 = .ok (.iload_n 1, 1) := by decide +kernel
theorem dX12_isWordLine_21 : decode cX12_isWordLine 21 = .ok (.iconst 3, 1) := by decide +kernel
theorem dX12_isWordLine_22 : decode cX12_isWordLine 22 = .ok (.if_icmp .ge 31, 3) := by decide +kernel
theorem dX12_isWordLine_25 : decode cX12_isWordLine 25 = .ok (.aload_n 0, 1) := by decide +kernel
theorem dX12_isWordLine_26 : decode cX12_isWordLine 26 = .ok (.iconst 0, 1) := by decide +kernel
theorem dX12_isWordLine_27 : decode cX12_isWordLine 27 = .ok (.bipush 9, 2) := by decide +kernel
theorem dX12_isWordLine_29 : decode cX12_isWordLine 29 = .ok (.invokevirtual 116, 3) := by decide +kernel
theorem dX12_isWordLine_32 : decode cX12_isWordLine 32 = .ok (.ifCond .ne 5, 3) := by decide +kernel
theorem dX12_isWordLine_35 : decode cX12_isWordLine 35 = .ok (.iconst 0, 1) := by decide +kernel
theorem dX12_isWordLine_36 : decode cX12_isWordLine 36 = .ok (.ireturn, 1) := by decide +kernel
theorem dX12_isWordLine_37 : decode cX12_isWordLine 37 = .ok (.aload_n 0, 1) := by decide +kernel
theorem dX12_isWordLine_38 : decode cX12_isWordLine 38 = .ok (.getfield 23, 3) := by decide +kernel
theorem dX12_isWordLine_41 : decode cX12_isWordLine 41 = .ok (.iload_n 1, 1) := by decide +kernel
theorem dX12_isWordLine_42 : decode cX12_isWordLine 42 = .ok (.aload_n 0, 1) := by decide +kernel
theorem dX12_isWordLine_43 : decode cX12_isWordLine 43 = .ok (.getfield 96, 3) := by decide +kernel
theorem dX12_isWordLine_46 : decode cX12_isWordLine 46 = .ok (.iastore, 1) := by decide +kernel
theorem dX12_isWordLine_47 : decode cX12_isWordLine 47 = .ok (.iinc 1 1, 3) := by decide +kernel
theorem dX12_isWordLine_50 : decode cX12_isWordLine 50 = .ok (.goto (-30), 3) := by decide +kernel
theorem dX12_isWordLine_53 : decode cX12_isWordLine 53 = .ok (.aload_n 0, 1) := by decide +kernel
theorem dX12_isWordLine_54 : decode cX12_isWordLine 54 = .ok (.invokevirtual 126, 3) := by decide +kernel
theorem dX12_isWordLine_57 : decode cX12_isWordLine 57 = .ok (.ireturn, 1) := by decide +kernel
theorem dX12_isFruitLine_0 : decode cX12_isFruitLine 0 = .ok (.aload_n 0, 1) := by decide +kernel
theorem dX12_isFruitLine_1 : decode cX12_isFruitLine 1 = .ok (.getfield 133, 3) := by decide +kernel
theorem dX12_isFruitLine_4 : decode cX12_isFruitLine 4 = .ok (.ifCond .eq 9, 3) := by decide +kernel
theorem dX12_isFruitLine_7 : decode cX12_isFruitLine 7 = .ok (.aload_n 0, 1) := by decide +kernel
theorem dX12_isFruitLine_8 : decode cX12_isFruitLine 8 = .ok (.iconst 3, 1) := by decide +kernel
theorem dX12_isFruitLine_9 : decode cX12_isFruitLine 9 = .ok (.invokevirtual 108, 3) := by decide +kernel
theorem dX12_isFruitLine_12 : decode cX12_isFruitLine 12 = .ok (.ireturn, 1) := by decide +kernel
theorem dX12_isFruitLine_13 : decode cX12_isFruitLine 13 = .ok (.aload_n 0, 1) := by decide +kernel
theorem dX12_isFruitLine_14 : decode cX12_isFruitLine 14 = .ok (.iconst 1, 1) := by decide +kernel
theorem dX12_isFruitLine_15 : decode cX12_isFruitLine 15 = .ok (.putfield 133, 3) := by decide +kernel
theorem dX12_isFruitLine_18 : decode cX12_isFruitLine 18 = .ok (.aload_n 0, 1) := by decide +kernel
theorem dX12_isFruitLine_19 : decode cX12_isFruitLine 19 = .ok (.iconst 0, 1) := by decide +kernel
theorem dX12_isFruitLine_20 : decode cX12_isFruitLine 20 = .ok (.bipush 99, 2) := by decide +kernel
theorem dX12_isFruitLine_22 : decode cX12_isFruitLine 22 = .ok (.invokevirtual 116, 3) := by decide +kernel
theorem dX12_isFruitLine_25 : decode cX12_isFruitLine 25 = .ok (.ifCond .ne 5, 3) := by decide +kernel
theorem dX12_isFruitLine_28 : decode cX12_isFruitLine 28 = .ok (.iconst 0, 1) := by decide +kernel
theorem dX12_isFruitLine_29 : decode cX12_isFruitLine 29 = .ok (.ireturn, 1) := by decide +kernel
theorem dX12_isFruitLine_30 : decode cX12_isFruitLine 30 = .ok (.aload_n 0, 1) := by decide +kernel
theorem dX12_isFruitLine_31 : decode cX12_isFruitLine 31 = .ok (.aload_n 0, 1) := by decide +kernel
theorem dX12_isFruitLine_32 : decode cX12_isFruitLine 32 = .ok (.getfield 96, 3) := by decide +kernel
theorem dX12_isFruitLine_35 : decode cX12_isFruitLine 35 = .ok (.putfield 136, 3) := by decide +kernel
theorem dX12_isFruitLine_38 : decode cX12_isFruitLine 38 = .ok (.aload_n 0, 1) := by decide +kernel
theorem dX12_isFruitLine_39 : decode cX12_isFruitLine 39 = .ok (.invokevirtual 126, 3) := by decide +kernel
theorem dX12_isFruitLine_42 : decode cX12_isFruitLine 42 = .ok (.ireturn, 1) := by decide +kernel
theorem dX12_isRead_0 : decode cX12_isRead 0 = .ok (.aload_n 0, 1) := by decide +kernel
theorem dX12_isRead_1 : decode cX12_isRead 1 = .ok (.iconst 0, 1) := by decide +kernel
theorem dX12_isRead_2 : decode cX12_isRead 2 = .ok (.putfield 90, 3) := by decide +kernel
theorem dX12_isRead_5 : decode cX12_isRead 5 = .ok (.aload_n 0, 1) := by decide +kernel
theorem dX12_isRead_6 : decode cX12_isRead 6 = .ok (.iconst 0, 1) := by decide +kernel
theorem dX12_isRead_7 : decode cX12_isRead 7 = .ok (.putfield 120, 3) := by decide +kernel
theorem dX12_isRead_10 : decode cX12_isRead 10 = .ok (.aload_n 0, 1) := by decide +kernel
theorem dX12_isRead_11 : decode cX12_isRead 11 = .ok (.iconst 0, 1) := by decide +kernel
theorem dX12_isRead_12 : decode cX12_isRead 12 = .ok (.putfield 123, 3) := by decide +kernel
theorem dX12_isRead_15 : decode cX12_isRead 15 = .ok (.aload_n 0, 1) := by decide +kernel
theorem dX12_isRead_16 : decode cX12_isRead 16 = .ok (.bipush 9, 2) := by decide +kernel
theorem dX12_isRead_18 : decode cX12_isRead 18 = .ok (.putfield 136, 3) := by decide +kernel
theorem dX12_isRead_21 : decode cX12_isRead 21 = .ok (.aload_n 0, 1) := by decide +kernel
theorem dX12_isRead_22 : decode cX12_isRead 22 = .ok (.iconst 0, 1) := by decide +kernel
theorem dX12_isRead_23 : decode cX12_isRead 23 = .ok (.putfield 112, 3) := by decide +kernel
theorem dX12_isRead_26 : decode cX12_isRead 26 = .ok (.aload_n 0, 1) := by decide +kernel
theorem dX12_isRead_27 : decode cX12_isRead 27 = .ok (.iconst 0, 1) := by decide +kernel
theorem dX12_isRead_28 : decode cX12_isRead 28 = .ok (.putfield 130, 3) := by decide +kernel
theorem dX12_isRead_31 : decode cX12_isRead 31 = .ok (.aload_n 0, 1) := by decide +kernel
theorem dX12_isRead_32 : decode cX12_isRead 32 = .ok (.iconst 0, 1) := by decide +kernel
theorem dX12_isRead_33 : decode cX12_isRead 33 = .ok (.putfield 133, 3) := by decide +kernel
theorem dX12_isRead_36 : decode cX12_isRead 36 = .ok (.iconst 0, 1) := by decide +kernel
theorem dX12_isRead_37 : decode cX12_isRead 37 = .ok (.istore_n 1, 1) := by decide +kernel
theorem dX12_isRead_38 : decode cX12_isRead 38 = .ok (.iload_n 1, 1) := by decide +kernel
theorem dX12_isRead_39 : decode cX12_isRead 39 = .ok (.iconst 3, 1) := by decide +kernel
theorem dX12_isRead_40 : decode cX12_isRead 40 = .ok (.if_icmp .ge 20, 3) := by decide +kernel
theorem dX12_isRead_43 : decode cX12_isRead 43 = .ok (.aload_n 0, 1) := by decide +kernel
theorem dX12_isRead_44 : decode cX12_isRead 44 = .ok (.getfield 23, 3) := by decide +kernel
theorem dX12_isRead_47 : decode cX12_isRead 47 = .ok (.iload_n 1, 1) := by decide +kernel
theorem dX12_isRead_48 : decode cX12_isRead 48 = .ok (.iconst 3, 1) := by decide +kernel
theorem dX12_isRead_49 : decode cX12_isRead 49 = .ok (.iconst 2, 1) := by decide +kernel
theorem dX12_isRead_50 : decode cX12_isRead 50 = .ok (.iload_n 1, 1) := by decide +kernel
theorem dX12_isRead_51 : decode cX12_isRead 51 = .ok (.imul, 1) := by decide +kernel
theorem dX12_isRead_52 : decode cX12_isRead 52 = .ok (.iadd, 1) := by decide +kernel
theorem dX12_isRead_53 : decode cX12_isRead 53 = .ok (.iastore, 1) := by decide +kernel
theorem dX12_isRead_54 : decode cX12_isRead 54 = .ok (.iinc 1 1, 3) := by decide +kernel
theorem dX12_isRead_57 : decode cX12_isRead 57 = .ok (.goto (-19), 3) := by decide +kernel
theorem dX12_isRead_60 : decode cX12_isRead 60 = .ok (.iconst 1, 1) := by decide +kernel
theorem dX12_isRead_61 : decode cX12_isRead 61 = .ok (.istore_n 1, 1) := by decide +kernel
theorem dX12_isRead_62 : decode cX12_isRead 62 = .ok (.iload_n 1, 1) := by decide +kernel
theorem dX12_isRead_63 : decode cX12_isRead 63 = .ok (.ifCond .eq 119, 3) := by decide +kernel
theorem dX12_isRead_66 : decode cX12_isRead 66 = .ok (.aload_n 0, 1) := by decide +kernel
theorem dX12_isRead_67 : decode cX12_isRead 67 = .ok (.invokevirtual 105, 3) := by decide +kernel
theorem dX12_isRead_70 : decode cX12_isRead 70 = .ok (.aload_n 0, 1) := by decide +kernel
theorem dX12_isRead_71 : decode cX12_isRead 71 = .ok (.getfield 99, 3) := by decide +kernel
theorem dX12_isRead_74 : decode cX12_isRead 74 = .ok (.bipush (-2), 2) := by decide +kernel
theorem dX12_isRead_76 : decode cX12_isRead 76 = .ok (.if_icmp .ne 8, 3) := by decide +kernel
theorem dX12_isRead_79 : decode cX12_isRead 79 = .ok (.iconst 0, 1) := by decide +kernel
theorem dX12_isRead_80 : decode cX12_isRead 80 = .ok (.istore_n 1, 1) := by decide +kernel
theorem dX12_isRead_81 : decode cX12_isRead 81 = .ok (.goto (-19), 3) := by decide +kernel
theorem dX12_isRead_84 : decode cX12_isRead 84 = .ok (.aload_n 0, 1) := by decide +kernel
theorem dX12_isRead_85 : decode cX12_isRead 85 = .ok (.getfield 99, 3) := by decide +kernel
theorem dX12_isRead_88 : decode cX12_isRead 88 = .ok (.bipush 119, 2) := by decide +kernel
theorem dX12_isRead_90 : decode cX12_isRead 90 = .ok (.if_icmp .ne 11, 3) := by decide +kernel
theorem dX12_isRead_93 : decode cX12_isRead 93 = .ok (.aload_n 0, 1) := by decide +kernel
theorem dX12_isRead_94 : decode cX12_isRead 94 = .ok (.invokevirtual 139, 3) := by decide +kernel
theorem dX12_isRead_97 : decode cX12_isRead 97 = .ok (.istore_n 1, 1) := by decide +kernel
theorem dX12_isRead_98 : decode cX12_isRead 98 = .ok (.goto (-36), 3) := by decide +kernel
theorem dX12_isRead_101 : decode cX12_isRead 101 = .ok (.aload_n 0, 1) := by decide +kernel
theorem dX12_isRead_102 : decode cX12_isRead 102 = .ok (.getfield 112, 3) := by decide +kernel
theorem dX12_isRead_105 : decode cX12_isRead 105 = .ok (.ifCond .eq 20, 3) := by decide +kernel
theorem dX12_isRead_108 : decode cX12_isRead 108 = .ok (.aload_n 0, 1) := by decide +kernel
theorem dX12_isRead_109 : decode cX12_isRead 109 = .ok (.getfield 99, 3) := by decide +kernel
theorem dX12_isRead_112 : decode cX12_isRead 112 = .ok (.bipush 112, 2) := by decide +kernel
theorem dX12_isRead_114 : decode cX12_isRead 114 = .ok (.if_icmp .ne 11, 3) := by decide +kernel
theorem dX12_isRead_117 : decode cX12_isRead 117 = .ok (.aload_n 0, 1) := by decide +kernel
theorem dX12_isRead_118 : decode cX12_isRead 118 = .ok (.invokevirtual 142, 3) := by decide +kernel
theorem dX12_isRead_121 : decode cX12_isRead 121 = .ok (.istore_n 1, 1) := by decide +kernel
theorem dX12_isRead_122 : decode cX12_isRead 122 = .ok (.goto (-60), 3) := by decide +kernel
theorem dX12_isRead_125 : decode cX12_isRead 125 = .ok (.aload_n 0, 1) := by decide +kernel
theorem dX12_isRead_126 : decode cX12_isRead 126 = .ok (.getfield 112, 3) := by decide +kernel
theorem dX12_isRead_129 : decode cX12_isRead 129 = .ok (.ifCond .eq 20, 3) := by decide +kernel
theorem dX12_isRead_132 : decode cX12_isRead 132 = .ok (.aload_n 0, 1) := by decide +kernel
theorem dX12_isRead_133 : decode cX12_isRead 133 = .ok (.getfield 99, 3) := by decide +kernel
theorem dX12_isRead_136 : decode cX12_isRead 136 = .ok (.bipush 116, 2) := by decide +kernel
theorem dX12_isRead_138 : decode cX12_isRead 138 = .ok (.if_icmp .ne 11, 3) := by decide +kernel
theorem dX12_isRead_141 : decode cX12_isRead 141 = .ok (.aload_n 0, 1) := by decide +kernel
theorem dX12_isRead_142 : decode cX12_isRead 142 = .ok (.invokevirtual 145, 3) := by decide +kernel
theorem dX12_isRead_145 : decode cX12_isRead 145 = .ok (.istore_n 1, 1) := by decide +kernel
theorem dX12_isRead_146 : decode cX12_isRead 146 = .ok (.goto (-84), 3) := by decide +kernel
theorem dX12_isRead_149 : decode cX12_isRead 149 = .ok (.aload_n 0, 1) := by decide +kernel
theorem dX12_isRead_150 : decode cX12_isRead 150 = .ok (.getfield 112, 3) := by decide +kernel
theorem dX12_isRead_153 : decode cX12_isRead 153 = .ok (.ifCond .eq 20, 3) := by decide +kernel
theorem dX12_isRead_156 : decode cX12_isRead 156 = .ok (.aload_n 0, 1) := by decide +kernel
theorem dX12_isRead_157 : decode cX12_isRead 157 = .ok (.getfield 99, 3) := by decide +kernel
theorem dX12_isRead_160 : decode cX12_isRead 160 = .ok (.bipush 102, 2) := by decide +kernel
theorem dX12_isRead_162 : decode cX12_isRead 162 = .ok (.if_icmp .ne 11, 3) := by decide +kernel
theorem dX12_isRead_165 : decode cX12_isRead 165 = .ok (.aload_n 0, 1) := by decide +kernel
theorem dX12_isRead_166 : decode cX12_isRead 166 = .ok (.invokevirtual 148, 3) := by decide +kernel
theorem dX12_isRead_169 : decode cX12_isRead 169 = .ok (.istore_n 1, 1) := by decide +kernel
theorem dX12_isRead_170 : decode cX12_isRead 170 = .ok (.goto (-108), 3) := by decide +kernel
theorem dX12_isRead_173 : decode cX12_isRead 173 = .ok (.aload_n 0, 1) := by decide +kernel
theorem dX12_isRead_174 : decode cX12_isRead 174 = .ok (.iconst 1, 1) := by decide +kernel
theorem dX12_isRead_175 : decode cX12_isRead 175 = .ok (.invokevirtual 108, 3) := by decide +kernel
theorem dX12_isRead_178 : decode cX12_isRead 178 = .ok (.istore_n 1, 1) := by decide +kernel
theorem dX12_isRead_179 : decode cX12_isRead 179 = .ok (.goto (-117), 3) := by decide +kernel
theorem dX12_isRead_182 : decode cX12_isRead 182 = .ok (.aload_n 0, 1) := by decide +kernel
theorem dX12_isRead_183 : decode cX12_isRead 183 = .ok (.getfield 13, 3) := by decide +kernel
theorem dX12_isRead_186 : decode cX12_isRead 186 = .ok (.iconst (-1), 1) := by decide +kernel
theorem dX12_isRead_187 : decode cX12_isRead 187 = .ok (.if_icmp .ne 7, 3) := by decide +kernel
theorem dX12_isRead_190 : decode cX12_isRead 190 = .ok (.iconst 1, 1) := by decide +kernel
theorem dX12_isRead_191 : decode cX12_isRead 191 = .ok (.goto 4, 3) := by decide +kernel
theorem dX12_isRead_194 : decode cX12_isRead 194 = .ok (.iconst 0, 1) := by decide +kernel
theorem dX12_isRead_195 : decode cX12_isRead 195 = .ok (.ireturn, 1) := by decide +kernel
theorem dX12_edge_0 : decode cX12_edge 0 = .ok (.aload_n 0, 1) := by decide +kernel
theorem dX12_edge_1 : decode cX12_edge 1 = .ok (.iconst (-1), 1) := by decide +kernel
theorem dX12_edge_2 : decode cX12_edge 2 = .ok (.putfield 13, 3) := by decide +kernel
theorem dX12_edge_5 : decode cX12_edge 5 = .ok (.aload_n 0, 1) := by decide +kernel
theorem dX12_edge_6 : decode cX12_edge 6 = .ok (.invokevirtual 151, 3) := by decide +kernel
theorem dX12_edge_9 : decode cX12_edge 9 = .ok (.istore_n 1, 1) := by decide +kernel
theorem dX12_edge_10 : decode cX12_edge 10 = .ok (.aload_n 0, 1) := by decide +kernel
theorem dX12_edge_11 : decode cX12_edge 11 = .ok (.iconst 0, 1) := by decide +kernel
theorem dX12_edge_12 : decode cX12_edge 12 = .ok (.putfield 86, 3) := by decide +kernel
theorem dX12_edge_15 : decode cX12_edge 15 = .ok (.iload_n 1, 1) := by decide +kernel
theorem dX12_edge_16 : decode cX12_edge 16 = .ok (.ifCond .ne 11, 3) := by decide +kernel
theorem dX12_edge_19 : decode cX12_edge 19 = .ok (.bipush (-10), 2) := by decide +kernel
theorem dX12_edge_21 : decode cX12_edge 21 = .ok (.aload_n 0, 1) := by decide +kernel
theorem dX12_edge_22 : decode cX12_edge 22 = .ok (.getfield 102, 3) := by decide +kernel
theorem dX12_edge_25 : decode cX12_edge 25 = .ok (.isub, 1) := by decide +kernel
theorem dX12_edge_26 : decode cX12_edge 26 = .ok (.ireturn, 1) := by decide +kernel
theorem dX12_edge_27 : decode cX12_edge 27 = .ok (.aload_n 0, 1) := by decide +kernel
theorem dX12_edge_28 : decode cX12_edge 28 = .ok (.aload_n 0, 1) := by decide +kernel
theorem dX12_edge_29 : decode cX12_edge 29 = .ok (.getfield 120, 3) := by decide +kernel
theorem dX12_edge_32 : decode cX12_edge 32 = .ok (.putfield 154, 3) := by decide +kernel
theorem dX12_edge_35 : decode cX12_edge 35 = .ok (.iconst 0, 1) := by decide +kernel
theorem dX12_edge_36 : decode cX12_edge 36 = .ok (.istore_n 2, 1) := by decide +kernel
theorem dX12_edge_37 : decode cX12_edge 37 = .ok (.iload_n 2, 1) := by decide +kernel
theorem dX12_edge_38 : decode cX12_edge 38 = .ok (.aload_n 0, 1) := by decide +kernel
theorem dX12_edge_39 : decode cX12_edge 39 = .ok (.getfield 154, 3) := by decide +kernel
theorem dX12_edge_42 : decode cX12_edge 42 = .ok (.if_icmp .ge 21, 3) := by decide +kernel
theorem dX12_edge_45 : decode cX12_edge 45 = .ok (.aload_n 0, 1) := by decide +kernel
theorem dX12_edge_46 : decode cX12_edge 46 = .ok (.getfield 26, 3) := by decide +kernel
theorem dX12_edge_49 : decode cX12_edge 49 = .ok (.iload_n 2, 1) := by decide +kernel
theorem dX12_edge_50 : decode cX12_edge 50 = .ok (.aload_n 0, 1) := by decide +kernel
theorem dX12_edge_51 : decode cX12_edge 51 = .ok (.getfield 17, 3) := by decide +kernel
theorem dX12_edge_54 : decode cX12_edge 54 = .ok (.iload_n 2, 1) := by decide +kernel
theorem dX12_edge_55 : decode cX12_edge 55 = .ok (.iaload, 1) := by decide +kernel
theorem dX12_edge_56 : decode cX12_edge 56 = .ok (.iastore, 1) := by decide +kernel
theorem dX12_edge_57 : decode cX12_edge 57 = .ok (.iinc 2 1, 3) := by decide +kernel
theorem dX12_edge_60 : decode cX12_edge 60 = .ok (.goto (-23), 3) := by decide +kernel
theorem dX12_edge_63 : decode cX12_edge 63 = .ok (.aload_n 0, 1) := by decide +kernel
theorem dX12_edge_64 : decode cX12_edge 64 = .ok (.aload_n 0, 1) := by decide +kernel
theorem dX12_edge_65 : decode cX12_edge 65 = .ok (.getfield 123, 3) := by decide +kernel
theorem dX12_edge_68 : decode cX12_edge 68 = .ok (.putfield 69, 3) := by decide +kernel
theorem dX12_edge_71 : decode cX12_edge 71 = .ok (.iconst 0, 1) := by decide +kernel
theorem dX12_edge_72 : decode cX12_edge 72 = .ok (.istore_n 2, 1) := by decide +kernel
theorem dX12_edge_73 : decode cX12_edge 73 = .ok (.iload_n 2, 1) := by decide +kernel
theorem dX12_edge_74 : decode cX12_edge 74 = .ok (.iconst 5, 1) := by decide +kernel
theorem dX12_edge_75 : decode cX12_edge 75 = .ok (.aload_n 0, 1) := by decide +kernel
theorem dX12_edge_76 : decode cX12_edge 76 = .ok (.getfield 69, 3) := by decide +kernel
theorem dX12_edge_79 : decode cX12_edge 79 = .ok (.imul, 1) := by decide +kernel
theorem dX12_edge_80 : decode cX12_edge 80 = .ok (.if_icmp .ge 21, 3) := by decide +kernel
theorem dX12_edge_83 : decode cX12_edge 83 = .ok (.aload_n 0, 1) := by decide +kernel
theorem dX12_edge_84 : decode cX12_edge 84 = .ok (.getfield 29, 3) := by decide +kernel
theorem dX12_edge_87 : decode cX12_edge 87 = .ok (.iload_n 2, 1) := by decide +kernel
theorem dX12_edge_88 : decode cX12_edge 88 = .ok (.aload_n 0, 1) := by decide +kernel
theorem dX12_edge_89 : decode cX12_edge 89 = .ok (.getfield 20, 3) := by decide +kernel
theorem dX12_edge_92 : decode cX12_edge 92 = .ok (.iload_n 2, 1) := by decide +kernel
theorem dX12_edge_93 : decode cX12_edge 93 = .ok (.iaload, 1) := by decide +kernel
theorem dX12_edge_94 : decode cX12_edge 94 = .ok (.iastore, 1) := by decide +kernel
theorem dX12_edge_95 : decode cX12_edge 95 = .ok (.iinc 2 1, 3) := by decide +kernel
theorem dX12_edge_98 : decode cX12_edge 98 = .ok (.goto (-25), 3) := by decide +kernel
theorem dX12_edge_101 : decode cX12_edge 101 = .ok (.iconst 0, 1) := by decide +kernel
theorem dX12_edge_102 : decode cX12_edge 102 = .ok (.istore_n 2, 1) := by decide +kernel
theorem dX12_edge_103 : decode cX12_edge 103 = .ok (.iload_n 2, 1) := by decide +kernel
theorem dX12_edge_104 : decode cX12_edge 104 = .ok (.iconst 3, 1) := by decide +kernel
theorem dX12_edge_105 : decode cX12_edge 105 = .ok (.if_icmp .ge 21, 3) := by decide +kernel
theorem dX12_edge_108 : decode cX12_edge 108 = .ok (.aload_n 0, 1) := by decide +kernel
theorem dX12_edge_109 : decode cX12_edge 109 = .ok (.getfield 32, 3) := by decide +kernel
theorem dX12_edge_112 : decode cX12_edge 112 = .ok (.iload_n 2, 1) := by decide +kernel
theorem dX12_edge_113 : decode cX12_edge 113 = .ok (.aload_n 0, 1) := by decide +kernel
theorem dX12_edge_114 : decode cX12_edge 114 = .ok (.getfield 23, 3) := by decide +kernel
theorem dX12_edge_117 : decode cX12_edge 117 = .ok (.iload_n 2, 1) := by decide +kernel
theorem dX12_edge_118 : decode cX12_edge 118 = .ok (.iaload, 1) := by decide +kernel
theorem dX12_edge_119 : decode cX12_edge 119 = .ok (.iastore, 1) := by decide +kernel
theorem dX12_edge_120 : decode cX12_edge 120 = .ok (.iinc 2 1, 3) := by decide +kernel
theorem dX12_edge_123 : decode cX12_edge 123 = .ok (.goto (-20), 3) := by decide +kernel
theorem dX12_edge_126 : decode cX12_edge 126 = .ok (.aload_n 0, 1) := by decide +kernel
theorem dX12_edge_127 : decode cX12_edge 127 = .ok (.invokevirtual 66, 3) := by decide +kernel
theorem dX12_edge_130 : decode cX12_edge 130 = .ok (.aload_n 0, 1) := by decide +kernel
theorem dX12_edge_131 : decode cX12_edge 131 = .ok (.getfield 35, 3) := by decide +kernel
theorem dX12_edge_134 : decode cX12_edge 134 = .ok (.iconst 3, 1) := by decide +kernel
theorem dX12_edge_135 : decode cX12_edge 135 = .ok (.aload_n 0, 1) := by decide +kernel
theorem dX12_edge_136 : decode cX12_edge 136 = .ok (.getfield 136, 3) := by decide +kernel
theorem dX12_edge_139 : decode cX12_edge 139 = .ok (.iastore, 1) := by decide +kernel
theorem dX12_edge_140 : decode cX12_edge 140 = .ok (.aload_n 0, 1) := by decide +kernel
theorem dX12_edge_141 : decode cX12_edge 141 = .ok (.getfield 69, 3) := by decide +kernel
theorem dX12_edge_144 : decode cX12_edge 144 = .ok (.ireturn, 1) := by decide +kernel
theorem dX12_fault_0 : decode cX12_fault 0 = .ok (.aload_n 0, 1) := by decide +kernel
theorem dX12_fault_1 : decode cX12_fault 1 = .ok (.getfield 13, 3) := by decide +kernel
theorem dX12_fault_4 : decode cX12_fault 4 = .ok (.ireturn, 1) := by decide +kernel
theorem dX12_kindOf_0 : decode cX12_kindOf 0 = .ok (.aload_n 0, 1) := by decide +kernel
theorem dX12_kindOf_1 : decode cX12_kindOf 1 = .ok (.getfield 29, 3) := by decide +kernel
theorem dX12_kindOf_4 : decode cX12_kindOf 4 = .ok (.iconst 5, 1) := by decide +kernel
theorem dX12_kindOf_5 : decode cX12_kindOf 5 = .ok (.iload_n 1, 1) := by decide +kernel
theorem dX12_kindOf_6 : decode cX12_kindOf 6 = .ok (.imul, 1) := by decide +kernel
theorem dX12_kindOf_7 : decode cX12_kindOf 7 = .ok (.iaload, 1) := by decide +kernel
theorem dX12_kindOf_8 : decode cX12_kindOf 8 = .ok (.ireturn, 1) := by decide +kernel
theorem dX12_fatherOf_0 : decode cX12_fatherOf 0 = .ok (.aload_n 0, 1) := by decide +kernel
theorem dX12_fatherOf_1 : decode cX12_fatherOf 1 = .ok (.getfield 29, 3) := by decide +kernel
theorem dX12_fatherOf_4 : decode cX12_fatherOf 4 = .ok (.iconst 5, 1) := by decide +kernel
theorem dX12_fatherOf_5 : decode cX12_fatherOf 5 = .ok (.iload_n 1, 1) := by decide +kernel
theorem dX12_fatherOf_6 : decode cX12_fatherOf 6 = .ok (.imul, 1) := by decide +kernel
theorem dX12_fatherOf_7 : decode cX12_fatherOf 7 = .ok (.iconst 4, 1) := by decide +kernel
theorem dX12_fatherOf_8 : decode cX12_fatherOf 8 = .ok (.iadd, 1) := by decide +kernel
theorem dX12_fatherOf_9 : decode cX12_fatherOf 9 = .ok (.iaload, 1) := by decide +kernel
theorem dX12_fatherOf_10 : decode cX12_fatherOf 10 = .ok (.ireturn, 1) := by decide +kernel
theorem dX12_forceOf_0 : decode cX12_forceOf 0 = .ok (.aload_n 0, 1) := by decide +kernel
theorem dX12_forceOf_1 : decode cX12_forceOf 1 = .ok (.getfield 29, 3) := by decide +kernel
theorem dX12_forceOf_4 : decode cX12_forceOf 4 = .ok (.iconst 5, 1) := by decide +kernel
theorem dX12_forceOf_5 : decode cX12_forceOf 5 = .ok (.iload_n 2, 1) := by decide +kernel
theorem dX12_forceOf_6 : decode cX12_forceOf 6 = .ok (.imul, 1) := by decide +kernel
theorem dX12_forceOf_7 : decode cX12_forceOf 7 = .ok (.iconst 1, 1) := by decide +kernel
theorem dX12_forceOf_8 : decode cX12_forceOf 8 = .ok (.iadd, 1) := by decide +kernel
theorem dX12_forceOf_9 : decode cX12_forceOf 9 = .ok (.iaload, 1) := by decide +kernel
theorem dX12_forceOf_10 : decode cX12_forceOf 10 = .ok (.aload_n 1, 1) := by decide +kernel
theorem dX12_forceOf_11 : decode cX12_forceOf 11 = .ok (.bipush 7, 2) := by decide +kernel
theorem dX12_forceOf_13 : decode cX12_forceOf 13 = .ok (.iload_n 2, 1) := by decide +kernel
theorem dX12_forceOf_14 : decode cX12_forceOf 14 = .ok (.iadd, 1) := by decide +kernel
theorem dX12_forceOf_15 : decode cX12_forceOf 15 = .ok (.iaload, 1) := by decide +kernel
theorem dX12_forceOf_16 : decode cX12_forceOf 16 = .ok (.iconst 2, 1) := by decide +kernel
theorem dX12_forceOf_17 : decode cX12_forceOf 17 = .ok (.idiv, 1) := by decide +kernel
theorem dX12_forceOf_18 : decode cX12_forceOf 18 = .ok (.isub, 1) := by decide +kernel
theorem dX12_forceOf_19 : decode cX12_forceOf 19 = .ok (.istore_n 3, 1) := by decide +kernel
theorem dX12_forceOf_20 : decode cX12_forceOf 20 = .ok (.iload_n 3, 1) := by decide +kernel
theorem dX12_forceOf_21 : decode cX12_forceOf 21 = .ok (.ifCond .ge 7, 3) := by decide +kernel
theorem dX12_forceOf_24 : decode cX12_forceOf 24 = .ok (.iconst 0, 1) := by decide +kernel
theorem dX12_forceOf_25 : decode cX12_forceOf 25 = .ok (.goto 4, 3) := by decide +kernel
theorem dX12_forceOf_28 : decode cX12_forceOf 28 = .ok (.iload_n 3, 1) := by decide +kernel
theorem dX12_forceOf_29 : decode cX12_forceOf 29 = .ok (.istore_n 3, 1) := by decide +kernel
theorem dX12_forceOf_30 : decode cX12_forceOf 30 = .ok (.aload_n 1, 1) := by decide +kernel
theorem dX12_forceOf_31 : decode cX12_forceOf 31 = .ok (.iconst 0, 1) := by decide +kernel
theorem dX12_forceOf_32 : decode cX12_forceOf 32 = .ok (.iaload, 1) := by decide +kernel
theorem dX12_forceOf_33 : decode cX12_forceOf 33 = .ok (.iconst 3, 1) := by decide +kernel
theorem dX12_forceOf_34 : decode cX12_forceOf 34 = .ok (.irem, 1) := by decide +kernel
theorem dX12_forceOf_35 : decode cX12_forceOf 35 = .ok (.iconst 2, 1) := by decide +kernel
theorem dX12_forceOf_36 : decode cX12_forceOf 36 = .ok (.if_icmp .ne 9, 3) := by decide +kernel
theorem dX12_forceOf_39 : decode cX12_forceOf 39 = .ok (.iload_n 3, 1) := by decide +kernel
theorem dX12_forceOf_40 : decode cX12_forceOf 40 = .ok (.iconst 2, 1) := by decide +kernel
theorem dX12_forceOf_41 : decode cX12_forceOf 41 = .ok (.idiv, 1) := by decide +kernel
theorem dX12_forceOf_42 : decode cX12_forceOf 42 = .ok (.goto 4, 3) := by decide +kernel
theorem dX12_forceOf_45 : decode cX12_forceOf 45 = .ok (.iload_n 3, 1) := by decide +kernel
theorem dX12_forceOf_46 : decode cX12_forceOf 46 = .ok (.istore 4, 2) := by decide +kernel
theorem dX12_forceOf_48 : decode cX12_forceOf 48 = .ok (.aload_n 0, 1) := by decide +kernel
theorem dX12_forceOf_49 : decode cX12_forceOf 49 = .ok (.iload_n 2, 1) := by decide +kernel
theorem dX12_forceOf_50 : decode cX12_forceOf 50 = .ok (.invokevirtual 157, 3) := by decide +kernel
theorem dX12_forceOf_53 : decode cX12_forceOf 53 = .ok (.tableswitch 69 2 4 #[27, 51, 54], 27) := by decide +kernel
theorem dX12_forceOf_80 : decode cX12_forceOf 80 = .ok (.aload_n 1, 1) := by decide +kernel
theorem dX12_forceOf_81 : decode cX12_forceOf 81 = .ok (.bipush 19, 2) := by decide +kernel
theorem dX12_forceOf_83 : decode cX12_forceOf 83 = .ok (.iload_n 2, 1) := by decide +kernel
theorem dX12_forceOf_84 : decode cX12_forceOf 84 = .ok (.iadd, 1) := by decide +kernel
theorem dX12_forceOf_85 : decode cX12_forceOf 85 = .ok (.iaload, 1) := by decide +kernel
theorem dX12_forceOf_86 : decode cX12_forceOf 86 = .ok (.ifCond .le 7, 3) := by decide +kernel
theorem dX12_forceOf_89 : decode cX12_forceOf 89 = .ok (.iconst 0, 1) := by decide +kernel
theorem dX12_forceOf_90 : decode cX12_forceOf 90 = .ok (.goto 13, 3) := by decide +kernel
theorem dX12_forceOf_93 : decode cX12_forceOf 93 = .ok (.aload_n 0, 1) := by decide +kernel
theorem dX12_forceOf_94 : decode cX12_forceOf 94 = .ok (.getfield 29, 3) := by decide +kernel
theorem dX12_forceOf_97 : decode cX12_forceOf 97 = .ok (.iconst 5, 1) := by decide +kernel
theorem dX12_forceOf_98 : decode cX12_forceOf 98 = .ok (.iload_n 2, 1) := by decide +kernel
theorem dX12_forceOf_99 : decode cX12_forceOf 99 = .ok (.imul, 1) := by decide +kernel
theorem dX12_forceOf_100 : decode cX12_forceOf 100 = .ok (.iconst 1, 1) := by decide +kernel
theorem dX12_forceOf_101 : decode cX12_forceOf 101 = .ok (.iadd, 1) := by decide +kernel
theorem dX12_forceOf_102 : decode cX12_forceOf 102 = .ok (.iaload, 1) := by decide +kernel
theorem dX12_forceOf_103 : decode cX12_forceOf 103 = .ok (.ireturn, 1) := by decide +kernel
theorem dX12_forceOf_104 : decode cX12_forceOf 104 = .ok (.iload 4, 2) := by decide +kernel
theorem dX12_forceOf_106 : decode cX12_forceOf 106 = .ok (.ireturn, 1) := by decide +kernel
theorem dX12_forceOf_107 : decode cX12_forceOf 107 = .ok (.aload_n 1, 1) := by decide +kernel
theorem dX12_forceOf_108 : decode cX12_forceOf 108 = .ok (.iconst 3, 1) := by decide +kernel
theorem dX12_forceOf_109 : decode cX12_forceOf 109 = .ok (.iaload, 1) := by decide +kernel
theorem dX12_forceOf_110 : decode cX12_forceOf 110 = .ok (.ifCond .le 10, 3) := by decide +kernel
theorem dX12_forceOf_113 : decode cX12_forceOf 113 = .ok (.iload 4, 2) := by decide +kernel
theorem dX12_forceOf_115 : decode cX12_forceOf 115 = .ok (.iconst 2, 1) := by decide +kernel
theorem dX12_forceOf_116 : decode cX12_forceOf 116 = .ok (.iadd, 1) := by decide +kernel
theorem dX12_forceOf_117 : decode cX12_forceOf 117 = .ok (.goto 4, 3) := by decide +kernel
theorem dX12_forceOf_120 : decode cX12_forceOf 120 = .ok (.iconst 0, 1) := by decide +kernel
theorem dX12_forceOf_121 : decode cX12_forceOf 121 = .ok (.ireturn, 1) := by decide +kernel
theorem dX12_forceOf_122 : decode cX12_forceOf 122 = .ok (.iload_n 3, 1) := by decide +kernel
theorem dX12_forceOf_123 : decode cX12_forceOf 123 = .ok (.ireturn, 1) := by decide +kernel
theorem dX12_forceOfAll_0 : decode cX12_forceOfAll 0 = .ok (.aload_n 1, 1) := by decide +kernel
theorem dX12_forceOfAll_1 : decode cX12_forceOfAll 1 = .ok (.iconst 4, 1) := by decide +kernel
theorem dX12_forceOfAll_2 : decode cX12_forceOfAll 2 = .ok (.iaload, 1) := by decide +kernel
theorem dX12_forceOfAll_3 : decode cX12_forceOfAll 3 = .ok (.iconst (-1), 1) := by decide +kernel
theorem dX12_forceOfAll_4 : decode cX12_forceOfAll 4 = .ok (.if_icmp .ne 7, 3) := by decide +kernel
theorem dX12_forceOfAll_7 : decode cX12_forceOfAll 7 = .ok (.iconst 0, 1) := by decide +kernel
theorem dX12_forceOfAll_8 : decode cX12_forceOfAll 8 = .ok (.goto 11, 3) := by decide +kernel
theorem dX12_forceOfAll_11 : decode cX12_forceOfAll 11 = .ok (.aload_n 0, 1) := by decide +kernel
theorem dX12_forceOfAll_12 : decode cX12_forceOfAll 12 = .ok (.aload_n 1, 1) := by decide +kernel
theorem dX12_forceOfAll_13 : decode cX12_forceOfAll 13 = .ok (.aload_n 1, 1) := by decide +kernel
theorem dX12_forceOfAll_14 : decode cX12_forceOfAll 14 = .ok (.iconst 4, 1) := by decide +kernel
theorem dX12_forceOfAll_15 : decode cX12_forceOfAll 15 = .ok (.iaload, 1) := by decide +kernel
theorem dX12_forceOfAll_16 : decode cX12_forceOfAll 16 = .ok (.invokevirtual 161, 3) := by decide +kernel
theorem dX12_forceOfAll_19 : decode cX12_forceOfAll 19 = .ok (.istore_n 2, 1) := by decide +kernel
theorem dX12_forceOfAll_20 : decode cX12_forceOfAll 20 = .ok (.aload_n 1, 1) := by decide +kernel
theorem dX12_forceOfAll_21 : decode cX12_forceOfAll 21 = .ok (.iconst 5, 1) := by decide +kernel
theorem dX12_forceOfAll_22 : decode cX12_forceOfAll 22 = .ok (.iaload, 1) := by decide +kernel
theorem dX12_forceOfAll_23 : decode cX12_forceOfAll 23 = .ok (.iconst (-1), 1) := by decide +kernel
theorem dX12_forceOfAll_24 : decode cX12_forceOfAll 24 = .ok (.if_icmp .ne 7, 3) := by decide +kernel
theorem dX12_forceOfAll_27 : decode cX12_forceOfAll 27 = .ok (.iload_n 2, 1) := by decide +kernel
theorem dX12_forceOfAll_28 : decode cX12_forceOfAll 28 = .ok (.goto 13, 3) := by decide +kernel
theorem dX12_forceOfAll_31 : decode cX12_forceOfAll 31 = .ok (.iload_n 2, 1) := by decide +kernel
theorem dX12_forceOfAll_32 : decode cX12_forceOfAll 32 = .ok (.aload_n 0, 1) := by decide +kernel
theorem dX12_forceOfAll_33 : decode cX12_forceOfAll 33 = .ok (.aload_n 1, 1) := by decide +kernel
theorem dX12_forceOfAll_34 : decode cX12_forceOfAll 34 = .ok (.aload_n 1, 1) := by decide +kernel
theorem dX12_forceOfAll_35 : decode cX12_forceOfAll 35 = .ok (.iconst 5, 1) := by decide +kernel
theorem dX12_forceOfAll_36 : decode cX12_forceOfAll 36 = .ok (.iaload, 1) := by decide +kernel
theorem dX12_forceOfAll_37 : decode cX12_forceOfAll 37 = .ok (.invokevirtual 161, 3) := by decide +kernel
theorem dX12_forceOfAll_40 : decode cX12_forceOfAll 40 = .ok (.iadd, 1) := by decide +kernel
theorem dX12_forceOfAll_41 : decode cX12_forceOfAll 41 = .ok (.ireturn, 1) := by decide +kernel
theorem dX12_weightOf_0 : decode cX12_weightOf 0 = .ok (.aload_n 0, 1) := by decide +kernel
theorem dX12_weightOf_1 : decode cX12_weightOf 1 = .ok (.getfield 154, 3) := by decide +kernel
theorem dX12_weightOf_4 : decode cX12_weightOf 4 = .ok (.ifCond .ne 7, 3) := by decide +kernel
theorem dX12_weightOf_7 : decode cX12_weightOf 7 = .ok (.iconst 0, 1) := by decide +kernel
theorem dX12_weightOf_8 : decode cX12_weightOf 8 = .ok (.goto 16, 3) := by decide +kernel
theorem dX12_weightOf_11 : decode cX12_weightOf 11 = .ok (.aload_n 0, 1) := by decide +kernel
theorem dX12_weightOf_12 : decode cX12_weightOf 12 = .ok (.getfield 26, 3) := by decide +kernel
theorem dX12_weightOf_15 : decode cX12_weightOf 15 = .ok (.aload_n 1, 1) := by decide +kernel
theorem dX12_weightOf_16 : decode cX12_weightOf 16 = .ok (.iconst 0, 1) := by decide +kernel
theorem dX12_weightOf_17 : decode cX12_weightOf 17 = .ok (.iaload, 1) := by decide +kernel
theorem dX12_weightOf_18 : decode cX12_weightOf 18 = .ok (.aload_n 0, 1) := by decide +kernel
theorem dX12_weightOf_19 : decode cX12_weightOf 19 = .ok (.getfield 154, 3) := by decide +kernel
theorem dX12_weightOf_22 : decode cX12_weightOf 22 = .ok (.irem, 1) := by decide +kernel
theorem dX12_weightOf_23 : decode cX12_weightOf 23 = .ok (.iaload, 1) := by decide +kernel
theorem dX12_weightOf_24 : decode cX12_weightOf 24 = .ok (.ireturn, 1) := by decide +kernel
theorem dX12_pass_0 : decode cX12_pass 0 = .ok (.aload_n 0, 1) := by decide +kernel
theorem dX12_pass_1 : decode cX12_pass 1 = .ok (.aload_n 1, 1) := by decide +kernel
theorem dX12_pass_2 : decode cX12_pass 2 = .ok (.invokevirtual 165, 3) := by decide +kernel
theorem dX12_pass_5 : decode cX12_pass 5 = .ok (.iload_n 2, 1) := by decide +kernel
theorem dX12_pass_6 : decode cX12_pass 6 = .ok (.isub, 1) := by decide +kernel
theorem dX12_pass_7 : decode cX12_pass 7 = .ok (.istore_n 3, 1) := by decide +kernel
theorem dX12_pass_8 : decode cX12_pass 8 = .ok (.iload_n 3, 1) := by decide +kernel
theorem dX12_pass_9 : decode cX12_pass 9 = .ok (.ifCond .ge 7, 3) := by decide +kernel
theorem dX12_pass_12 : decode cX12_pass 12 = .ok (.iconst 0, 1) := by decide +kernel
theorem dX12_pass_13 : decode cX12_pass 13 = .ok (.goto 4, 3) := by decide +kernel
theorem dX12_pass_16 : decode cX12_pass 16 = .ok (.iload_n 3, 1) := by decide +kernel
theorem dX12_pass_17 : decode cX12_pass 17 = .ok (.istore_n 3, 1) := by decide +kernel
theorem dX12_pass_18 : decode cX12_pass 18 = .ok (.aload_n 0, 1) := by decide +kernel
theorem dX12_pass_19 : decode cX12_pass 19 = .ok (.aload_n 1, 1) := by decide +kernel
theorem dX12_pass_20 : decode cX12_pass 20 = .ok (.invokevirtual 169, 3) := by decide +kernel
theorem dX12_pass_23 : decode cX12_pass 23 = .ok (.istore 4, 2) := by decide +kernel
theorem dX12_pass_25 : decode cX12_pass 25 = .ok (.iload 4, 2) := by decide +kernel
theorem dX12_pass_27 : decode cX12_pass 27 = .ok (.iload_n 3, 1) := by decide +kernel
theorem dX12_pass_28 : decode cX12_pass 28 = .ok (.if_icmp .ge 35, 3) := by decide +kernel
theorem dX12_pass_31 : decode cX12_pass 31 = .ok (.aload_n 1, 1) := by decide +kernel
theorem dX12_pass_32 : decode cX12_pass 32 = .ok (.iconst 1, 1) := by decide +kernel
theorem dX12_pass_33 : decode cX12_pass 33 = .ok (.aload_n 1, 1) := by decide +kernel
theorem dX12_pass_34 : decode cX12_pass 34 = .ok (.iconst 1, 1) := by decide +kernel
theorem dX12_pass_35 : decode cX12_pass 35 = .ok (.iaload, 1) := by decide +kernel
theorem dX12_pass_36 : decode cX12_pass 36 = .ok (.iload_n 3, 1) := by decide +kernel
theorem dX12_pass_37 : decode cX12_pass 37 = .ok (.iadd, 1) := by decide +kernel
theorem dX12_pass_38 : decode cX12_pass 38 = .ok (.iload 4, 2) := by decide +kernel
theorem dX12_pass_40 : decode cX12_pass 40 = .ok (.isub, 1) := by decide +kernel
theorem dX12_pass_41 : decode cX12_pass 41 = .ok (.bipush 99, 2) := by decide +kernel
theorem dX12_pass_43 : decode cX12_pass 43 = .ok (.if_icmp .le 8, 3) := by decide +kernel
theorem dX12_pass_46 : decode cX12_pass 46 = .ok (.bipush 99, 2) := by decide +kernel
theorem dX12_pass_48 : decode cX12_pass 48 = .ok (.goto 11, 3) := by decide +kernel
theorem dX12_pass_51 : decode cX12_pass 51 = .ok (.aload_n 1, 1) := by decide +kernel
theorem dX12_pass_52 : decode cX12_pass 52 = .ok (.iconst 1, 1) := by decide +kernel
theorem dX12_pass_53 : decode cX12_pass 53 = .ok (.iaload, 1) := by decide +kernel
theorem dX12_pass_54 : decode cX12_pass 54 = .ok (.iload_n 3, 1) := by decide +kernel
theorem dX12_pass_55 : decode cX12_pass 55 = .ok (.iadd, 1) := by decide +kernel
theorem dX12_pass_56 : decode cX12_pass 56 = .ok (.iload 4, 2) := by decide +kernel
theorem dX12_pass_58 : decode cX12_pass 58 = .ok (.isub, 1) := by decide +kernel
theorem dX12_pass_59 : decode cX12_pass 59 = .ok (.iastore, 1) := by decide +kernel
theorem dX12_pass_60 : decode cX12_pass 60 = .ok (.goto 27, 3) := by decide +kernel
theorem dX12_pass_63 : decode cX12_pass 63 = .ok (.iload 4, 2) := by decide +kernel
theorem dX12_pass_65 : decode cX12_pass 65 = .ok (.iload_n 3, 1) := by decide +kernel
theorem dX12_pass_66 : decode cX12_pass 66 = .ok (.if_icmp .le 21, 3) := by decide +kernel
theorem dX12_pass_69 : decode cX12_pass 69 = .ok (.aload_n 1, 1) := by decide +kernel
theorem dX12_pass_70 : decode cX12_pass 70 = .ok (.iconst 1, 1) := by decide +kernel
theorem dX12_pass_71 : decode cX12_pass 71 = .ok (.aload_n 1, 1) := by decide +kernel
theorem dX12_pass_72 : decode cX12_pass 72 = .ok (.iconst 1, 1) := by decide +kernel
theorem dX12_pass_73 : decode cX12_pass 73 = .ok (.iaload, 1) := by decide +kernel
theorem dX12_pass_74 : decode cX12_pass 74 = .ok (.ifCond .le 11, 3) := by decide +kernel
theorem dX12_pass_77 : decode cX12_pass 77 = .ok (.aload_n 1, 1) := by decide +kernel
theorem dX12_pass_78 : decode cX12_pass 78 = .ok (.iconst 1, 1) := by decide +kernel
theorem dX12_pass_79 : decode cX12_pass 79 = .ok (.iaload, 1) := by decide +kernel
theorem dX12_pass_80 : decode cX12_pass 80 = .ok (.iconst 1, 1) := by decide +kernel
theorem dX12_pass_81 : decode cX12_pass 81 = .ok (.isub, 1) := by decide +kernel
theorem dX12_pass_82 : decode cX12_pass 82 = .ok (.goto 4, 3) := by decide +kernel
theorem dX12_pass_85 : decode cX12_pass 85 = .ok (.iconst 0, 1) := by decide +kernel
theorem dX12_pass_86 : decode cX12_pass 86 = .ok (.iastore, 1) := by decide +kernel
theorem dX12_pass_87 : decode cX12_pass 87 = .ok (.aload_n 1, 1) := by decide +kernel
theorem dX12_pass_88 : decode cX12_pass 88 = .ok (.iconst 5, 1) := by decide +kernel
theorem dX12_pass_89 : decode cX12_pass 89 = .ok (.iaload, 1) := by decide +kernel
theorem dX12_pass_90 : decode cX12_pass 90 = .ok (.iconst (-1), 1) := by decide +kernel
theorem dX12_pass_91 : decode cX12_pass 91 = .ok (.if_icmp .ne 25, 3) := by decide +kernel
theorem dX12_pass_94 : decode cX12_pass 94 = .ok (.aload_n 0, 1) := by decide +kernel
theorem dX12_pass_95 : decode cX12_pass 95 = .ok (.aload_n 1, 1) := by decide +kernel
theorem dX12_pass_96 : decode cX12_pass 96 = .ok (.iconst 4, 1) := by decide +kernel
theorem dX12_pass_97 : decode cX12_pass 97 = .ok (.iaload, 1) := by decide +kernel
theorem dX12_pass_98 : decode cX12_pass 98 = .ok (.invokevirtual 157, 3) := by decide +kernel
theorem dX12_pass_101 : decode cX12_pass 101 = .ok (.iconst 1, 1) := by decide +kernel
theorem dX12_pass_102 : decode cX12_pass 102 = .ok (.if_icmp .ne 14, 3) := by decide +kernel
theorem dX12_pass_105 : decode cX12_pass 105 = .ok (.aload_n 1, 1) := by decide +kernel
theorem dX12_pass_106 : decode cX12_pass 106 = .ok (.iconst 1, 1) := by decide +kernel
theorem dX12_pass_107 : decode cX12_pass 107 = .ok (.iaload, 1) := by decide +kernel
theorem dX12_pass_108 : decode cX12_pass 108 = .ok (.iconst 2, 1) := by decide +kernel
theorem dX12_pass_109 : decode cX12_pass 109 = .ok (.if_icmp .ge 7, 3) := by decide +kernel
theorem dX12_pass_112 : decode cX12_pass 112 = .ok (.aload_n 1, 1) := by decide +kernel
theorem dX12_pass_113 : decode cX12_pass 113 = .ok (.iconst 1, 1) := by decide +kernel
theorem dX12_pass_114 : decode cX12_pass 114 = .ok (.iconst 2, 1) := by decide +kernel
theorem dX12_pass_115 : decode cX12_pass 115 = .ok (.iastore, 1) := by decide +kernel
theorem dX12_pass_116 : decode cX12_pass 116 = .ok (.aload_n 1, 1) := by decide +kernel
theorem dX12_pass_117 : decode cX12_pass 117 = .ok (.iconst 2, 1) := by decide +kernel
theorem dX12_pass_118 : decode cX12_pass 118 = .ok (.aload_n 1, 1) := by decide +kernel
theorem dX12_pass_119 : decode cX12_pass 119 = .ok (.iconst 2, 1) := by decide +kernel
theorem dX12_pass_120 : decode cX12_pass 120 = .ok (.iaload, 1) := by decide +kernel
theorem dX12_pass_121 : decode cX12_pass 121 = .ok (.aload_n 1, 1) := by decide +kernel
theorem dX12_pass_122 : decode cX12_pass 122 = .ok (.iconst 1, 1) := by decide +kernel
theorem dX12_pass_123 : decode cX12_pass 123 = .ok (.iaload, 1) := by decide +kernel
theorem dX12_pass_124 : decode cX12_pass 124 = .ok (.iadd, 1) := by decide +kernel
theorem dX12_pass_125 : decode cX12_pass 125 = .ok (.ldc 172, 2) := by decide +kernel
theorem dX12_pass_127 : decode cX12_pass 127 = .ok (.if_icmp .le 8, 3) := by decide +kernel
theorem dX12_pass_130 : decode cX12_pass 130 = .ok (.ldc 172, 2) := by decide +kernel
theorem dX12_pass_132 : decode cX12_pass 132 = .ok (.goto 10, 3) := by decide +kernel
theorem dX12_pass_135 : decode cX12_pass 135 = .ok (.aload_n 1, 1) := by decide +kernel
theorem dX12_pass_136 : decode cX12_pass 136 = .ok (.iconst 2, 1) := by decide +kernel
theorem dX12_pass_137 : decode cX12_pass 137 = .ok (.iaload, 1) := by decide +kernel
theorem dX12_pass_138 : decode cX12_pass 138 = .ok (.aload_n 1, 1) := by decide +kernel
theorem dX12_pass_139 : decode cX12_pass 139 = .ok (.iconst 1, 1) := by decide +kernel
theorem dX12_pass_140 : decode cX12_pass 140 = .ok (.iaload, 1) := by decide +kernel
theorem dX12_pass_141 : decode cX12_pass 141 = .ok (.iadd, 1) := by decide +kernel
theorem dX12_pass_142 : decode cX12_pass 142 = .ok (.iastore, 1) := by decide +kernel
theorem dX12_pass_143 : decode cX12_pass 143 = .ok (.iconst 0, 1) := by decide +kernel
theorem dX12_pass_144 : decode cX12_pass 144 = .ok (.istore 5, 2) := by decide +kernel
theorem dX12_pass_146 : decode cX12_pass 146 = .ok (.iload 5, 2) := by decide +kernel
theorem dX12_pass_148 : decode cX12_pass 148 = .ok (.aload_n 0, 1) := by decide +kernel
theorem dX12_pass_149 : decode cX12_pass 149 = .ok (.getfield 69, 3) := by decide +kernel
theorem dX12_pass_152 : decode cX12_pass 152 = .ok (.if_icmp .ge 143, 3) := by decide +kernel
theorem dX12_pass_155 : decode cX12_pass 155 = .ok (.iload 5, 2) := by decide +kernel
theorem dX12_pass_157 : decode cX12_pass 157 = .ok (.aload_n 1, 1) := by decide +kernel
theorem dX12_pass_158 : decode cX12_pass 158 = .ok (.iconst 4, 1) := by decide +kernel
theorem dX12_pass_159 : decode cX12_pass 159 = .ok (.iaload, 1) := by decide +kernel
theorem dX12_pass_160 : decode cX12_pass 160 = .ok (.if_icmp .eq 11, 3) := by decide +kernel
theorem dX12_pass_163 : decode cX12_pass 163 = .ok (.iload 5, 2) := by decide +kernel
theorem dX12_pass_165 : decode cX12_pass 165 = .ok (.aload_n 1, 1) := by decide +kernel
theorem dX12_pass_166 : decode cX12_pass 166 = .ok (.iconst 5, 1) := by decide +kernel
theorem dX12_pass_167 : decode cX12_pass 167 = .ok (.iaload, 1) := by decide +kernel
theorem dX12_pass_168 : decode cX12_pass 168 = .ok (.if_icmp .ne 88, 3) := by decide +kernel
theorem dX12_pass_171 : decode cX12_pass 171 = .ok (.aload_n 1, 1) := by decide +kernel
theorem dX12_pass_172 : decode cX12_pass 172 = .ok (.bipush 7, 2) := by decide +kernel
theorem dX12_pass_174 : decode cX12_pass 174 = .ok (.iload 5, 2) := by decide +kernel
theorem dX12_pass_176 : decode cX12_pass 176 = .ok (.iadd, 1) := by decide +kernel
theorem dX12_pass_177 : decode cX12_pass 177 = .ok (.aload_n 1, 1) := by decide +kernel
theorem dX12_pass_178 : decode cX12_pass 178 = .ok (.bipush 7, 2) := by decide +kernel
theorem dX12_pass_180 : decode cX12_pass 180 = .ok (.iload 5, 2) := by decide +kernel
theorem dX12_pass_182 : decode cX12_pass 182 = .ok (.iadd, 1) := by decide +kernel
theorem dX12_pass_183 : decode cX12_pass 183 = .ok (.iaload, 1) := by decide +kernel
theorem dX12_pass_184 : decode cX12_pass 184 = .ok (.bipush 20, 2) := by decide +kernel
theorem dX12_pass_186 : decode cX12_pass 186 = .ok (.if_icmp .ge 15, 3) := by decide +kernel
theorem dX12_pass_189 : decode cX12_pass 189 = .ok (.aload_n 1, 1) := by decide +kernel
theorem dX12_pass_190 : decode cX12_pass 190 = .ok (.bipush 7, 2) := by decide +kernel
theorem dX12_pass_192 : decode cX12_pass 192 = .ok (.iload 5, 2) := by decide +kernel
theorem dX12_pass_194 : decode cX12_pass 194 = .ok (.iadd, 1) := by decide +kernel
theorem dX12_pass_195 : decode cX12_pass 195 = .ok (.iaload, 1) := by decide +kernel
theorem dX12_pass_196 : decode cX12_pass 196 = .ok (.iconst 1, 1) := by decide +kernel
theorem dX12_pass_197 : decode cX12_pass 197 = .ok (.iadd, 1) := by decide +kernel
theorem dX12_pass_198 : decode cX12_pass 198 = .ok (.goto 5, 3) := by decide +kernel
theorem dX12_pass_201 : decode cX12_pass 201 = .ok (.bipush 20, 2) := by decide +kernel
theorem dX12_pass_203 : decode cX12_pass 203 = .ok (.iastore, 1) := by decide +kernel
theorem dX12_pass_204 : decode cX12_pass 204 = .ok (.aload_n 1, 1) := by decide +kernel
theorem dX12_pass_205 : decode cX12_pass 205 = .ok (.bipush 13, 2) := by decide +kernel
theorem dX12_pass_207 : decode cX12_pass 207 = .ok (.iload 5, 2) := by decide +kernel
theorem dX12_pass_209 : decode cX12_pass 209 = .ok (.iadd, 1) := by decide +kernel
theorem dX12_pass_210 : decode cX12_pass 210 = .ok (.dup2, 1) := by decide +kernel
theorem dX12_pass_211 : decode cX12_pass 211 = .ok (.iaload, 1) := by decide +kernel
theorem dX12_pass_212 : decode cX12_pass 212 = .ok (.iconst 1, 1) := by decide +kernel
theorem dX12_pass_213 : decode cX12_pass 213 = .ok (.iadd, 1) := by decide +kernel
theorem dX12_pass_214 : decode cX12_pass 214 = .ok (.iastore, 1) := by decide +kernel
theorem dX12_pass_215 : decode cX12_pass 215 = .ok (.aload_n 1, 1) := by decide +kernel
theorem dX12_pass_216 : decode cX12_pass 216 = .ok (.bipush 19, 2) := by decide +kernel
theorem dX12_pass_218 : decode cX12_pass 218 = .ok (.iload 5, 2) := by decide +kernel
theorem dX12_pass_220 : decode cX12_pass 220 = .ok (.iadd, 1) := by decide +kernel
theorem dX12_pass_221 : decode cX12_pass 221 = .ok (.dup2, 1) := by decide +kernel
theorem dX12_pass_222 : decode cX12_pass 222 = .ok (.iaload, 1) := by decide +kernel
theorem dX12_pass_223 : decode cX12_pass 223 = .ok (.iconst 1, 1) := by decide +kernel
theorem dX12_pass_224 : decode cX12_pass 224 = .ok (.iadd, 1) := by decide +kernel
theorem dX12_pass_225 : decode cX12_pass 225 = .ok (.iastore, 1) := by decide +kernel
theorem dX12_pass_226 : decode cX12_pass 226 = .ok (.aload_n 1, 1) := by decide +kernel
theorem dX12_pass_227 : decode cX12_pass 227 = .ok (.iconst 3, 1) := by decide +kernel
theorem dX12_pass_228 : decode cX12_pass 228 = .ok (.dup2, 1) := by decide +kernel
theorem dX12_pass_229 : decode cX12_pass 229 = .ok (.iaload, 1) := by decide +kernel
theorem dX12_pass_230 : decode cX12_pass 230 = .ok (.aload_n 0, 1) := by decide +kernel
theorem dX12_pass_231 : decode cX12_pass 231 = .ok (.iload 5, 2) := by decide +kernel
theorem dX12_pass_233 : decode cX12_pass 233 = .ok (.invokevirtual 157, 3) := by decide +kernel
theorem dX12_pass_236 : decode cX12_pass 236 = .ok (.iconst 4, 1) := by decide +kernel
theorem dX12_pass_237 : decode cX12_pass 237 = .ok (.if_icmp .ne 13, 3) := by decide +kernel
theorem dX12_pass_240 : decode cX12_pass 240 = .ok (.aload_n 1, 1) := by decide +kernel
theorem dX12_pass_241 : decode cX12_pass 241 = .ok (.iconst 3, 1) := by decide +kernel
theorem dX12_pass_242 : decode cX12_pass 242 = .ok (.iaload, 1) := by decide +kernel
theorem dX12_pass_243 : decode cX12_pass 243 = .ok (.ifCond .le 7, 3) := by decide +kernel
theorem dX12_pass_246 : decode cX12_pass 246 = .ok (.iconst 1, 1) := by decide +kernel
theorem dX12_pass_247 : decode cX12_pass 247 = .ok (.goto 4, 3) := by decide +kernel
theorem dX12_pass_250 : decode cX12_pass 250 = .ok (.iconst 0, 1) := by decide +kernel
theorem dX12_pass_251 : decode cX12_pass 251 = .ok (.isub, 1) := by decide +kernel
theorem dX12_pass_252 : decode cX12_pass 252 = .ok (.iastore, 1) := by decide +kernel
theorem dX12_pass_253 : decode cX12_pass 253 = .ok (.goto 36, 3) := by decide +kernel
theorem dX12_pass_256 : decode cX12_pass 256 = .ok (.aload_n 1, 1) := by decide +kernel
theorem dX12_pass_257 : decode cX12_pass 257 = .ok (.bipush 7, 2) := by decide +kernel
theorem dX12_pass_259 : decode cX12_pass 259 = .ok (.iload 5, 2) := by decide +kernel
theorem dX12_pass_261 : decode cX12_pass 261 = .ok (.iadd, 1) := by decide +kernel
theorem dX12_pass_262 : decode cX12_pass 262 = .ok (.dup2, 1) := by decide +kernel
theorem dX12_pass_263 : decode cX12_pass 263 = .ok (.iaload, 1) := by decide +kernel
theorem dX12_pass_264 : decode cX12_pass 264 = .ok (.aload_n 1, 1) := by decide +kernel
theorem dX12_pass_265 : decode cX12_pass 265 = .ok (.bipush 7, 2) := by decide +kernel
theorem dX12_pass_267 : decode cX12_pass 267 = .ok (.iload 5, 2) := by decide +kernel
theorem dX12_pass_269 : decode cX12_pass 269 = .ok (.iadd, 1) := by decide +kernel
theorem dX12_pass_270 : decode cX12_pass 270 = .ok (.iaload, 1) := by decide +kernel
theorem dX12_pass_271 : decode cX12_pass 271 = .ok (.ifCond .le 7, 3) := by decide +kernel
theorem dX12_pass_274 : decode cX12_pass 274 = .ok (.iconst 1, 1) := by decide +kernel
theorem dX12_pass_275 : decode cX12_pass 275 = .ok (.goto 4, 3) := by decide +kernel
theorem dX12_pass_278 : decode cX12_pass 278 = .ok (.iconst 0, 1) := by decide +kernel
theorem dX12_pass_279 : decode cX12_pass 279 = .ok (.isub, 1) := by decide +kernel
theorem dX12_pass_280 : decode cX12_pass 280 = .ok (.iastore, 1) := by decide +kernel
theorem dX12_pass_281 : decode cX12_pass 281 = .ok (.aload_n 1, 1) := by decide +kernel
theorem dX12_pass_282 : decode cX12_pass 282 = .ok (.bipush 19, 2) := by decide +kernel
theorem dX12_pass_284 : decode cX12_pass 284 = .ok (.iload 5, 2) := by decide +kernel
theorem dX12_pass_286 : decode cX12_pass 286 = .ok (.iadd, 1) := by decide +kernel
theorem dX12_pass_287 : decode cX12_pass 287 = .ok (.iconst 0, 1) := by decide +kernel
theorem dX12_pass_288 : decode cX12_pass 288 = .ok (.iastore, 1) := by decide +kernel
theorem dX12_pass_289 : decode cX12_pass 289 = .ok (.iinc 5 1, 3) := by decide +kernel
theorem dX12_pass_292 : decode cX12_pass 292 = .ok (.goto (-146), 3) := by decide +kernel
theorem dX12_pass_295 : decode cX12_pass 295 = .ok (.aload_n 1, 1) := by decide +kernel
theorem dX12_pass_296 : decode cX12_pass 296 = .ok (.iconst 0, 1) := by decide +kernel
theorem dX12_pass_297 : decode cX12_pass 297 = .ok (.dup2, 1) := by decide +kernel
theorem dX12_pass_298 : decode cX12_pass 298 = .ok (.iaload, 1) := by decide +kernel
theorem dX12_pass_299 : decode cX12_pass 299 = .ok (.iconst 1, 1) := by decide +kernel
theorem dX12_pass_300 : decode cX12_pass 300 = .ok (.iadd, 1) := by decide +kernel
theorem dX12_pass_301 : decode cX12_pass 301 = .ok (.iastore, 1) := by decide +kernel
theorem dX12_pass_302 : decode cX12_pass 302 = .ok (.return_, 1) := by decide +kernel
theorem dX12_copy_0 : decode cX12_copy 0 = .ok (.iconst 0, 1) := by decide +kernel
theorem dX12_copy_1 : decode cX12_copy 1 = .ok (.istore 4, 2) := by decide +kernel
theorem dX12_copy_3 : decode cX12_copy 3 = .ok (.iload 4, 2) := by decide +kernel
theorem dX12_copy_5 : decode cX12_copy 5 = .ok (.bipush 31, 2) := by decide +kernel
theorem dX12_copy_7 : decode cX12_copy 7 = .ok (.if_icmp .ge 21, 3) := by decide +kernel
theorem dX12_copy_10 : decode cX12_copy 10 = .ok (.aload_n 2, 1) := by decide +kernel
theorem dX12_copy_11 : decode cX12_copy 11 = .ok (.iload_n 3, 1) := by decide +kernel
theorem dX12_copy_12 : decode cX12_copy 12 = .ok (.iload 4, 2) := by decide +kernel
theorem dX12_copy_14 : decode cX12_copy 14 = .ok (.iadd, 1) := by decide +kernel
theorem dX12_copy_15 : decode cX12_copy 15 = .ok (.aload_n 0, 1) := by decide +kernel
theorem dX12_copy_16 : decode cX12_copy 16 = .ok (.iload_n 1, 1) := by decide +kernel
theorem dX12_copy_17 : decode cX12_copy 17 = .ok (.iload 4, 2) := by decide +kernel
theorem dX12_copy_19 : decode cX12_copy 19 = .ok (.iadd, 1) := by decide +kernel
theorem dX12_copy_20 : decode cX12_copy 20 = .ok (.iaload, 1) := by decide +kernel
theorem dX12_copy_21 : decode cX12_copy 21 = .ok (.iastore, 1) := by decide +kernel
theorem dX12_copy_22 : decode cX12_copy 22 = .ok (.iinc 4 1, 3) := by decide +kernel
theorem dX12_copy_25 : decode cX12_copy 25 = .ok (.goto (-22), 3) := by decide +kernel
theorem dX12_copy_28 : decode cX12_copy 28 = .ok (.return_, 1) := by decide +kernel
theorem dX12_note_0 : decode cX12_note 0 = .ok (.aload_n 0, 1) := by decide +kernel
theorem dX12_note_1 : decode cX12_note 1 = .ok (.getfield 76, 3) := by decide +kernel
theorem dX12_note_4 : decode cX12_note 4 = .ok (.bipush 60, 2) := by decide +kernel
theorem dX12_note_6 : decode cX12_note 6 = .ok (.if_icmp .ne 43, 3) := by decide +kernel
theorem dX12_note_9 : decode cX12_note 9 = .ok (.iconst 0, 1) := by decide +kernel
theorem dX12_note_10 : decode cX12_note 10 = .ok (.istore_n 1, 1) := by decide +kernel
theorem dX12_note_11 : decode cX12_note 11 = .ok (.iload_n 1, 1) := by decide +kernel
theorem dX12_note_12 : decode cX12_note 12 = .ok (.sipush 1829, 3) := by decide +kernel
theorem dX12_note_15 : decode cX12_note 15 = .ok (.if_icmp .ge 24, 3) := by decide +kernel
theorem dX12_note_18 : decode cX12_note 18 = .ok (.aload_n 0, 1) := by decide +kernel
theorem dX12_note_19 : decode cX12_note 19 = .ok (.getfield 48, 3) := by decide +kernel
theorem dX12_note_22 : decode cX12_note 22 = .ok (.iload_n 1, 1) := by decide +kernel
theorem dX12_note_23 : decode cX12_note 23 = .ok (.aload_n 0, 1) := by decide +kernel
theorem dX12_note_24 : decode cX12_note 24 = .ok (.getfield 48, 3) := by decide +kernel
theorem dX12_note_27 : decode cX12_note 27 = .ok (.iload_n 1, 1) := by decide +kernel
theorem dX12_note_28 : decode cX12_note 28 = .ok (.bipush 31, 2) := by decide +kernel
theorem dX12_note_30 : decode cX12_note 30 = .ok (.iadd, 1) := by decide +kernel
theorem dX12_note_31 : decode cX12_note 31 = .ok (.iaload, 1) := by decide +kernel
theorem dX12_note_32 : decode cX12_note 32 = .ok (.iastore, 1) := by decide +kernel
theorem dX12_note_33 : decode cX12_note 33 = .ok (.iinc 1 1, 3) := by decide +kernel
theorem dX12_note_36 : decode cX12_note 36 = .ok (.goto (-25), 3) := by decide +kernel
theorem dX12_note_39 : decode cX12_note 39 = .ok (.aload_n 0, 1) := by decide +kernel
theorem dX12_note_40 : decode cX12_note 40 = .ok (.dup, 1) := by decide +kernel
theorem dX12_note_41 : decode cX12_note 41 = .ok (.getfield 76, 3) := by decide +kernel
theorem dX12_note_44 : decode cX12_note 44 = .ok (.iconst 1, 1) := by decide +kernel
theorem dX12_note_45 : decode cX12_note 45 = .ok (.isub, 1) := by decide +kernel
theorem dX12_note_46 : decode cX12_note 46 = .ok (.putfield 76, 3) := by decide +kernel
theorem dX12_note_49 : decode cX12_note 49 = .ok (.aload_n 0, 1) := by decide +kernel
theorem dX12_note_50 : decode cX12_note 50 = .ok (.getfield 35, 3) := by decide +kernel
theorem dX12_note_53 : decode cX12_note 53 = .ok (.iconst 0, 1) := by decide +kernel
theorem dX12_note_54 : decode cX12_note 54 = .ok (.aload_n 0, 1) := by decide +kernel
theorem dX12_note_55 : decode cX12_note 55 = .ok (.getfield 48, 3) := by decide +kernel
theorem dX12_note_58 : decode cX12_note 58 = .ok (.bipush 31, 2) := by decide +kernel
theorem dX12_note_60 : decode cX12_note 60 = .ok (.aload_n 0, 1) := by decide +kernel
theorem dX12_note_61 : decode cX12_note 61 = .ok (.getfield 76, 3) := by decide +kernel
theorem dX12_note_64 : decode cX12_note 64 = .ok (.imul, 1) := by decide +kernel
theorem dX12_note_65 : decode cX12_note 65 = .ok (.invokestatic 173, 3) := by decide +kernel
theorem dX12_note_68 : decode cX12_note 68 = .ok (.aload_n 0, 1) := by decide +kernel
theorem dX12_note_69 : decode cX12_note 69 = .ok (.dup, 1) := by decide +kernel
theorem dX12_note_70 : decode cX12_note 70 = .ok (.getfield 76, 3) := by decide +kernel
theorem dX12_note_73 : decode cX12_note 73 = .ok (.iconst 1, 1) := by decide +kernel
theorem dX12_note_74 : decode cX12_note 74 = .ok (.iadd, 1) := by decide +kernel
theorem dX12_note_75 : decode cX12_note 75 = .ok (.putfield 76, 3) := by decide +kernel
theorem dX12_note_78 : decode cX12_note 78 = .ok (.return_, 1) := by decide +kernel
theorem dX12_isHere_0 : decode cX12_isHere 0 = .ok (.aload_n 0, 1) := by decide +kernel
theorem dX12_isHere_1 : decode cX12_isHere 1 = .ok (.getfield 154, 3) := by decide +kernel
theorem dX12_isHere_4 : decode cX12_isHere 4 = .ok (.ifCond .le 14, 3) := by decide +kernel
theorem dX12_isHere_7 : decode cX12_isHere 7 = .ok (.aload_n 0, 1) := by decide +kernel
theorem dX12_isHere_8 : decode cX12_isHere 8 = .ok (.getfield 69, 3) := by decide +kernel
theorem dX12_isHere_11 : decode cX12_isHere 11 = .ok (.ifCond .le 7, 3) := by decide +kernel
theorem dX12_isHere_14 : decode cX12_isHere 14 = .ok (.iconst 1, 1) := by decide +kernel
theorem dX12_isHere_15 : decode cX12_isHere 15 = .ok (.goto 4, 3) := by decide +kernel
theorem dX12_isHere_18 : decode cX12_isHere 18 = .ok (.iconst 0, 1) := by decide +kernel
theorem dX12_isHere_19 : decode cX12_isHere 19 = .ok (.ireturn, 1) := by decide +kernel
theorem dX12_told_0 : decode cX12_told 0 = .ok (.iload_n 1, 1) := by decide +kernel
theorem dX12_told_1 : decode cX12_told 1 = .ok (.tableswitch 161 0 13 #[71, 76, 81, 86, 93, 100, 107, 114, 121, 128, 137, 146, 151, 156], 71) := by decide +kernel
theorem dX12_told_72 : decode cX12_told 72 = .ok (.aload_n 0, 1) := by decide +kernel
theorem dX12_told_73 : decode cX12_told 73 = .ok (.getfield 154, 3) := by decide +kernel
theorem dX12_told_76 : decode cX12_told 76 = .ok (.ireturn, 1) := by decide +kernel
theorem dX12_told_77 : decode cX12_told 77 = .ok (.aload_n 0, 1) := by decide +kernel
theorem dX12_told_78 : decode cX12_told 78 = .ok (.getfield 69, 3) := by decide +kernel
theorem dX12_told_81 : decode cX12_told 81 = .ok (.ireturn, 1) := by decide +kernel
theorem dX12_told_82 : decode cX12_told 82 = .ok (.aload_n 0, 1) := by decide +kernel
theorem dX12_told_83 : decode cX12_told 83 = .ok (.getfield 86, 3) := by decide +kernel
theorem dX12_told_86 : decode cX12_told 86 = .ok (.ireturn, 1) := by decide +kernel
theorem dX12_told_87 : decode cX12_told 87 = .ok (.aload_n 0, 1) := by decide +kernel
theorem dX12_told_88 : decode cX12_told 88 = .ok (.getfield 35, 3) := by decide +kernel
theorem dX12_told_91 : decode cX12_told 91 = .ok (.iconst 0, 1) := by decide +kernel
theorem dX12_told_92 : decode cX12_told 92 = .ok (.iaload, 1) := by decide +kernel
theorem dX12_told_93 : decode cX12_told 93 = .ok (.ireturn, 1) := by decide +kernel
theorem dX12_told_94 : decode cX12_told 94 = .ok (.aload_n 0, 1) := by decide +kernel
theorem dX12_told_95 : decode cX12_told 95 = .ok (.getfield 35, 3) := by decide +kernel
theorem dX12_told_98 : decode cX12_told 98 = .ok (.iconst 1, 1) := by decide +kernel
theorem dX12_told_99 : decode cX12_told 99 = .ok (.iaload, 1) := by decide +kernel
theorem dX12_told_100 : decode cX12_told 100 = .ok (.ireturn, 1) := by decide +kernel
theorem dX12_told_101 : decode cX12_told 101 = .ok (.aload_n 0, 1) := by decide +kernel
theorem dX12_told_102 : decode cX12_told 102 = .ok (.getfield 35, 3) := by decide +kernel
theorem dX12_told_105 : decode cX12_told 105 = .ok (.iconst 2, 1) := by decide +kernel
theorem dX12_told_106 : decode cX12_told 106 = .ok (.iaload, 1) := by decide +kernel
theorem dX12_told_107 : decode cX12_told 107 = .ok (.ireturn, 1) := by decide +kernel
theorem dX12_told_108 : decode cX12_told 108 = .ok (.aload_n 0, 1) := by decide +kernel
theorem dX12_told_109 : decode cX12_told 109 = .ok (.getfield 35, 3) := by decide +kernel
theorem dX12_told_112 : decode cX12_told 112 = .ok (.iconst 3, 1) := by decide +kernel
theorem dX12_told_113 : decode cX12_told 113 = .ok (.iaload, 1) := by decide +kernel
theorem dX12_told_114 : decode cX12_told 114 = .ok (.ireturn, 1) := by decide +kernel
theorem dX12_told_115 : decode cX12_told 115 = .ok (.aload_n 0, 1) := by decide +kernel
theorem dX12_told_116 : decode cX12_told 116 = .ok (.getfield 35, 3) := by decide +kernel
theorem dX12_told_119 : decode cX12_told 119 = .ok (.iconst 4, 1) := by decide +kernel
theorem dX12_told_120 : decode cX12_told 120 = .ok (.iaload, 1) := by decide +kernel
theorem dX12_told_121 : decode cX12_told 121 = .ok (.ireturn, 1) := by decide +kernel
theorem dX12_told_122 : decode cX12_told 122 = .ok (.aload_n 0, 1) := by decide +kernel
theorem dX12_told_123 : decode cX12_told 123 = .ok (.getfield 35, 3) := by decide +kernel
theorem dX12_told_126 : decode cX12_told 126 = .ok (.iconst 5, 1) := by decide +kernel
theorem dX12_told_127 : decode cX12_told 127 = .ok (.iaload, 1) := by decide +kernel
theorem dX12_told_128 : decode cX12_told 128 = .ok (.ireturn, 1) := by decide +kernel
theorem dX12_told_129 : decode cX12_told 129 = .ok (.aload_n 0, 1) := by decide +kernel
theorem dX12_told_130 : decode cX12_told 130 = .ok (.aload_n 0, 1) := by decide +kernel
theorem dX12_told_131 : decode cX12_told 131 = .ok (.getfield 35, 3) := by decide +kernel
theorem dX12_told_134 : decode cX12_told 134 = .ok (.invokevirtual 165, 3) := by decide +kernel
theorem dX12_told_137 : decode cX12_told 137 = .ok (.ireturn, 1) := by decide +kernel
theorem dX12_told_138 : decode cX12_told 138 = .ok (.aload_n 0, 1) := by decide +kernel
theorem dX12_told_139 : decode cX12_told 139 = .ok (.aload_n 0, 1) := by decide +kernel
theorem dX12_told_140 : decode cX12_told 140 = .ok (.getfield 35, 3) := by decide +kernel
theorem dX12_told_143 : decode cX12_told 143 = .ok (.invokevirtual 169, 3) := by decide +kernel
theorem dX12_told_146 : decode cX12_told 146 = .ok (.ireturn, 1) := by decide +kernel
theorem dX12_told_147 : decode cX12_told 147 = .ok (.aload_n 0, 1) := by decide +kernel
theorem dX12_told_148 : decode cX12_told 148 = .ok (.getfield 79, 3) := by decide +kernel
theorem dX12_told_151 : decode cX12_told 151 = .ok (.ireturn, 1) := by decide +kernel
theorem dX12_told_152 : decode cX12_told 152 = .ok (.aload_n 0, 1) := by decide +kernel
theorem dX12_told_153 : decode cX12_told 153 = .ok (.getfield 82, 3) := by decide +kernel
theorem dX12_told_156 : decode cX12_told 156 = .ok (.ireturn, 1) := by decide +kernel
theorem dX12_told_157 : decode cX12_told 157 = .ok (.aload_n 0, 1) := by decide +kernel
theorem dX12_told_158 : decode cX12_told 158 = .ok (.getfield 76, 3) := by decide +kernel
theorem dX12_told_161 : decode cX12_told 161 = .ok (.ireturn, 1) := by decide +kernel
theorem dX12_told_162 : decode cX12_told 162 = .ok (.ldc 85, 2) := by decide +kernel
theorem dX12_told_164 : decode cX12_told 164 = .ok (.ireturn, 1) := by decide +kernel
theorem dX12_person_0 : decode cX12_person 0 = .ok (.aload_n 0, 1) := by decide +kernel
theorem dX12_person_1 : decode cX12_person 1 = .ok (.iload_n 1, 1) := by decide +kernel
theorem dX12_person_2 : decode cX12_person 2 = .ok (.invokevirtual 177, 3) := by decide +kernel
theorem dX12_person_5 : decode cX12_person 5 = .ok (.ifCond .ne 6, 3) := by decide +kernel
theorem dX12_person_8 : decode cX12_person 8 = .ok (.ldc 180, 2) := by decide +kernel
theorem dX12_person_10 : decode cX12_person 10 = .ok (.ireturn, 1) := by decide +kernel
theorem dX12_person_11 : decode cX12_person 11 = .ok (.iload_n 2, 1) := by decide +kernel
theorem dX12_person_12 : decode cX12_person 12 = .ok (.tableswitch 117 0 9 #[56, 56, 56, 56, 56, 67, 77, 87, 97, 107], 56) := by decide +kernel
theorem dX12_person_68 : decode cX12_person 68 = .ok (.aload_n 0, 1) := by decide +kernel
theorem dX12_person_69 : decode cX12_person 69 = .ok (.getfield 29, 3) := by decide +kernel
theorem dX12_person_72 : decode cX12_person 72 = .ok (.iconst 5, 1) := by decide +kernel
theorem dX12_person_73 : decode cX12_person 73 = .ok (.iload_n 1, 1) := by decide +kernel
theorem dX12_person_74 : decode cX12_person 74 = .ok (.imul, 1) := by decide +kernel
theorem dX12_person_75 : decode cX12_person 75 = .ok (.iload_n 2, 1) := by decide +kernel
theorem dX12_person_76 : decode cX12_person 76 = .ok (.iadd, 1) := by decide +kernel
theorem dX12_person_77 : decode cX12_person 77 = .ok (.iaload, 1) := by decide +kernel
theorem dX12_person_78 : decode cX12_person 78 = .ok (.ireturn, 1) := by decide +kernel
theorem dX12_person_79 : decode cX12_person 79 = .ok (.aload_n 0, 1) := by decide +kernel
theorem dX12_person_80 : decode cX12_person 80 = .ok (.getfield 35, 3) := by decide +kernel
theorem dX12_person_83 : decode cX12_person 83 = .ok (.bipush 7, 2) := by decide +kernel
theorem dX12_person_85 : decode cX12_person 85 = .ok (.iload_n 1, 1) := by decide +kernel
theorem dX12_person_86 : decode cX12_person 86 = .ok (.iadd, 1) := by decide +kernel
theorem dX12_person_87 : decode cX12_person 87 = .ok (.iaload, 1) := by decide +kernel
theorem dX12_person_88 : decode cX12_person 88 = .ok (.ireturn, 1) := by decide +kernel
theorem dX12_person_89 : decode cX12_person 89 = .ok (.aload_n 0, 1) := by decide +kernel
theorem dX12_person_90 : decode cX12_person 90 = .ok (.getfield 35, 3) := by decide +kernel
theorem dX12_person_93 : decode cX12_person 93 = .ok (.bipush 13, 2) := by decide +kernel
theorem dX12_person_95 : decode cX12_person 95 = .ok (.iload_n 1, 1) := by decide +kernel
theorem dX12_person_96 : decode cX12_person 96 = .ok (.iadd, 1) := by decide +kernel
theorem dX12_person_97 : decode cX12_person 97 = .ok (.iaload, 1) := by decide +kernel
theorem dX12_person_98 : decode cX12_person 98 = .ok (.ireturn, 1) := by decide +kernel
theorem dX12_person_99 : decode cX12_person 99 = .ok (.aload_n 0, 1) := by decide +kernel
theorem dX12_person_100 : decode cX12_person 100 = .ok (.getfield 35, 3) := by decide +kernel
theorem dX12_person_103 : decode cX12_person 103 = .ok (.bipush 25, 2) := by decide +kernel
theorem dX12_person_105 : decode cX12_person 105 = .ok (.iload_n 1, 1) := by decide +kernel
theorem dX12_person_106 : decode cX12_person 106 = .ok (.iadd, 1) := by decide +kernel
theorem dX12_person_107 : decode cX12_person 107 = .ok (.iaload, 1) := by decide +kernel
theorem dX12_person_108 : decode cX12_person 108 = .ok (.ireturn, 1) := by decide +kernel
theorem dX12_person_109 : decode cX12_person 109 = .ok (.aload_n 0, 1) := by decide +kernel
theorem dX12_person_110 : decode cX12_person 110 = .ok (.aload_n 0, 1) := by decide +kernel
theorem dX12_person_111 : decode cX12_person 111 = .ok (.getfield 35, 3) := by decide +kernel
theorem dX12_person_114 : decode cX12_person 114 = .ok (.iload_n 1, 1) := by decide +kernel
theorem dX12_person_115 : decode cX12_person 115 = .ok (.invokevirtual 161, 3) := by decide +kernel
theorem dX12_person_118 : decode cX12_person 118 = .ok (.ireturn, 1) := by decide +kernel
theorem dX12_person_119 : decode cX12_person 119 = .ok (.aload_n 0, 1) := by decide +kernel
theorem dX12_person_120 : decode cX12_person 120 = .ok (.getfield 35, 3) := by decide +kernel
theorem dX12_person_123 : decode cX12_person 123 = .ok (.bipush 19, 2) := by decide +kernel
theorem dX12_person_125 : decode cX12_person 125 = .ok (.iload_n 1, 1) := by decide +kernel
theorem dX12_person_126 : decode cX12_person 126 = .ok (.iadd, 1) := by decide +kernel
theorem dX12_person_127 : decode cX12_person 127 = .ok (.iaload, 1) := by decide +kernel
theorem dX12_person_128 : decode cX12_person 128 = .ok (.ireturn, 1) := by decide +kernel
theorem dX12_person_129 : decode cX12_person 129 = .ok (.ldc 85, 2) := by decide +kernel
theorem dX12_person_131 : decode cX12_person 131 = .ok (.ireturn, 1) := by decide +kernel
theorem dX12_word_0 : decode cX12_word 0 = .ok (.iload_n 1, 1) := by decide +kernel
theorem dX12_word_1 : decode cX12_word 1 = .ok (.iconst 0, 1) := by decide +kernel
theorem dX12_word_2 : decode cX12_word 2 = .ok (.iconst 2, 1) := by decide +kernel
theorem dX12_word_3 : decode cX12_word 3 = .ok (.invokestatic 72, 3) := by decide +kernel
theorem dX12_word_6 : decode cX12_word 6 = .ok (.ifCond .eq 12, 3) := by decide +kernel
theorem dX12_word_9 : decode cX12_word 9 = .ok (.aload_n 0, 1) := by decide +kernel
theorem dX12_word_10 : decode cX12_word 10 = .ok (.getfield 32, 3) := by decide +kernel
theorem dX12_word_13 : decode cX12_word 13 = .ok (.iload_n 1, 1) := by decide +kernel
theorem dX12_word_14 : decode cX12_word 14 = .ok (.iaload, 1) := by decide +kernel
theorem dX12_word_15 : decode cX12_word 15 = .ok (.goto 5, 3) := by decide +kernel
theorem dX12_word_18 : decode cX12_word 18 = .ok (.ldc 85, 2) := by decide +kernel
theorem dX12_word_20 : decode cX12_word 20 = .ok (.ireturn, 1) := by decide +kernel
theorem dX12_hour_0 : decode cX12_hour 0 = .ok (.iload_n 1, 1) := by decide +kernel
theorem dX12_hour_1 : decode cX12_hour 1 = .ok (.iconst 1, 1) := by decide +kernel
theorem dX12_hour_2 : decode cX12_hour 2 = .ok (.bipush 99, 2) := by decide +kernel
theorem dX12_hour_4 : decode cX12_hour 4 = .ok (.invokestatic 72, 3) := by decide +kernel
theorem dX12_hour_7 : decode cX12_hour 7 = .ok (.ifCond .ne 6, 3) := by decide +kernel
theorem dX12_hour_10 : decode cX12_hour 10 = .ok (.ldc 85, 2) := by decide +kernel
theorem dX12_hour_12 : decode cX12_hour 12 = .ok (.ireturn, 1) := by decide +kernel
theorem dX12_hour_13 : decode cX12_hour 13 = .ok (.aload_n 0, 1) := by decide +kernel
theorem dX12_hour_14 : decode cX12_hour 14 = .ok (.invokevirtual 181, 3) := by decide +kernel
theorem dX12_hour_17 : decode cX12_hour 17 = .ok (.ifCond .ne 6, 3) := by decide +kernel
theorem dX12_hour_20 : decode cX12_hour 20 = .ok (.ldc 184, 2) := by decide +kernel
theorem dX12_hour_22 : decode cX12_hour 22 = .ok (.ireturn, 1) := by decide +kernel
theorem dX12_hour_23 : decode cX12_hour 23 = .ok (.iconst 0, 1) := by decide +kernel
theorem dX12_hour_24 : decode cX12_hour 24 = .ok (.istore_n 2, 1) := by decide +kernel
theorem dX12_hour_25 : decode cX12_hour 25 = .ok (.iload_n 2, 1) := by decide +kernel
theorem dX12_hour_26 : decode cX12_hour 26 = .ok (.iload_n 1, 1) := by decide +kernel
theorem dX12_hour_27 : decode cX12_hour 27 = .ok (.if_icmp .ge 22, 3) := by decide +kernel
theorem dX12_hour_30 : decode cX12_hour 30 = .ok (.aload_n 0, 1) := by decide +kernel
theorem dX12_hour_31 : decode cX12_hour 31 = .ok (.invokevirtual 185, 3) := by decide +kernel
theorem dX12_hour_34 : decode cX12_hour 34 = .ok (.aload_n 0, 1) := by decide +kernel
theorem dX12_hour_35 : decode cX12_hour 35 = .ok (.aload_n 0, 1) := by decide +kernel
theorem dX12_hour_36 : decode cX12_hour 36 = .ok (.getfield 35, 3) := by decide +kernel
theorem dX12_hour_39 : decode cX12_hour 39 = .ok (.iconst 0, 1) := by decide +kernel
theorem dX12_hour_40 : decode cX12_hour 40 = .ok (.invokevirtual 188, 3) := by decide +kernel
theorem dX12_hour_43 : decode cX12_hour 43 = .ok (.iinc 2 1, 3) := by decide +kernel
theorem dX12_hour_46 : decode cX12_hour 46 = .ok (.goto (-21), 3) := by decide +kernel
theorem dX12_hour_49 : decode cX12_hour 49 = .ok (.aload_n 0, 1) := by decide +kernel
theorem dX12_hour_50 : decode cX12_hour 50 = .ok (.getfield 35, 3) := by decide +kernel
theorem dX12_hour_53 : decode cX12_hour 53 = .ok (.iconst 1, 1) := by decide +kernel
theorem dX12_hour_54 : decode cX12_hour 54 = .ok (.iaload, 1) := by decide +kernel
theorem dX12_hour_55 : decode cX12_hour 55 = .ok (.ireturn, 1) := by decide +kernel
theorem dX12_holds_0 : decode cX12_holds 0 = .ok (.iload_n 1, 1) := by decide +kernel
theorem dX12_holds_1 : decode cX12_holds 1 = .ok (.aload_n 0, 1) := by decide +kernel
theorem dX12_holds_2 : decode cX12_holds 2 = .ok (.iconst 4, 1) := by decide +kernel
theorem dX12_holds_3 : decode cX12_holds 3 = .ok (.iaload, 1) := by decide +kernel
theorem dX12_holds_4 : decode cX12_holds 4 = .ok (.if_icmp .eq 10, 3) := by decide +kernel
theorem dX12_holds_7 : decode cX12_holds 7 = .ok (.iload_n 1, 1) := by decide +kernel
theorem dX12_holds_8 : decode cX12_holds 8 = .ok (.aload_n 0, 1) := by decide +kernel
theorem dX12_holds_9 : decode cX12_holds 9 = .ok (.iconst 5, 1) := by decide +kernel
theorem dX12_holds_10 : decode cX12_holds 10 = .ok (.iaload, 1) := by decide +kernel
theorem dX12_holds_11 : decode cX12_holds 11 = .ok (.if_icmp .ne 7, 3) := by decide +kernel
theorem dX12_holds_14 : decode cX12_holds 14 = .ok (.iconst 1, 1) := by decide +kernel
theorem dX12_holds_15 : decode cX12_holds 15 = .ok (.goto 4, 3) := by decide +kernel
theorem dX12_holds_18 : decode cX12_holds 18 = .ok (.iconst 0, 1) := by decide +kernel
theorem dX12_holds_19 : decode cX12_holds 19 = .ok (.ireturn, 1) := by decide +kernel
theorem dX12_falls_0 : decode cX12_falls 0 = .ok (.aload_n 0, 1) := by decide +kernel
theorem dX12_falls_1 : decode cX12_falls 1 = .ok (.getfield 32, 3) := by decide +kernel
theorem dX12_falls_4 : decode cX12_falls 4 = .ok (.iload_n 3, 1) := by decide +kernel
theorem dX12_falls_5 : decode cX12_falls 5 = .ok (.iaload, 1) := by decide +kernel
theorem dX12_falls_6 : decode cX12_falls 6 = .ok (.aload_n 0, 1) := by decide +kernel
theorem dX12_falls_7 : decode cX12_falls 7 = .ok (.getfield 29, 3) := by decide +kernel
theorem dX12_falls_10 : decode cX12_falls 10 = .ok (.iconst 5, 1) := by decide +kernel
theorem dX12_falls_11 : decode cX12_falls 11 = .ok (.iload_n 2, 1) := by decide +kernel
theorem dX12_falls_12 : decode cX12_falls 12 = .ok (.imul, 1) := by decide +kernel
theorem dX12_falls_13 : decode cX12_falls 13 = .ok (.iconst 3, 1) := by decide +kernel
theorem dX12_falls_14 : decode cX12_falls 14 = .ok (.iadd, 1) := by decide +kernel
theorem dX12_falls_15 : decode cX12_falls 15 = .ok (.iaload, 1) := by decide +kernel
theorem dX12_falls_16 : decode cX12_falls 16 = .ok (.if_icmp .le 20, 3) := by decide +kernel
theorem dX12_falls_19 : decode cX12_falls 19 = .ok (.aload_n 1, 1) := by decide +kernel
theorem dX12_falls_20 : decode cX12_falls 20 = .ok (.bipush 25, 2) := by decide +kernel
theorem dX12_falls_22 : decode cX12_falls 22 = .ok (.iload_n 2, 1) := by decide +kernel
theorem dX12_falls_23 : decode cX12_falls 23 = .ok (.iadd, 1) := by decide +kernel
theorem dX12_falls_24 : decode cX12_falls 24 = .ok (.iaload, 1) := by decide +kernel
theorem dX12_falls_25 : decode cX12_falls 25 = .ok (.iload_n 3, 1) := by decide +kernel
theorem dX12_falls_26 : decode cX12_falls 26 = .ok (.invokestatic 192, 3) := by decide +kernel
theorem dX12_falls_29 : decode cX12_falls 29 = .ok (.ifCond .ne 7, 3) := by decide +kernel
theorem dX12_falls_32 : decode cX12_falls 32 = .ok (.iconst 1, 1) := by decide +kernel
theorem dX12_falls_33 : decode cX12_falls 33 = .ok (.goto 4, 3) := by decide +kernel
theorem dX12_falls_36 : decode cX12_falls 36 = .ok (.iconst 0, 1) := by decide +kernel
theorem dX12_falls_37 : decode cX12_falls 37 = .ok (.ireturn, 1) := by decide +kernel
theorem dX12_offers_0 : decode cX12_offers 0 = .ok (.aload_n 0, 1) := by decide +kernel
theorem dX12_offers_1 : decode cX12_offers 1 = .ok (.aload_n 1, 1) := by decide +kernel
theorem dX12_offers_2 : decode cX12_offers 2 = .ok (.iload_n 2, 1) := by decide +kernel
theorem dX12_offers_3 : decode cX12_offers 3 = .ok (.iload_n 3, 1) := by decide +kernel
theorem dX12_offers_4 : decode cX12_offers 4 = .ok (.invokevirtual 195, 3) := by decide +kernel
theorem dX12_offers_7 : decode cX12_offers 7 = .ok (.ifCond .ne 5, 3) := by decide +kernel
theorem dX12_offers_10 : decode cX12_offers 10 = .ok (.iconst 0, 1) := by decide +kernel
theorem dX12_offers_11 : decode cX12_offers 11 = .ok (.ireturn, 1) := by decide +kernel
theorem dX12_offers_12 : decode cX12_offers 12 = .ok (.aload_n 1, 1) := by decide +kernel
theorem dX12_offers_13 : decode cX12_offers 13 = .ok (.bipush 25, 2) := by decide +kernel
theorem dX12_offers_15 : decode cX12_offers 15 = .ok (.iload_n 2, 1) := by decide +kernel
theorem dX12_offers_16 : decode cX12_offers 16 = .ok (.iadd, 1) := by decide +kernel
theorem dX12_offers_17 : decode cX12_offers 17 = .ok (.aload_n 1, 1) := by decide +kernel
theorem dX12_offers_18 : decode cX12_offers 18 = .ok (.bipush 25, 2) := by decide +kernel
theorem dX12_offers_20 : decode cX12_offers 20 = .ok (.iload_n 2, 1) := by decide +kernel
theorem dX12_offers_21 : decode cX12_offers 21 = .ok (.iadd, 1) := by decide +kernel
theorem dX12_offers_22 : decode cX12_offers 22 = .ok (.iaload, 1) := by decide +kernel
theorem dX12_offers_23 : decode cX12_offers 23 = .ok (.iconst 1, 1) := by decide +kernel
theorem dX12_offers_24 : decode cX12_offers 24 = .ok (.iload_n 3, 1) := by decide +kernel
theorem dX12_offers_25 : decode cX12_offers 25 = .ok (.ishl, 1) := by decide +kernel
theorem dX12_offers_26 : decode cX12_offers 26 = .ok (.ior, 1) := by decide +kernel
theorem dX12_offers_27 : decode cX12_offers 27 = .ok (.iastore, 1) := by decide +kernel
theorem dX12_offers_28 : decode cX12_offers 28 = .ok (.aload_n 1, 1) := by decide +kernel
theorem dX12_offers_29 : decode cX12_offers 29 = .ok (.iconst 4, 1) := by decide +kernel
theorem dX12_offers_30 : decode cX12_offers 30 = .ok (.iload_n 2, 1) := by decide +kernel
theorem dX12_offers_31 : decode cX12_offers 31 = .ok (.iastore, 1) := by decide +kernel
theorem dX12_offers_32 : decode cX12_offers 32 = .ok (.aload_n 1, 1) := by decide +kernel
theorem dX12_offers_33 : decode cX12_offers 33 = .ok (.iconst 5, 1) := by decide +kernel
theorem dX12_offers_34 : decode cX12_offers 34 = .ok (.iconst (-1), 1) := by decide +kernel
theorem dX12_offers_35 : decode cX12_offers 35 = .ok (.iastore, 1) := by decide +kernel
theorem dX12_offers_36 : decode cX12_offers 36 = .ok (.iconst 1, 1) := by decide +kernel
theorem dX12_offers_37 : decode cX12_offers 37 = .ok (.ireturn, 1) := by decide +kernel
theorem dX12_offer_0 : decode cX12_offer 0 = .ok (.aload_n 0, 1) := by decide +kernel
theorem dX12_offer_1 : decode cX12_offer 1 = .ok (.iload_n 1, 1) := by decide +kernel
theorem dX12_offer_2 : decode cX12_offer 2 = .ok (.invokevirtual 177, 3) := by decide +kernel
theorem dX12_offer_5 : decode cX12_offer 5 = .ok (.ifCond .ne 6, 3) := by decide +kernel
theorem dX12_offer_8 : decode cX12_offer 8 = .ok (.ldc 180, 2) := by decide +kernel
theorem dX12_offer_10 : decode cX12_offer 10 = .ok (.ireturn, 1) := by decide +kernel
theorem dX12_offer_11 : decode cX12_offer 11 = .ok (.iload_n 2, 1) := by decide +kernel
theorem dX12_offer_12 : decode cX12_offer 12 = .ok (.iconst 0, 1) := by decide +kernel
theorem dX12_offer_13 : decode cX12_offer 13 = .ok (.iconst 2, 1) := by decide +kernel
theorem dX12_offer_14 : decode cX12_offer 14 = .ok (.invokestatic 72, 3) := by decide +kernel
theorem dX12_offer_17 : decode cX12_offer 17 = .ok (.ifCond .ne 6, 3) := by decide +kernel
theorem dX12_offer_20 : decode cX12_offer 20 = .ok (.ldc 85, 2) := by decide +kernel
theorem dX12_offer_22 : decode cX12_offer 22 = .ok (.ireturn, 1) := by decide +kernel
theorem dX12_offer_23 : decode cX12_offer 23 = .ok (.aload_n 0, 1) := by decide +kernel
theorem dX12_offer_24 : decode cX12_offer 24 = .ok (.getfield 35, 3) := by decide +kernel
theorem dX12_offer_27 : decode cX12_offer 27 = .ok (.iload_n 1, 1) := by decide +kernel
theorem dX12_offer_28 : decode cX12_offer 28 = .ok (.invokestatic 199, 3) := by decide +kernel
theorem dX12_offer_31 : decode cX12_offer 31 = .ok (.ifCond .eq 6, 3) := by decide +kernel
theorem dX12_offer_34 : decode cX12_offer 34 = .ok (.ldc 184, 2) := by decide +kernel
theorem dX12_offer_36 : decode cX12_offer 36 = .ok (.ireturn, 1) := by decide +kernel
theorem dX12_offer_37 : decode cX12_offer 37 = .ok (.aload_n 0, 1) := by decide +kernel
theorem dX12_offer_38 : decode cX12_offer 38 = .ok (.aload_n 0, 1) := by decide +kernel
theorem dX12_offer_39 : decode cX12_offer 39 = .ok (.getfield 35, 3) := by decide +kernel
theorem dX12_offer_42 : decode cX12_offer 42 = .ok (.iload_n 1, 1) := by decide +kernel
theorem dX12_offer_43 : decode cX12_offer 43 = .ok (.iload_n 2, 1) := by decide +kernel
theorem dX12_offer_44 : decode cX12_offer 44 = .ok (.invokevirtual 203, 3) := by decide +kernel
theorem dX12_offer_47 : decode cX12_offer 47 = .ok (.ifCond .eq 7, 3) := by decide +kernel
theorem dX12_offer_50 : decode cX12_offer 50 = .ok (.iconst 1, 1) := by decide +kernel
theorem dX12_offer_51 : decode cX12_offer 51 = .ok (.goto 4, 3) := by decide +kernel
theorem dX12_offer_54 : decode cX12_offer 54 = .ok (.iconst 0, 1) := by decide +kernel
theorem dX12_offer_55 : decode cX12_offer 55 = .ok (.ireturn, 1) := by decide +kernel
theorem dX12_isSonOfWhoHolds_0 : decode cX12_isSonOfWhoHolds 0 = .ok (.aload_n 0, 1) := by decide +kernel
theorem dX12_isSonOfWhoHolds_1 : decode cX12_isSonOfWhoHolds 1 = .ok (.iload_n 1, 1) := by decide +kernel
theorem dX12_isSonOfWhoHolds_2 : decode cX12_isSonOfWhoHolds 2 = .ok (.invokevirtual 206, 3) := by decide +kernel
theorem dX12_isSonOfWhoHolds_5 : decode cX12_isSonOfWhoHolds 5 = .ok (.iconst (-1), 1) := by decide +kernel
theorem dX12_isSonOfWhoHolds_6 : decode cX12_isSonOfWhoHolds 6 = .ok (.if_icmp .eq 33, 3) := by decide +kernel
theorem dX12_isSonOfWhoHolds_9 : decode cX12_isSonOfWhoHolds 9 = .ok (.aload_n 0, 1) := by decide +kernel
theorem dX12_isSonOfWhoHolds_10 : decode cX12_isSonOfWhoHolds 10 = .ok (.getfield 35, 3) := by decide +kernel
theorem dX12_isSonOfWhoHolds_13 : decode cX12_isSonOfWhoHolds 13 = .ok (.aload_n 0, 1) := by decide +kernel
theorem dX12_isSonOfWhoHolds_14 : decode cX12_isSonOfWhoHolds 14 = .ok (.iload_n 1, 1) := by decide +kernel
theorem dX12_isSonOfWhoHolds_15 : decode cX12_isSonOfWhoHolds 15 = .ok (.invokevirtual 206, 3) := by decide +kernel
theorem dX12_isSonOfWhoHolds_18 : decode cX12_isSonOfWhoHolds 18 = .ok (.invokestatic 199, 3) := by decide +kernel
theorem dX12_isSonOfWhoHolds_21 : decode cX12_isSonOfWhoHolds 21 = .ok (.ifCond .eq 18, 3) := by decide +kernel
theorem dX12_isSonOfWhoHolds_24 : decode cX12_isSonOfWhoHolds 24 = .ok (.aload_n 0, 1) := by decide +kernel
theorem dX12_isSonOfWhoHolds_25 : decode cX12_isSonOfWhoHolds 25 = .ok (.getfield 35, 3) := by decide +kernel
theorem dX12_isSonOfWhoHolds_28 : decode cX12_isSonOfWhoHolds 28 = .ok (.iload_n 1, 1) := by decide +kernel
theorem dX12_isSonOfWhoHolds_29 : decode cX12_isSonOfWhoHolds 29 = .ok (.invokestatic 199, 3) := by decide +kernel
theorem dX12_isSonOfWhoHolds_32 : decode cX12_isSonOfWhoHolds 32 = .ok (.ifCond .ne 7, 3) := by decide +kernel
theorem dX12_isSonOfWhoHolds_35 : decode cX12_isSonOfWhoHolds 35 = .ok (.iconst 1, 1) := by decide +kernel
theorem dX12_isSonOfWhoHolds_36 : decode cX12_isSonOfWhoHolds 36 = .ok (.goto 4, 3) := by decide +kernel
theorem dX12_isSonOfWhoHolds_39 : decode cX12_isSonOfWhoHolds 39 = .ok (.iconst 0, 1) := by decide +kernel
theorem dX12_isSonOfWhoHolds_40 : decode cX12_isSonOfWhoHolds 40 = .ok (.ireturn, 1) := by decide +kernel
theorem dX12_takesIt_0 : decode cX12_takesIt 0 = .ok (.aload_n 0, 1) := by decide +kernel
theorem dX12_takesIt_1 : decode cX12_takesIt 1 = .ok (.getfield 35, 3) := by decide +kernel
theorem dX12_takesIt_4 : decode cX12_takesIt 4 = .ok (.iconst 4, 1) := by decide +kernel
theorem dX12_takesIt_5 : decode cX12_takesIt 5 = .ok (.iload_n 1, 1) := by decide +kernel
theorem dX12_takesIt_6 : decode cX12_takesIt 6 = .ok (.iastore, 1) := by decide +kernel
theorem dX12_takesIt_7 : decode cX12_takesIt 7 = .ok (.aload_n 0, 1) := by decide +kernel
theorem dX12_takesIt_8 : decode cX12_takesIt 8 = .ok (.getfield 35, 3) := by decide +kernel
theorem dX12_takesIt_11 : decode cX12_takesIt 11 = .ok (.iconst 5, 1) := by decide +kernel
theorem dX12_takesIt_12 : decode cX12_takesIt 12 = .ok (.iconst (-1), 1) := by decide +kernel
theorem dX12_takesIt_13 : decode cX12_takesIt 13 = .ok (.iastore, 1) := by decide +kernel
theorem dX12_takesIt_14 : decode cX12_takesIt 14 = .ok (.return_, 1) := by decide +kernel
theorem dX12_take_0 : decode cX12_take 0 = .ok (.aload_n 0, 1) := by decide +kernel
theorem dX12_take_1 : decode cX12_take 1 = .ok (.iload_n 1, 1) := by decide +kernel
theorem dX12_take_2 : decode cX12_take 2 = .ok (.invokevirtual 177, 3) := by decide +kernel
theorem dX12_take_5 : decode cX12_take 5 = .ok (.ifCond .ne 6, 3) := by decide +kernel
theorem dX12_take_8 : decode cX12_take 8 = .ok (.ldc 180, 2) := by decide +kernel
theorem dX12_take_10 : decode cX12_take 10 = .ok (.ireturn, 1) := by decide +kernel
theorem dX12_take_11 : decode cX12_take 11 = .ok (.aload_n 0, 1) := by decide +kernel
theorem dX12_take_12 : decode cX12_take 12 = .ok (.iload_n 1, 1) := by decide +kernel
theorem dX12_take_13 : decode cX12_take 13 = .ok (.invokevirtual 209, 3) := by decide +kernel
theorem dX12_take_16 : decode cX12_take 16 = .ok (.ifCond .ne 6, 3) := by decide +kernel
theorem dX12_take_19 : decode cX12_take 19 = .ok (.ldc 184, 2) := by decide +kernel
theorem dX12_take_21 : decode cX12_take 21 = .ok (.ireturn, 1) := by decide +kernel
theorem dX12_take_22 : decode cX12_take 22 = .ok (.aload_n 0, 1) := by decide +kernel
theorem dX12_take_23 : decode cX12_take 23 = .ok (.iload_n 1, 1) := by decide +kernel
theorem dX12_take_24 : decode cX12_take 24 = .ok (.invokevirtual 212, 3) := by decide +kernel
theorem dX12_take_27 : decode cX12_take 27 = .ok (.aload_n 0, 1) := by decide +kernel
theorem dX12_take_28 : decode cX12_take 28 = .ok (.iload_n 1, 1) := by decide +kernel
theorem dX12_take_29 : decode cX12_take 29 = .ok (.invokevirtual 206, 3) := by decide +kernel
theorem dX12_take_32 : decode cX12_take 32 = .ok (.ireturn, 1) := by decide +kernel
theorem dX12_areLevel_0 : decode cX12_areLevel 0 = .ok (.aload_n 0, 1) := by decide +kernel
theorem dX12_areLevel_1 : decode cX12_areLevel 1 = .ok (.getfield 29, 3) := by decide +kernel
theorem dX12_areLevel_4 : decode cX12_areLevel 4 = .ok (.iconst 5, 1) := by decide +kernel
theorem dX12_areLevel_5 : decode cX12_areLevel 5 = .ok (.iload_n 1, 1) := by decide +kernel
theorem dX12_areLevel_6 : decode cX12_areLevel 6 = .ok (.imul, 1) := by decide +kernel
theorem dX12_areLevel_7 : decode cX12_areLevel 7 = .ok (.iconst 2, 1) := by decide +kernel
theorem dX12_areLevel_8 : decode cX12_areLevel 8 = .ok (.iadd, 1) := by decide +kernel
theorem dX12_areLevel_9 : decode cX12_areLevel 9 = .ok (.iaload, 1) := by decide +kernel
theorem dX12_areLevel_10 : decode cX12_areLevel 10 = .ok (.aload_n 0, 1) := by decide +kernel
theorem dX12_areLevel_11 : decode cX12_areLevel 11 = .ok (.getfield 29, 3) := by decide +kernel
theorem dX12_areLevel_14 : decode cX12_areLevel 14 = .ok (.iconst 5, 1) := by decide +kernel
theorem dX12_areLevel_15 : decode cX12_areLevel 15 = .ok (.iload_n 2, 1) := by decide +kernel
theorem dX12_areLevel_16 : decode cX12_areLevel 16 = .ok (.imul, 1) := by decide +kernel
theorem dX12_areLevel_17 : decode cX12_areLevel 17 = .ok (.iconst 2, 1) := by decide +kernel
theorem dX12_areLevel_18 : decode cX12_areLevel 18 = .ok (.iadd, 1) := by decide +kernel
theorem dX12_areLevel_19 : decode cX12_areLevel 19 = .ok (.iaload, 1) := by decide +kernel
theorem dX12_areLevel_20 : decode cX12_areLevel 20 = .ok (.isub, 1) := by decide +kernel
theorem dX12_areLevel_21 : decode cX12_areLevel 21 = .ok (.istore_n 3, 1) := by decide +kernel
theorem dX12_areLevel_22 : decode cX12_areLevel 22 = .ok (.iload_n 3, 1) := by decide +kernel
theorem dX12_areLevel_23 : decode cX12_areLevel 23 = .ok (.iconst (-1), 1) := by decide +kernel
theorem dX12_areLevel_24 : decode cX12_areLevel 24 = .ok (.iconst 1, 1) := by decide +kernel
theorem dX12_areLevel_25 : decode cX12_areLevel 25 = .ok (.invokestatic 72, 3) := by decide +kernel
theorem dX12_areLevel_28 : decode cX12_areLevel 28 = .ok (.ireturn, 1) := by decide +kernel
theorem dX12_join_0 : decode cX12_join 0 = .ok (.aload_n 0, 1) := by decide +kernel
theorem dX12_join_1 : decode cX12_join 1 = .ok (.iload_n 1, 1) := by decide +kernel
theorem dX12_join_2 : decode cX12_join 2 = .ok (.invokevirtual 177, 3) := by decide +kernel
theorem dX12_join_5 : decode cX12_join 5 = .ok (.ifCond .ne 6, 3) := by decide +kernel
theorem dX12_join_8 : decode cX12_join 8 = .ok (.ldc 180, 2) := by decide +kernel
theorem dX12_join_10 : decode cX12_join 10 = .ok (.ireturn, 1) := by decide +kernel
theorem dX12_join_11 : decode cX12_join 11 = .ok (.aload_n 0, 1) := by decide +kernel
theorem dX12_join_12 : decode cX12_join 12 = .ok (.getfield 35, 3) := by decide +kernel
theorem dX12_join_15 : decode cX12_join 15 = .ok (.iload_n 1, 1) := by decide +kernel
theorem dX12_join_16 : decode cX12_join 16 = .ok (.invokestatic 199, 3) := by decide +kernel
theorem dX12_join_19 : decode cX12_join 19 = .ok (.ifCond .ne 27, 3) := by decide +kernel
theorem dX12_join_22 : decode cX12_join 22 = .ok (.aload_n 0, 1) := by decide +kernel
theorem dX12_join_23 : decode cX12_join 23 = .ok (.getfield 35, 3) := by decide +kernel
theorem dX12_join_26 : decode cX12_join 26 = .ok (.iconst 5, 1) := by decide +kernel
theorem dX12_join_27 : decode cX12_join 27 = .ok (.iaload, 1) := by decide +kernel
theorem dX12_join_28 : decode cX12_join 28 = .ok (.iconst (-1), 1) := by decide +kernel
theorem dX12_join_29 : decode cX12_join 29 = .ok (.if_icmp .ne 17, 3) := by decide +kernel
theorem dX12_join_32 : decode cX12_join 32 = .ok (.aload_n 0, 1) := by decide +kernel
theorem dX12_join_33 : decode cX12_join 33 = .ok (.iload_n 1, 1) := by decide +kernel
theorem dX12_join_34 : decode cX12_join 34 = .ok (.aload_n 0, 1) := by decide +kernel
theorem dX12_join_35 : decode cX12_join 35 = .ok (.getfield 35, 3) := by decide +kernel
theorem dX12_join_38 : decode cX12_join 38 = .ok (.iconst 4, 1) := by decide +kernel
theorem dX12_join_39 : decode cX12_join 39 = .ok (.iaload, 1) := by decide +kernel
theorem dX12_join_40 : decode cX12_join 40 = .ok (.invokevirtual 216, 3) := by decide +kernel
theorem dX12_join_43 : decode cX12_join 43 = .ok (.ifCond .ne 6, 3) := by decide +kernel
theorem dX12_join_46 : decode cX12_join 46 = .ok (.ldc 184, 2) := by decide +kernel
theorem dX12_join_48 : decode cX12_join 48 = .ok (.ireturn, 1) := by decide +kernel
theorem dX12_join_49 : decode cX12_join 49 = .ok (.aload_n 0, 1) := by decide +kernel
theorem dX12_join_50 : decode cX12_join 50 = .ok (.getfield 35, 3) := by decide +kernel
theorem dX12_join_53 : decode cX12_join 53 = .ok (.iconst 5, 1) := by decide +kernel
theorem dX12_join_54 : decode cX12_join 54 = .ok (.iload_n 1, 1) := by decide +kernel
theorem dX12_join_55 : decode cX12_join 55 = .ok (.iastore, 1) := by decide +kernel
theorem dX12_join_56 : decode cX12_join 56 = .ok (.aload_n 0, 1) := by decide +kernel
theorem dX12_join_57 : decode cX12_join 57 = .ok (.aload_n 0, 1) := by decide +kernel
theorem dX12_join_58 : decode cX12_join 58 = .ok (.getfield 35, 3) := by decide +kernel
theorem dX12_join_61 : decode cX12_join 61 = .ok (.invokevirtual 169, 3) := by decide +kernel
theorem dX12_join_64 : decode cX12_join 64 = .ok (.ireturn, 1) := by decide +kernel
theorem dX12_fruit_0 : decode cX12_fruit 0 = .ok (.iload_n 1, 1) := by decide +kernel
theorem dX12_fruit_1 : decode cX12_fruit 1 = .ok (.iconst 0, 1) := by decide +kernel
theorem dX12_fruit_2 : decode cX12_fruit 2 = .ok (.bipush 99, 2) := by decide +kernel
theorem dX12_fruit_4 : decode cX12_fruit 4 = .ok (.invokestatic 72, 3) := by decide +kernel
theorem dX12_fruit_7 : decode cX12_fruit 7 = .ok (.ifCond .ne 6, 3) := by decide +kernel
theorem dX12_fruit_10 : decode cX12_fruit 10 = .ok (.ldc 85, 2) := by decide +kernel
theorem dX12_fruit_12 : decode cX12_fruit 12 = .ok (.ireturn, 1) := by decide +kernel
theorem dX12_fruit_13 : decode cX12_fruit 13 = .ok (.aload_n 0, 1) := by decide +kernel
theorem dX12_fruit_14 : decode cX12_fruit 14 = .ok (.getfield 35, 3) := by decide +kernel
theorem dX12_fruit_17 : decode cX12_fruit 17 = .ok (.iconst 3, 1) := by decide +kernel
theorem dX12_fruit_18 : decode cX12_fruit 18 = .ok (.aload_n 0, 1) := by decide +kernel
theorem dX12_fruit_19 : decode cX12_fruit 19 = .ok (.getfield 35, 3) := by decide +kernel
theorem dX12_fruit_22 : decode cX12_fruit 22 = .ok (.iconst 3, 1) := by decide +kernel
theorem dX12_fruit_23 : decode cX12_fruit 23 = .ok (.iaload, 1) := by decide +kernel
theorem dX12_fruit_24 : decode cX12_fruit 24 = .ok (.iload_n 1, 1) := by decide +kernel
theorem dX12_fruit_25 : decode cX12_fruit 25 = .ok (.iadd, 1) := by decide +kernel
theorem dX12_fruit_26 : decode cX12_fruit 26 = .ok (.sipush 999, 3) := by decide +kernel
theorem dX12_fruit_29 : decode cX12_fruit 29 = .ok (.if_icmp .le 9, 3) := by decide +kernel
theorem dX12_fruit_32 : decode cX12_fruit 32 = .ok (.sipush 999, 3) := by decide +kernel
theorem dX12_fruit_35 : decode cX12_fruit 35 = .ok (.goto 11, 3) := by decide +kernel
theorem dX12_fruit_38 : decode cX12_fruit 38 = .ok (.aload_n 0, 1) := by decide +kernel
theorem dX12_fruit_39 : decode cX12_fruit 39 = .ok (.getfield 35, 3) := by decide +kernel
theorem dX12_fruit_42 : decode cX12_fruit 42 = .ok (.iconst 3, 1) := by decide +kernel
theorem dX12_fruit_43 : decode cX12_fruit 43 = .ok (.iaload, 1) := by decide +kernel
theorem dX12_fruit_44 : decode cX12_fruit 44 = .ok (.iload_n 1, 1) := by decide +kernel
theorem dX12_fruit_45 : decode cX12_fruit 45 = .ok (.iadd, 1) := by decide +kernel
theorem dX12_fruit_46 : decode cX12_fruit 46 = .ok (.iastore, 1) := by decide +kernel
theorem dX12_fruit_47 : decode cX12_fruit 47 = .ok (.aload_n 0, 1) := by decide +kernel
theorem dX12_fruit_48 : decode cX12_fruit 48 = .ok (.getfield 35, 3) := by decide +kernel
theorem dX12_fruit_51 : decode cX12_fruit 51 = .ok (.iconst 3, 1) := by decide +kernel
theorem dX12_fruit_52 : decode cX12_fruit 52 = .ok (.iaload, 1) := by decide +kernel
theorem dX12_fruit_53 : decode cX12_fruit 53 = .ok (.ireturn, 1) := by decide +kernel
theorem dX12_draw_0 : decode cX12_draw 0 = .ok (.aload_n 0, 1) := by decide +kernel
theorem dX12_draw_1 : decode cX12_draw 1 = .ok (.getfield 35, 3) := by decide +kernel
theorem dX12_draw_4 : decode cX12_draw 4 = .ok (.bipush 6, 2) := by decide +kernel
theorem dX12_draw_6 : decode cX12_draw 6 = .ok (.aload_n 0, 1) := by decide +kernel
theorem dX12_draw_7 : decode cX12_draw 7 = .ok (.getfield 35, 3) := by decide +kernel
theorem dX12_draw_10 : decode cX12_draw 10 = .ok (.bipush 6, 2) := by decide +kernel
theorem dX12_draw_12 : decode cX12_draw 12 = .ok (.iaload, 1) := by decide +kernel
theorem dX12_draw_13 : decode cX12_draw 13 = .ok (.i2l, 1) := by decide +kernel
theorem dX12_draw_14 : decode cX12_draw 14 = .ok (.ldc2_w 219, 3) := by decide +kernel
theorem dX12_draw_17 : decode cX12_draw 17 = .ok (.lmul, 1) := by decide +kernel
theorem dX12_draw_18 : decode cX12_draw 18 = .ok (.ldc2_w 221, 3) := by decide +kernel
theorem dX12_draw_21 : decode cX12_draw 21 = .ok (.ladd, 1) := by decide +kernel
theorem dX12_draw_22 : decode cX12_draw 22 = .ok (.ldc2_w 223, 3) := by decide +kernel
theorem dX12_draw_25 : decode cX12_draw 25 = .ok (.lrem, 1) := by decide +kernel
theorem dX12_draw_26 : decode cX12_draw 26 = .ok (.l2i, 1) := by decide +kernel
theorem dX12_draw_27 : decode cX12_draw 27 = .ok (.iastore, 1) := by decide +kernel
theorem dX12_draw_28 : decode cX12_draw 28 = .ok (.aload_n 0, 1) := by decide +kernel
theorem dX12_draw_29 : decode cX12_draw 29 = .ok (.getfield 35, 3) := by decide +kernel
theorem dX12_draw_32 : decode cX12_draw 32 = .ok (.bipush 6, 2) := by decide +kernel
theorem dX12_draw_34 : decode cX12_draw 34 = .ok (.iaload, 1) := by decide +kernel
theorem dX12_draw_35 : decode cX12_draw 35 = .ok (.ldc 225, 2) := by decide +kernel
theorem dX12_draw_37 : decode cX12_draw 37 = .ok (.idiv, 1) := by decide +kernel
theorem dX12_draw_38 : decode cX12_draw 38 = .ok (.iload_n 1, 1) := by decide +kernel
theorem dX12_draw_39 : decode cX12_draw 39 = .ok (.irem, 1) := by decide +kernel
theorem dX12_draw_40 : decode cX12_draw 40 = .ok (.ireturn, 1) := by decide +kernel
theorem dX12_drift_0 : decode cX12_drift 0 = .ok (.iload_n 1, 1) := by decide +kernel
theorem dX12_drift_1 : decode cX12_drift 1 = .ok (.iconst 1, 1) := by decide +kernel
theorem dX12_drift_2 : decode cX12_drift 2 = .ok (.bipush 99, 2) := by decide +kernel
theorem dX12_drift_4 : decode cX12_drift 4 = .ok (.invokestatic 72, 3) := by decide +kernel
theorem dX12_drift_7 : decode cX12_drift 7 = .ok (.ifCond .ne 6, 3) := by decide +kernel
theorem dX12_drift_10 : decode cX12_drift 10 = .ok (.ldc 85, 2) := by decide +kernel
theorem dX12_drift_12 : decode cX12_drift 12 = .ok (.ireturn, 1) := by decide +kernel
theorem dX12_drift_13 : decode cX12_drift 13 = .ok (.aload_n 0, 1) := by decide +kernel
theorem dX12_drift_14 : decode cX12_drift 14 = .ok (.invokevirtual 181, 3) := by decide +kernel
theorem dX12_drift_17 : decode cX12_drift 17 = .ok (.ifCond .ne 6, 3) := by decide +kernel
theorem dX12_drift_20 : decode cX12_drift 20 = .ok (.ldc 184, 2) := by decide +kernel
theorem dX12_drift_22 : decode cX12_drift 22 = .ok (.ireturn, 1) := by decide +kernel
theorem dX12_drift_23 : decode cX12_drift 23 = .ok (.aload_n 0, 1) := by decide +kernel
theorem dX12_drift_24 : decode cX12_drift 24 = .ok (.getfield 35, 3) := by decide +kernel
theorem dX12_drift_27 : decode cX12_drift 27 = .ok (.iconst 2, 1) := by decide +kernel
theorem dX12_drift_28 : decode cX12_drift 28 = .ok (.iaload, 1) := by decide +kernel
theorem dX12_drift_29 : decode cX12_drift 29 = .ok (.istore_n 2, 1) := by decide +kernel
theorem dX12_drift_30 : decode cX12_drift 30 = .ok (.iconst 0, 1) := by decide +kernel
theorem dX12_drift_31 : decode cX12_drift 31 = .ok (.istore_n 3, 1) := by decide +kernel
theorem dX12_drift_32 : decode cX12_drift 32 = .ok (.iload_n 3, 1) := by decide +kernel
theorem dX12_drift_33 : decode cX12_drift 33 = .ok (.iload_n 1, 1) := by decide +kernel
theorem dX12_drift_34 : decode cX12_drift 34 = .ok (.if_icmp .ge 82, 3) := by decide +kernel
theorem dX12_drift_37 : decode cX12_drift 37 = .ok (.aload_n 0, 1) := by decide +kernel
theorem dX12_drift_38 : decode cX12_drift 38 = .ok (.aload_n 0, 1) := by decide +kernel
theorem dX12_drift_39 : decode cX12_drift 39 = .ok (.getfield 69, 3) := by decide +kernel
theorem dX12_drift_42 : decode cX12_drift 42 = .ok (.invokevirtual 226, 3) := by decide +kernel
theorem dX12_drift_45 : decode cX12_drift 45 = .ok (.istore 4, 2) := by decide +kernel
theorem dX12_drift_47 : decode cX12_drift 47 = .ok (.aload_n 0, 1) := by decide +kernel
theorem dX12_drift_48 : decode cX12_drift 48 = .ok (.iload 4, 2) := by decide +kernel
theorem dX12_drift_50 : decode cX12_drift 50 = .ok (.invokevirtual 209, 3) := by decide +kernel
theorem dX12_drift_53 : decode cX12_drift 53 = .ok (.ifCond .eq 12, 3) := by decide +kernel
theorem dX12_drift_56 : decode cX12_drift 56 = .ok (.aload_n 0, 1) := by decide +kernel
theorem dX12_drift_57 : decode cX12_drift 57 = .ok (.iload 4, 2) := by decide +kernel
theorem dX12_drift_59 : decode cX12_drift 59 = .ok (.invokevirtual 212, 3) := by decide +kernel
theorem dX12_drift_62 : decode cX12_drift 62 = .ok (.goto 35, 3) := by decide +kernel
theorem dX12_drift_65 : decode cX12_drift 65 = .ok (.aload_n 0, 1) := by decide +kernel
theorem dX12_drift_66 : decode cX12_drift 66 = .ok (.getfield 35, 3) := by decide +kernel
theorem dX12_drift_69 : decode cX12_drift 69 = .ok (.iload 4, 2) := by decide +kernel
theorem dX12_drift_71 : decode cX12_drift 71 = .ok (.invokestatic 199, 3) := by decide +kernel
theorem dX12_drift_74 : decode cX12_drift 74 = .ok (.ifCond .ne 23, 3) := by decide +kernel
theorem dX12_drift_77 : decode cX12_drift 77 = .ok (.aload_n 0, 1) := by decide +kernel
theorem dX12_drift_78 : decode cX12_drift 78 = .ok (.iconst 3, 1) := by decide +kernel
theorem dX12_drift_79 : decode cX12_drift 79 = .ok (.invokevirtual 226, 3) := by decide +kernel
theorem dX12_drift_82 : decode cX12_drift 82 = .ok (.istore 5, 2) := by decide +kernel
theorem dX12_drift_84 : decode cX12_drift 84 = .ok (.aload_n 0, 1) := by decide +kernel
theorem dX12_drift_85 : decode cX12_drift 85 = .ok (.aload_n 0, 1) := by decide +kernel
theorem dX12_drift_86 : decode cX12_drift 86 = .ok (.getfield 35, 3) := by decide +kernel
theorem dX12_drift_89 : decode cX12_drift 89 = .ok (.iload 4, 2) := by decide +kernel
theorem dX12_drift_91 : decode cX12_drift 91 = .ok (.iload 5, 2) := by decide +kernel
theorem dX12_drift_93 : decode cX12_drift 93 = .ok (.invokevirtual 203, 3) := by decide +kernel
theorem dX12_drift_96 : decode cX12_drift 96 = .ok (.pop, 1) := by decide +kernel
theorem dX12_drift_97 : decode cX12_drift 97 = .ok (.aload_n 0, 1) := by decide +kernel
theorem dX12_drift_98 : decode cX12_drift 98 = .ok (.invokevirtual 185, 3) := by decide +kernel
theorem dX12_drift_101 : decode cX12_drift 101 = .ok (.aload_n 0, 1) := by decide +kernel
theorem dX12_drift_102 : decode cX12_drift 102 = .ok (.aload_n 0, 1) := by decide +kernel
theorem dX12_drift_103 : decode cX12_drift 103 = .ok (.getfield 35, 3) := by decide +kernel
theorem dX12_drift_106 : decode cX12_drift 106 = .ok (.iconst 0, 1) := by decide +kernel
theorem dX12_drift_107 : decode cX12_drift 107 = .ok (.invokevirtual 188, 3) := by decide +kernel
theorem dX12_drift_110 : decode cX12_drift 110 = .ok (.iinc 3 1, 3) := by decide +kernel
theorem dX12_drift_113 : decode cX12_drift 113 = .ok (.goto (-81), 3) := by decide +kernel
theorem dX12_drift_116 : decode cX12_drift 116 = .ok (.aload_n 0, 1) := by decide +kernel
theorem dX12_drift_117 : decode cX12_drift 117 = .ok (.getfield 35, 3) := by decide +kernel
theorem dX12_drift_120 : decode cX12_drift 120 = .ok (.iconst 2, 1) := by decide +kernel
theorem dX12_drift_121 : decode cX12_drift 121 = .ok (.iaload, 1) := by decide +kernel
theorem dX12_drift_122 : decode cX12_drift 122 = .ok (.iload_n 2, 1) := by decide +kernel
theorem dX12_drift_123 : decode cX12_drift 123 = .ok (.isub, 1) := by decide +kernel
theorem dX12_drift_124 : decode cX12_drift 124 = .ok (.ireturn, 1) := by decide +kernel
theorem dX12_undo_0 : decode cX12_undo 0 = .ok (.iload_n 1, 1) := by decide +kernel
theorem dX12_undo_1 : decode cX12_undo 1 = .ok (.iconst 1, 1) := by decide +kernel
theorem dX12_undo_2 : decode cX12_undo 2 = .ok (.bipush 60, 2) := by decide +kernel
theorem dX12_undo_4 : decode cX12_undo 4 = .ok (.invokestatic 72, 3) := by decide +kernel
theorem dX12_undo_7 : decode cX12_undo 7 = .ok (.ifCond .ne 6, 3) := by decide +kernel
theorem dX12_undo_10 : decode cX12_undo 10 = .ok (.ldc 85, 2) := by decide +kernel
theorem dX12_undo_12 : decode cX12_undo 12 = .ok (.ireturn, 1) := by decide +kernel
theorem dX12_undo_13 : decode cX12_undo 13 = .ok (.iload_n 1, 1) := by decide +kernel
theorem dX12_undo_14 : decode cX12_undo 14 = .ok (.aload_n 0, 1) := by decide +kernel
theorem dX12_undo_15 : decode cX12_undo 15 = .ok (.getfield 76, 3) := by decide +kernel
theorem dX12_undo_18 : decode cX12_undo 18 = .ok (.if_icmp .le 6, 3) := by decide +kernel
theorem dX12_undo_21 : decode cX12_undo 21 = .ok (.ldc 184, 2) := by decide +kernel
theorem dX12_undo_23 : decode cX12_undo 23 = .ok (.ireturn, 1) := by decide +kernel
theorem dX12_undo_24 : decode cX12_undo 24 = .ok (.aload_n 0, 1) := by decide +kernel
theorem dX12_undo_25 : decode cX12_undo 25 = .ok (.dup, 1) := by decide +kernel
theorem dX12_undo_26 : decode cX12_undo 26 = .ok (.getfield 76, 3) := by decide +kernel
theorem dX12_undo_29 : decode cX12_undo 29 = .ok (.iload_n 1, 1) := by decide +kernel
theorem dX12_undo_30 : decode cX12_undo 30 = .ok (.isub, 1) := by decide +kernel
theorem dX12_undo_31 : decode cX12_undo 31 = .ok (.putfield 76, 3) := by decide +kernel
theorem dX12_undo_34 : decode cX12_undo 34 = .ok (.aload_n 0, 1) := by decide +kernel
theorem dX12_undo_35 : decode cX12_undo 35 = .ok (.getfield 35, 3) := by decide +kernel
theorem dX12_undo_38 : decode cX12_undo 38 = .ok (.bipush 6, 2) := by decide +kernel
theorem dX12_undo_40 : decode cX12_undo 40 = .ok (.iaload, 1) := by decide +kernel
theorem dX12_undo_41 : decode cX12_undo 41 = .ok (.istore_n 2, 1) := by decide +kernel
theorem dX12_undo_42 : decode cX12_undo 42 = .ok (.aload_n 0, 1) := by decide +kernel
theorem dX12_undo_43 : decode cX12_undo 43 = .ok (.getfield 48, 3) := by decide +kernel
theorem dX12_undo_46 : decode cX12_undo 46 = .ok (.bipush 31, 2) := by decide +kernel
theorem dX12_undo_48 : decode cX12_undo 48 = .ok (.aload_n 0, 1) := by decide +kernel
theorem dX12_undo_49 : decode cX12_undo 49 = .ok (.getfield 76, 3) := by decide +kernel
theorem dX12_undo_52 : decode cX12_undo 52 = .ok (.imul, 1) := by decide +kernel
theorem dX12_undo_53 : decode cX12_undo 53 = .ok (.aload_n 0, 1) := by decide +kernel
theorem dX12_undo_54 : decode cX12_undo 54 = .ok (.getfield 35, 3) := by decide +kernel
theorem dX12_undo_57 : decode cX12_undo 57 = .ok (.iconst 0, 1) := by decide +kernel
theorem dX12_undo_58 : decode cX12_undo 58 = .ok (.invokestatic 173, 3) := by decide +kernel
theorem dX12_undo_61 : decode cX12_undo 61 = .ok (.aload_n 0, 1) := by decide +kernel
theorem dX12_undo_62 : decode cX12_undo 62 = .ok (.getfield 35, 3) := by decide +kernel
theorem dX12_undo_65 : decode cX12_undo 65 = .ok (.bipush 6, 2) := by decide +kernel
theorem dX12_undo_67 : decode cX12_undo 67 = .ok (.iload_n 2, 1) := by decide +kernel
theorem dX12_undo_68 : decode cX12_undo 68 = .ok (.iastore, 1) := by decide +kernel
theorem dX12_undo_69 : decode cX12_undo 69 = .ok (.aload_n 0, 1) := by decide +kernel
theorem dX12_undo_70 : decode cX12_undo 70 = .ok (.getfield 35, 3) := by decide +kernel
theorem dX12_undo_73 : decode cX12_undo 73 = .ok (.iconst 0, 1) := by decide +kernel
theorem dX12_undo_74 : decode cX12_undo 74 = .ok (.iaload, 1) := by decide +kernel
theorem dX12_undo_75 : decode cX12_undo 75 = .ok (.ireturn, 1) := by decide +kernel
theorem dX12_power_0 : decode cX12_power 0 = .ok (.iconst 1, 1) := by decide +kernel
theorem dX12_power_1 : decode cX12_power 1 = .ok (.istore_n 2, 1) := by decide +kernel
theorem dX12_power_2 : decode cX12_power 2 = .ok (.iconst 0, 1) := by decide +kernel
theorem dX12_power_3 : decode cX12_power 3 = .ok (.istore_n 3, 1) := by decide +kernel
theorem dX12_power_4 : decode cX12_power 4 = .ok (.iload_n 3, 1) := by decide +kernel
theorem dX12_power_5 : decode cX12_power 5 = .ok (.iload_n 1, 1) := by decide +kernel
theorem dX12_power_6 : decode cX12_power 6 = .ok (.if_icmp .ge 13, 3) := by decide +kernel
theorem dX12_power_9 : decode cX12_power 9 = .ok (.iload_n 2, 1) := by decide +kernel
theorem dX12_power_10 : decode cX12_power 10 = .ok (.iload_n 0, 1) := by decide +kernel
theorem dX12_power_11 : decode cX12_power 11 = .ok (.imul, 1) := by decide +kernel
theorem dX12_power_12 : decode cX12_power 12 = .ok (.istore_n 2, 1) := by decide +kernel
theorem dX12_power_13 : decode cX12_power 13 = .ok (.iinc 3 1, 3) := by decide +kernel
theorem dX12_power_16 : decode cX12_power 16 = .ok (.goto (-12), 3) := by decide +kernel
theorem dX12_power_19 : decode cX12_power 19 = .ok (.iload_n 2, 1) := by decide +kernel
theorem dX12_power_20 : decode cX12_power 20 = .ok (.ireturn, 1) := by decide +kernel
theorem dX12_lay_0 : decode cX12_lay 0 = .ok (.iload_n 1, 1) := by decide +kernel
theorem dX12_lay_1 : decode cX12_lay 1 = .ok (.istore_n 3, 1) := by decide +kernel
theorem dX12_lay_2 : decode cX12_lay 2 = .ok (.iload_n 2, 1) := by decide +kernel
theorem dX12_lay_3 : decode cX12_lay 3 = .ok (.iconst 1, 1) := by decide +kernel
theorem dX12_lay_4 : decode cX12_lay 4 = .ok (.isub, 1) := by decide +kernel
theorem dX12_lay_5 : decode cX12_lay 5 = .ok (.istore 4, 2) := by decide +kernel
theorem dX12_lay_7 : decode cX12_lay 7 = .ok (.iload 4, 2) := by decide +kernel
theorem dX12_lay_9 : decode cX12_lay 9 = .ok (.ifCond .lt 29, 3) := by decide +kernel
theorem dX12_lay_12 : decode cX12_lay 12 = .ok (.aload_n 0, 1) := by decide +kernel
theorem dX12_lay_13 : decode cX12_lay 13 = .ok (.getfield 57, 3) := by decide +kernel
theorem dX12_lay_16 : decode cX12_lay 16 = .ok (.iload 4, 2) := by decide +kernel
theorem dX12_lay_18 : decode cX12_lay 18 = .ok (.iload_n 3, 1) := by decide +kernel
theorem dX12_lay_19 : decode cX12_lay 19 = .ok (.aload_n 0, 1) := by decide +kernel
theorem dX12_lay_20 : decode cX12_lay 20 = .ok (.getfield 69, 3) := by decide +kernel
theorem dX12_lay_23 : decode cX12_lay 23 = .ok (.irem, 1) := by decide +kernel
theorem dX12_lay_24 : decode cX12_lay 24 = .ok (.iastore, 1) := by decide +kernel
theorem dX12_lay_25 : decode cX12_lay 25 = .ok (.iload_n 3, 1) := by decide +kernel
theorem dX12_lay_26 : decode cX12_lay 26 = .ok (.aload_n 0, 1) := by decide +kernel
theorem dX12_lay_27 : decode cX12_lay 27 = .ok (.getfield 69, 3) := by decide +kernel
theorem dX12_lay_30 : decode cX12_lay 30 = .ok (.idiv, 1) := by decide +kernel
theorem dX12_lay_31 : decode cX12_lay 31 = .ok (.istore_n 3, 1) := by decide +kernel
theorem dX12_lay_32 : decode cX12_lay 32 = .ok (.iinc 4 (-1), 3) := by decide +kernel
theorem dX12_lay_35 : decode cX12_lay 35 = .ok (.goto (-28), 3) := by decide +kernel
theorem dX12_lay_38 : decode cX12_lay 38 = .ok (.return_, 1) := by decide +kernel
theorem dX12_goesFor_0 : decode cX12_goesFor 0 = .ok (.aload_n 0, 1) := by decide +kernel
theorem dX12_goesFor_1 : decode cX12_goesFor 1 = .ok (.getfield 35, 3) := by decide +kernel
theorem dX12_goesFor_4 : decode cX12_goesFor 4 = .ok (.iconst 0, 1) := by decide +kernel
theorem dX12_goesFor_5 : decode cX12_goesFor 5 = .ok (.aload_n 0, 1) := by decide +kernel
theorem dX12_goesFor_6 : decode cX12_goesFor 6 = .ok (.getfield 38, 3) := by decide +kernel
theorem dX12_goesFor_9 : decode cX12_goesFor 9 = .ok (.iconst 0, 1) := by decide +kernel
theorem dX12_goesFor_10 : decode cX12_goesFor 10 = .ok (.invokestatic 173, 3) := by decide +kernel
theorem dX12_goesFor_13 : decode cX12_goesFor 13 = .ok (.iconst 0, 1) := by decide +kernel
theorem dX12_goesFor_14 : decode cX12_goesFor 14 = .ok (.istore_n 3, 1) := by decide +kernel
theorem dX12_goesFor_15 : decode cX12_goesFor 15 = .ok (.iload_n 3, 1) := by decide +kernel
theorem dX12_goesFor_16 : decode cX12_goesFor 16 = .ok (.iload_n 1, 1) := by decide +kernel
theorem dX12_goesFor_17 : decode cX12_goesFor 17 = .ok (.if_icmp .ge 49, 3) := by decide +kernel
theorem dX12_goesFor_20 : decode cX12_goesFor 20 = .ok (.aload_n 0, 1) := by decide +kernel
theorem dX12_goesFor_21 : decode cX12_goesFor 21 = .ok (.getfield 38, 3) := by decide +kernel
theorem dX12_goesFor_24 : decode cX12_goesFor 24 = .ok (.iconst 4, 1) := by decide +kernel
theorem dX12_goesFor_25 : decode cX12_goesFor 25 = .ok (.aload_n 0, 1) := by decide +kernel
theorem dX12_goesFor_26 : decode cX12_goesFor 26 = .ok (.getfield 57, 3) := by decide +kernel
theorem dX12_goesFor_29 : decode cX12_goesFor 29 = .ok (.iload_n 3, 1) := by decide +kernel
theorem dX12_goesFor_30 : decode cX12_goesFor 30 = .ok (.iaload, 1) := by decide +kernel
theorem dX12_goesFor_31 : decode cX12_goesFor 31 = .ok (.iastore, 1) := by decide +kernel
theorem dX12_goesFor_32 : decode cX12_goesFor 32 = .ok (.aload_n 0, 1) := by decide +kernel
