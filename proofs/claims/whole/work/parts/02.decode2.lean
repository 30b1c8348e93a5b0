theorem dX10_passHour_17 : decode cX10_passHour 17 = .ok (.return_, 1) := by decide +kernel
theorem dX10_endHour_0 : decode cX10_endHour 0 = .ok (.aload_n 0, 1) := by decide +kernel
theorem dX10_endHour_1 : decode cX10_endHour 1 = .ok (.iload_n 1, 1) := by decide +kernel
theorem dX10_endHour_2 : decode cX10_endHour 2 = .ok (.putfield 35, 3) := by decide +kernel
theorem dX10_endHour_5 : decode cX10_endHour 5 = .ok (.aload_n 0, 1) := by decide +kernel
theorem dX10_endHour_6 : decode cX10_endHour 6 = .ok (.ldc 117, 2) := by decide +kernel
theorem dX10_endHour_8 : decode cX10_endHour 8 = .ok (.aload_n 0, 1) := by decide +kernel
theorem dX10_endHour_9 : decode cX10_endHour 9 = .ok (.getfield 38, 3) := by decide +kernel
theorem dX10_endHour_12 : decode cX10_endHour 12 = .ok (.aload_n 0, 1) := by decide +kernel
theorem dX10_endHour_13 : decode cX10_endHour 13 = .ok (.getfield 35, 3) := by decide +kernel
theorem dX10_endHour_16 : decode cX10_endHour 16 = .ok (.iadd, 1) := by decide +kernel
theorem dX10_endHour_17 : decode cX10_endHour 17 = .ok (.invokestatic 107, 3) := by decide +kernel
theorem dX10_endHour_20 : decode cX10_endHour 20 = .ok (.putfield 38, 3) := by decide +kernel
theorem dX10_endHour_23 : decode cX10_endHour 23 = .ok (.iconst 0, 1) := by decide +kernel
theorem dX10_endHour_24 : decode cX10_endHour 24 = .ok (.istore_n 2, 1) := by decide +kernel
theorem dX10_endHour_25 : decode cX10_endHour 25 = .ok (.iload_n 2, 1) := by decide +kernel
theorem dX10_endHour_26 : decode cX10_endHour 26 = .ok (.aload_n 0, 1) := by decide +kernel
theorem dX10_endHour_27 : decode cX10_endHour 27 = .ok (.getfield 24, 3) := by decide +kernel
theorem dX10_endHour_30 : decode cX10_endHour 30 = .ok (.getfield 49, 3) := by decide +kernel
theorem dX10_endHour_33 : decode cX10_endHour 33 = .ok (.if_icmp .ge 30, 3) := by decide +kernel
theorem dX10_endHour_36 : decode cX10_endHour 36 = .ok (.aload_n 0, 1) := by decide +kernel
theorem dX10_endHour_37 : decode cX10_endHour 37 = .ok (.iload_n 2, 1) := by decide +kernel
theorem dX10_endHour_38 : decode cX10_endHour 38 = .ok (.invokevirtual 118, 3) := by decide +kernel
theorem dX10_endHour_41 : decode cX10_endHour 41 = .ok (.ifCond .eq 11, 3) := by decide +kernel
theorem dX10_endHour_44 : decode cX10_endHour 44 = .ok (.aload_n 0, 1) := by decide +kernel
theorem dX10_endHour_45 : decode cX10_endHour 45 = .ok (.iload_n 2, 1) := by decide +kernel
theorem dX10_endHour_46 : decode cX10_endHour 46 = .ok (.invokevirtual 121, 3) := by decide +kernel
theorem dX10_endHour_49 : decode cX10_endHour 49 = .ok (.goto 8, 3) := by decide +kernel
theorem dX10_endHour_52 : decode cX10_endHour 52 = .ok (.aload_n 0, 1) := by decide +kernel
theorem dX10_endHour_53 : decode cX10_endHour 53 = .ok (.iload_n 2, 1) := by decide +kernel
theorem dX10_endHour_54 : decode cX10_endHour 54 = .ok (.invokevirtual 124, 3) := by decide +kernel
theorem dX10_endHour_57 : decode cX10_endHour 57 = .ok (.iinc 2 1, 3) := by decide +kernel
theorem dX10_endHour_60 : decode cX10_endHour 60 = .ok (.goto (-35), 3) := by decide +kernel
theorem dX10_endHour_63 : decode cX10_endHour 63 = .ok (.aload_n 0, 1) := by decide +kernel
theorem dX10_endHour_64 : decode cX10_endHour 64 = .ok (.dup, 1) := by decide +kernel
theorem dX10_endHour_65 : decode cX10_endHour 65 = .ok (.getfield 31, 3) := by decide +kernel
theorem dX10_endHour_68 : decode cX10_endHour 68 = .ok (.iconst 1, 1) := by decide +kernel
theorem dX10_endHour_69 : decode cX10_endHour 69 = .ok (.iadd, 1) := by decide +kernel
theorem dX10_endHour_70 : decode cX10_endHour 70 = .ok (.putfield 31, 3) := by decide +kernel
theorem dX10_endHour_73 : decode cX10_endHour 73 = .ok (.return_, 1) := by decide +kernel
theorem dX10_bear_0 : decode cX10_bear 0 = .ok (.aload_n 0, 1) := by decide +kernel
theorem dX10_bear_1 : decode cX10_bear 1 = .ok (.getfield 9, 3) := by decide +kernel
theorem dX10_bear_4 : decode cX10_bear 4 = .ok (.iload_n 1, 1) := by decide +kernel
theorem dX10_bear_5 : decode cX10_bear 5 = .ok (.bipush 20, 2) := by decide +kernel
theorem dX10_bear_7 : decode cX10_bear 7 = .ok (.aload_n 0, 1) := by decide +kernel
theorem dX10_bear_8 : decode cX10_bear 8 = .ok (.getfield 9, 3) := by decide +kernel
theorem dX10_bear_11 : decode cX10_bear 11 = .ok (.iload_n 1, 1) := by decide +kernel
theorem dX10_bear_12 : decode cX10_bear 12 = .ok (.iaload, 1) := by decide +kernel
theorem dX10_bear_13 : decode cX10_bear 13 = .ok (.iconst 1, 1) := by decide +kernel
theorem dX10_bear_14 : decode cX10_bear 14 = .ok (.iadd, 1) := by decide +kernel
theorem dX10_bear_15 : decode cX10_bear 15 = .ok (.invokestatic 107, 3) := by decide +kernel
theorem dX10_bear_18 : decode cX10_bear 18 = .ok (.iastore, 1) := by decide +kernel
theorem dX10_bear_19 : decode cX10_bear 19 = .ok (.aload_n 0, 1) := by decide +kernel
theorem dX10_bear_20 : decode cX10_bear 20 = .ok (.getfield 15, 3) := by decide +kernel
theorem dX10_bear_23 : decode cX10_bear 23 = .ok (.iload_n 1, 1) := by decide +kernel
theorem dX10_bear_24 : decode cX10_bear 24 = .ok (.dup2, 1) := by decide +kernel
theorem dX10_bear_25 : decode cX10_bear 25 = .ok (.iaload, 1) := by decide +kernel
theorem dX10_bear_26 : decode cX10_bear 26 = .ok (.iconst 1, 1) := by decide +kernel
theorem dX10_bear_27 : decode cX10_bear 27 = .ok (.iadd, 1) := by decide +kernel
theorem dX10_bear_28 : decode cX10_bear 28 = .ok (.iastore, 1) := by decide +kernel
theorem dX10_bear_29 : decode cX10_bear 29 = .ok (.aload_n 0, 1) := by decide +kernel
theorem dX10_bear_30 : decode cX10_bear 30 = .ok (.getfield 18, 3) := by decide +kernel
theorem dX10_bear_33 : decode cX10_bear 33 = .ok (.iload_n 1, 1) := by decide +kernel
theorem dX10_bear_34 : decode cX10_bear 34 = .ok (.dup2, 1) := by decide +kernel
theorem dX10_bear_35 : decode cX10_bear 35 = .ok (.iaload, 1) := by decide +kernel
theorem dX10_bear_36 : decode cX10_bear 36 = .ok (.iconst 1, 1) := by decide +kernel
theorem dX10_bear_37 : decode cX10_bear 37 = .ok (.iadd, 1) := by decide +kernel
theorem dX10_bear_38 : decode cX10_bear 38 = .ok (.iastore, 1) := by decide +kernel
theorem dX10_bear_39 : decode cX10_bear 39 = .ok (.aload_n 0, 1) := by decide +kernel
theorem dX10_bear_40 : decode cX10_bear 40 = .ok (.getfield 24, 3) := by decide +kernel
theorem dX10_bear_43 : decode cX10_bear 43 = .ok (.getfield 88, 3) := by decide +kernel
theorem dX10_bear_46 : decode cX10_bear 46 = .ok (.iload_n 1, 1) := by decide +kernel
theorem dX10_bear_47 : decode cX10_bear 47 = .ok (.iaload, 1) := by decide +kernel
theorem dX10_bear_48 : decode cX10_bear 48 = .ok (.iconst 4, 1) := by decide +kernel
theorem dX10_bear_49 : decode cX10_bear 49 = .ok (.if_icmp .ne 20, 3) := by decide +kernel
theorem dX10_bear_52 : decode cX10_bear 52 = .ok (.aload_n 0, 1) := by decide +kernel
theorem dX10_bear_53 : decode cX10_bear 53 = .ok (.getfield 46, 3) := by decide +kernel
theorem dX10_bear_56 : decode cX10_bear 56 = .ok (.ifCond .le 13, 3) := by decide +kernel
theorem dX10_bear_59 : decode cX10_bear 59 = .ok (.aload_n 0, 1) := by decide +kernel
theorem dX10_bear_60 : decode cX10_bear 60 = .ok (.dup, 1) := by decide +kernel
theorem dX10_bear_61 : decode cX10_bear 61 = .ok (.getfield 46, 3) := by decide +kernel
theorem dX10_bear_64 : decode cX10_bear 64 = .ok (.iconst 1, 1) := by decide +kernel
theorem dX10_bear_65 : decode cX10_bear 65 = .ok (.isub, 1) := by decide +kernel
theorem dX10_bear_66 : decode cX10_bear 66 = .ok (.putfield 46, 3) := by decide +kernel
theorem dX10_bear_69 : decode cX10_bear 69 = .ok (.return_, 1) := by decide +kernel
theorem dX10_rest_0 : decode cX10_rest 0 = .ok (.aload_n 0, 1) := by decide +kernel
theorem dX10_rest_1 : decode cX10_rest 1 = .ok (.getfield 9, 3) := by decide +kernel
theorem dX10_rest_4 : decode cX10_rest 4 = .ok (.iload_n 1, 1) := by decide +kernel
theorem dX10_rest_5 : decode cX10_rest 5 = .ok (.iconst 0, 1) := by decide +kernel
theorem dX10_rest_6 : decode cX10_rest 6 = .ok (.aload_n 0, 1) := by decide +kernel
theorem dX10_rest_7 : decode cX10_rest 7 = .ok (.getfield 9, 3) := by decide +kernel
theorem dX10_rest_10 : decode cX10_rest 10 = .ok (.iload_n 1, 1) := by decide +kernel
theorem dX10_rest_11 : decode cX10_rest 11 = .ok (.iaload, 1) := by decide +kernel
theorem dX10_rest_12 : decode cX10_rest 12 = .ok (.iconst 1, 1) := by decide +kernel
theorem dX10_rest_13 : decode cX10_rest 13 = .ok (.isub, 1) := by decide +kernel
theorem dX10_rest_14 : decode cX10_rest 14 = .ok (.invokestatic 94, 3) := by decide +kernel
theorem dX10_rest_17 : decode cX10_rest 17 = .ok (.iastore, 1) := by decide +kernel
theorem dX10_rest_18 : decode cX10_rest 18 = .ok (.aload_n 0, 1) := by decide +kernel
theorem dX10_rest_19 : decode cX10_rest 19 = .ok (.getfield 18, 3) := by decide +kernel
theorem dX10_rest_22 : decode cX10_rest 22 = .ok (.iload_n 1, 1) := by decide +kernel
theorem dX10_rest_23 : decode cX10_rest 23 = .ok (.iconst 0, 1) := by decide +kernel
theorem dX10_rest_24 : decode cX10_rest 24 = .ok (.iastore, 1) := by decide +kernel
theorem dX10_rest_25 : decode cX10_rest 25 = .ok (.return_, 1) := by decide +kernel
theorem dX11_init_0 : decode cX11_init 0 = .ok (.aload_n 0, 1) := by decide +kernel
theorem dX11_init_1 : decode cX11_init 1 = .ok (.invokespecial 1, 3) := by decide +kernel
theorem dX11_init_4 : decode cX11_init 4 = .ok (.new 7, 3) := by decide +kernel
theorem dX11_init_7 : decode cX11_init 7 = .ok (.dup, 1) := by decide +kernel
theorem dX11_init_8 : decode cX11_init 8 = .ok (.invokespecial 9, 3) := by decide +kernel
theorem dX11_init_11 : decode cX11_init 11 = .ok (.astore_n 1, 1) := by decide +kernel
theorem dX11_init_12 : decode cX11_init 12 = .ok (.iconst 5, 1) := by decide +kernel
theorem dX11_init_13 : decode cX11_init 13 = .ok (.anewarray 12, 3) := by decide +kernel
theorem dX11_init_16 : decode cX11_init 16 = .ok (.astore_n 2, 1) := by decide +kernel
theorem dX11_init_17 : decode cX11_init 17 = .ok (.iconst 0, 1) := by decide +kernel
theorem dX11_init_18 : decode cX11_init 18 = .ok (.istore_n 3, 1) := by decide +kernel
theorem dX11_init_19 : decode cX11_init 19 = .ok (.iload_n 3, 1) := by decide +kernel
theorem dX11_init_20 : decode cX11_init 20 = .ok (.iconst 5, 1) := by decide +kernel
theorem dX11_init_21 : decode cX11_init 21 = .ok (.if_icmp .ge 20, 3) := by decide +kernel
theorem dX11_init_24 : decode cX11_init 24 = .ok (.aload_n 2, 1) := by decide +kernel
theorem dX11_init_25 : decode cX11_init 25 = .ok (.iload_n 3, 1) := by decide +kernel
theorem dX11_init_26 : decode cX11_init 26 = .ok (.new 12, 3) := by decide +kernel
theorem dX11_init_29 : decode cX11_init 29 = .ok (.dup, 1) := by decide +kernel
theorem dX11_init_30 : decode cX11_init 30 = .ok (.aload_n 1, 1) := by decide +kernel
theorem dX11_init_31 : decode cX11_init 31 = .ok (.invokespecial 14, 3) := by decide +kernel
theorem dX11_init_34 : decode cX11_init 34 = .ok (.aastore, 1) := by decide +kernel
theorem dX11_init_35 : decode cX11_init 35 = .ok (.iinc 3 1, 3) := by decide +kernel
theorem dX11_init_38 : decode cX11_init 38 = .ok (.goto (-19), 3) := by decide +kernel
theorem dX11_init_41 : decode cX11_init 41 = .ok (.aload_n 0, 1) := by decide +kernel
theorem dX11_init_42 : decode cX11_init 42 = .ok (.aload_n 1, 1) := by decide +kernel
theorem dX11_init_43 : decode cX11_init 43 = .ok (.putfield 17, 3) := by decide +kernel
theorem dX11_init_46 : decode cX11_init 46 = .ok (.aload_n 0, 1) := by decide +kernel
theorem dX11_init_47 : decode cX11_init 47 = .ok (.new 21, 3) := by decide +kernel
theorem dX11_init_50 : decode cX11_init 50 = .ok (.dup, 1) := by decide +kernel
theorem dX11_init_51 : decode cX11_init 51 = .ok (.invokespecial 23, 3) := by decide +kernel
theorem dX11_init_54 : decode cX11_init 54 = .ok (.putfield 24, 3) := by decide +kernel
theorem dX11_init_57 : decode cX11_init 57 = .ok (.aload_n 0, 1) := by decide +kernel
theorem dX11_init_58 : decode cX11_init 58 = .ok (.new 12, 3) := by decide +kernel
theorem dX11_init_61 : decode cX11_init 61 = .ok (.dup, 1) := by decide +kernel
theorem dX11_init_62 : decode cX11_init 62 = .ok (.aload_n 1, 1) := by decide +kernel
theorem dX11_init_63 : decode cX11_init 63 = .ok (.invokespecial 14, 3) := by decide +kernel
theorem dX11_init_66 : decode cX11_init 66 = .ok (.putfield 28, 3) := by decide +kernel
theorem dX11_init_69 : decode cX11_init 69 = .ok (.aload_n 0, 1) := by decide +kernel
theorem dX11_init_70 : decode cX11_init 70 = .ok (.new 12, 3) := by decide +kernel
theorem dX11_init_73 : decode cX11_init 73 = .ok (.dup, 1) := by decide +kernel
theorem dX11_init_74 : decode cX11_init 74 = .ok (.aload_n 1, 1) := by decide +kernel
theorem dX11_init_75 : decode cX11_init 75 = .ok (.invokespecial 14, 3) := by decide +kernel
theorem dX11_init_78 : decode cX11_init 78 = .ok (.putfield 32, 3) := by decide +kernel
theorem dX11_init_81 : decode cX11_init 81 = .ok (.aload_n 0, 1) := by decide +kernel
theorem dX11_init_82 : decode cX11_init 82 = .ok (.new 35, 3) := by decide +kernel
theorem dX11_init_85 : decode cX11_init 85 = .ok (.dup, 1) := by decide +kernel
theorem dX11_init_86 : decode cX11_init 86 = .ok (.aload_n 1, 1) := by decide +kernel
theorem dX11_init_87 : decode cX11_init 87 = .ok (.invokespecial 37, 3) := by decide +kernel
theorem dX11_init_90 : decode cX11_init 90 = .ok (.putfield 38, 3) := by decide +kernel
theorem dX11_init_93 : decode cX11_init 93 = .ok (.aload_n 0, 1) := by decide +kernel
theorem dX11_init_94 : decode cX11_init 94 = .ok (.iconst 2, 1) := by decide +kernel
theorem dX11_init_95 : decode cX11_init 95 = .ok (.anewarray 12, 3) := by decide +kernel
theorem dX11_init_98 : decode cX11_init 98 = .ok (.putfield 42, 3) := by decide +kernel
theorem dX11_init_101 : decode cX11_init 101 = .ok (.iconst 0, 1) := by decide +kernel
theorem dX11_init_102 : decode cX11_init 102 = .ok (.istore_n 3, 1) := by decide +kernel
theorem dX11_init_103 : decode cX11_init 103 = .ok (.iload_n 3, 1) := by decide +kernel
theorem dX11_init_104 : decode cX11_init 104 = .ok (.iconst 2, 1) := by decide +kernel
theorem dX11_init_105 : decode cX11_init 105 = .ok (.if_icmp .ge 23, 3) := by decide +kernel
theorem dX11_init_108 : decode cX11_init 108 = .ok (.aload_n 0, 1) := by decide +kernel
theorem dX11_init_109 : decode cX11_init 109 = .ok (.getfield 42, 3) := by decide +kernel
theorem dX11_init_112 : decode cX11_init 112 = .ok (.iload_n 3, 1) := by decide +kernel
theorem dX11_init_113 : decode cX11_init 113 = .ok (.new 12, 3) := by decide +kernel
theorem dX11_init_116 : decode cX11_init 116 = .ok (.dup, 1) := by decide +kernel
theorem dX11_init_117 : decode cX11_init 117 = .ok (.aload_n 1, 1) := by decide +kernel
theorem dX11_init_118 : decode cX11_init 118 = .ok (.invokespecial 14, 3) := by decide +kernel
theorem dX11_init_121 : decode cX11_init 121 = .ok (.aastore, 1) := by decide +kernel
theorem dX11_init_122 : decode cX11_init 122 = .ok (.iinc 3 1, 3) := by decide +kernel
theorem dX11_init_125 : decode cX11_init 125 = .ok (.goto (-22), 3) := by decide +kernel
theorem dX11_init_128 : decode cX11_init 128 = .ok (.aload_n 0, 1) := by decide +kernel
theorem dX11_init_129 : decode cX11_init 129 = .ok (.iconst 2, 1) := by decide +kernel
theorem dX11_init_130 : decode cX11_init 130 = .ok (.newarray .boolean, 2) := by decide +kernel
theorem dX11_init_132 : decode cX11_init 132 = .ok (.putfield 46, 3) := by decide +kernel
theorem dX11_init_135 : decode cX11_init 135 = .ok (.aload_n 0, 1) := by decide +kernel
theorem dX11_init_136 : decode cX11_init 136 = .ok (.iconst 2, 1) := by decide +kernel
theorem dX11_init_137 : decode cX11_init 137 = .ok (.newarray .int, 2) := by decide +kernel
theorem dX11_init_139 : decode cX11_init 139 = .ok (.putfield 50, 3) := by decide +kernel
theorem dX11_init_142 : decode cX11_init 142 = .ok (.aload_n 0, 1) := by decide +kernel
theorem dX11_init_143 : decode cX11_init 143 = .ok (.new 54, 3) := by decide +kernel
theorem dX11_init_146 : decode cX11_init 146 = .ok (.dup, 1) := by decide +kernel
theorem dX11_init_147 : decode cX11_init 147 = .ok (.aload_n 1, 1) := by decide +kernel
theorem dX11_init_148 : decode cX11_init 148 = .ok (.aload_n 2, 1) := by decide +kernel
theorem dX11_init_149 : decode cX11_init 149 = .ok (.invokespecial 56, 3) := by decide +kernel
theorem dX11_init_152 : decode cX11_init 152 = .ok (.putfield 59, 3) := by decide +kernel
theorem dX11_init_155 : decode cX11_init 155 = .ok (.aload_n 0, 1) := by decide +kernel
theorem dX11_init_156 : decode cX11_init 156 = .ok (.new 63, 3) := by decide +kernel
theorem dX11_init_159 : decode cX11_init 159 = .ok (.dup, 1) := by decide +kernel
theorem dX11_init_160 : decode cX11_init 160 = .ok (.aload_n 1, 1) := by decide +kernel
theorem dX11_init_161 : decode cX11_init 161 = .ok (.aload_n 2, 1) := by decide +kernel
theorem dX11_init_162 : decode cX11_init 162 = .ok (.invokespecial 65, 3) := by decide +kernel
theorem dX11_init_165 : decode cX11_init 165 = .ok (.putfield 66, 3) := by decide +kernel
theorem dX11_init_168 : decode cX11_init 168 = .ok (.aload_n 0, 1) := by decide +kernel
theorem dX11_init_169 : decode cX11_init 169 = .ok (.new 70, 3) := by decide +kernel
theorem dX11_init_172 : decode cX11_init 172 = .ok (.dup, 1) := by decide +kernel
theorem dX11_init_173 : decode cX11_init 173 = .ok (.aload_n 1, 1) := by decide +kernel
theorem dX11_init_174 : decode cX11_init 174 = .ok (.invokespecial 72, 3) := by decide +kernel
theorem dX11_init_177 : decode cX11_init 177 = .ok (.putfield 73, 3) := by decide +kernel
theorem dX11_init_180 : decode cX11_init 180 = .ok (.aload_n 0, 1) := by decide +kernel
theorem dX11_init_181 : decode cX11_init 181 = .ok (.new 77, 3) := by decide +kernel
theorem dX11_init_184 : decode cX11_init 184 = .ok (.dup, 1) := by decide +kernel
theorem dX11_init_185 : decode cX11_init 185 = .ok (.invokespecial 79, 3) := by decide +kernel
theorem dX11_init_188 : decode cX11_init 188 = .ok (.putfield 80, 3) := by decide +kernel
theorem dX11_init_191 : decode cX11_init 191 = .ok (.aload_n 0, 1) := by decide +kernel
theorem dX11_init_192 : decode cX11_init 192 = .ok (.new 84, 3) := by decide +kernel
theorem dX11_init_195 : decode cX11_init 195 = .ok (.dup, 1) := by decide +kernel
theorem dX11_init_196 : decode cX11_init 196 = .ok (.aload_n 1, 1) := by decide +kernel
theorem dX11_init_197 : decode cX11_init 197 = .ok (.invokespecial 86, 3) := by decide +kernel
theorem dX11_init_200 : decode cX11_init 200 = .ok (.putfield 87, 3) := by decide +kernel
theorem dX11_init_203 : decode cX11_init 203 = .ok (.aload_n 0, 1) := by decide +kernel
theorem dX11_init_204 : decode cX11_init 204 = .ok (.new 91, 3) := by decide +kernel
theorem dX11_init_207 : decode cX11_init 207 = .ok (.dup, 1) := by decide +kernel
theorem dX11_init_208 : decode cX11_init 208 = .ok (.invokespecial 93, 3) := by decide +kernel
theorem dX11_init_211 : decode cX11_init 211 = .ok (.putfield 94, 3) := by decide +kernel
theorem dX11_init_214 : decode cX11_init 214 = .ok (.aload_n 0, 1) := by decide +kernel
theorem dX11_init_215 : decode cX11_init 215 = .ok (.iconst (-1), 1) := by decide +kernel
theorem dX11_init_216 : decode cX11_init 216 = .ok (.putfield 98, 3) := by decide +kernel
theorem dX11_init_219 : decode cX11_init 219 = .ok (.aload_n 0, 1) := by decide +kernel
theorem dX11_init_220 : decode cX11_init 220 = .ok (.iconst 0, 1) := by decide +kernel
theorem dX11_init_221 : decode cX11_init 221 = .ok (.putfield 102, 3) := by decide +kernel
theorem dX11_init_224 : decode cX11_init 224 = .ok (.return_, 1) := by decide +kernel
theorem dX11_feed_0 : decode cX11_feed 0 = .ok (.iload_n 1, 1) := by decide +kernel
theorem dX11_feed_1 : decode cX11_feed 1 = .ok (.ifCond .lt 10, 3) := by decide +kernel
theorem dX11_feed_4 : decode cX11_feed 4 = .ok (.iload_n 1, 1) := by decide +kernel
theorem dX11_feed_5 : decode cX11_feed 5 = .ok (.sipush 255, 3) := by decide +kernel
theorem dX11_feed_8 : decode cX11_feed 8 = .ok (.if_icmp .le 6, 3) := by decide +kernel
theorem dX11_feed_11 : decode cX11_feed 11 = .ok (.ldc 105, 2) := by decide +kernel
theorem dX11_feed_13 : decode cX11_feed 13 = .ok (.ireturn, 1) := by decide +kernel
theorem dX11_feed_14 : decode cX11_feed 14 = .ok (.aload_n 0, 1) := by decide +kernel
theorem dX11_feed_15 : decode cX11_feed 15 = .ok (.getfield 24, 3) := by decide +kernel
theorem dX11_feed_18 : decode cX11_feed 18 = .ok (.getfield 106, 3) := by decide +kernel
theorem dX11_feed_21 : decode cX11_feed 21 = .ok (.sipush 250, 3) := by decide +kernel
theorem dX11_feed_24 : decode cX11_feed 24 = .ok (.if_icmp .lt 6, 3) := by decide +kernel
theorem dX11_feed_27 : decode cX11_feed 27 = .ok (.ldc 109, 2) := by decide +kernel
theorem dX11_feed_29 : decode cX11_feed 29 = .ok (.ireturn, 1) := by decide +kernel
theorem dX11_feed_30 : decode cX11_feed 30 = .ok (.aload_n 0, 1) := by decide +kernel
theorem dX11_feed_31 : decode cX11_feed 31 = .ok (.getfield 24, 3) := by decide +kernel
theorem dX11_feed_34 : decode cX11_feed 34 = .ok (.iload_n 1, 1) := by decide +kernel
theorem dX11_feed_35 : decode cX11_feed 35 = .ok (.invokevirtual 110, 3) := by decide +kernel
theorem dX11_feed_38 : decode cX11_feed 38 = .ok (.ireturn, 1) := by decide +kernel
theorem dX11_edge_0 : decode cX11_edge 0 = .ok (.aload_n 0, 1) := by decide +kernel
theorem dX11_edge_1 : decode cX11_edge 1 = .ok (.getfield 24, 3) := by decide +kernel
theorem dX11_edge_4 : decode cX11_edge 4 = .ok (.invokevirtual 114, 3) := by decide +kernel
theorem dX11_edge_7 : decode cX11_edge 7 = .ok (.aload_n 0, 1) := by decide +kernel
theorem dX11_edge_8 : decode cX11_edge 8 = .ok (.aload_n 0, 1) := by decide +kernel
theorem dX11_edge_9 : decode cX11_edge 9 = .ok (.getfield 24, 3) := by decide +kernel
theorem dX11_edge_12 : decode cX11_edge 12 = .ok (.getfield 117, 3) := by decide +kernel
theorem dX11_edge_15 : decode cX11_edge 15 = .ok (.putfield 98, 3) := by decide +kernel
theorem dX11_edge_18 : decode cX11_edge 18 = .ok (.aload_n 0, 1) := by decide +kernel
theorem dX11_edge_19 : decode cX11_edge 19 = .ok (.getfield 24, 3) := by decide +kernel
theorem dX11_edge_22 : decode cX11_edge 22 = .ok (.getfield 120, 3) := by decide +kernel
theorem dX11_edge_25 : decode cX11_edge 25 = .ok (.ifCond .eq 14, 3) := by decide +kernel
theorem dX11_edge_28 : decode cX11_edge 28 = .ok (.bipush (-10), 2) := by decide +kernel
theorem dX11_edge_30 : decode cX11_edge 30 = .ok (.aload_n 0, 1) := by decide +kernel
theorem dX11_edge_31 : decode cX11_edge 31 = .ok (.getfield 24, 3) := by decide +kernel
theorem dX11_edge_34 : decode cX11_edge 34 = .ok (.getfield 120, 3) := by decide +kernel
theorem dX11_edge_37 : decode cX11_edge 37 = .ok (.isub, 1) := by decide +kernel
theorem dX11_edge_38 : decode cX11_edge 38 = .ok (.ireturn, 1) := by decide +kernel
theorem dX11_edge_39 : decode cX11_edge 39 = .ok (.aload_n 0, 1) := by decide +kernel
theorem dX11_edge_40 : decode cX11_edge 40 = .ok (.getfield 17, 3) := by decide +kernel
theorem dX11_edge_43 : decode cX11_edge 43 = .ok (.aload_n 0, 1) := by decide +kernel
theorem dX11_edge_44 : decode cX11_edge 44 = .ok (.getfield 24, 3) := by decide +kernel
theorem dX11_edge_47 : decode cX11_edge 47 = .ok (.getfield 123, 3) := by decide +kernel
theorem dX11_edge_50 : decode cX11_edge 50 = .ok (.invokevirtual 126, 3) := by decide +kernel
theorem dX11_edge_53 : decode cX11_edge 53 = .ok (.aload_n 0, 1) := by decide +kernel
theorem dX11_edge_54 : decode cX11_edge 54 = .ok (.getfield 28, 3) := by decide +kernel
theorem dX11_edge_57 : decode cX11_edge 57 = .ok (.invokevirtual 129, 3) := by decide +kernel
theorem dX11_edge_60 : decode cX11_edge 60 = .ok (.aload_n 0, 1) := by decide +kernel
theorem dX11_edge_61 : decode cX11_edge 61 = .ok (.getfield 38, 3) := by decide +kernel
theorem dX11_edge_64 : decode cX11_edge 64 = .ok (.invokevirtual 132, 3) := by decide +kernel
theorem dX11_edge_67 : decode cX11_edge 67 = .ok (.aload_n 0, 1) := by decide +kernel
theorem dX11_edge_68 : decode cX11_edge 68 = .ok (.getfield 66, 3) := by decide +kernel
theorem dX11_edge_71 : decode cX11_edge 71 = .ok (.invokevirtual 135, 3) := by decide +kernel
theorem dX11_edge_74 : decode cX11_edge 74 = .ok (.aload_n 0, 1) := by decide +kernel
theorem dX11_edge_75 : decode cX11_edge 75 = .ok (.getfield 80, 3) := by decide +kernel
theorem dX11_edge_78 : decode cX11_edge 78 = .ok (.invokevirtual 138, 3) := by decide +kernel
theorem dX11_edge_81 : decode cX11_edge 81 = .ok (.iconst 0, 1) := by decide +kernel
theorem dX11_edge_82 : decode cX11_edge 82 = .ok (.istore_n 1, 1) := by decide +kernel
theorem dX11_edge_83 : decode cX11_edge 83 = .ok (.iload_n 1, 1) := by decide +kernel
theorem dX11_edge_84 : decode cX11_edge 84 = .ok (.iconst 2, 1) := by decide +kernel
theorem dX11_edge_85 : decode cX11_edge 85 = .ok (.if_icmp .ge 16, 3) := by decide +kernel
theorem dX11_edge_88 : decode cX11_edge 88 = .ok (.aload_n 0, 1) := by decide +kernel
theorem dX11_edge_89 : decode cX11_edge 89 = .ok (.getfield 46, 3) := by decide +kernel
theorem dX11_edge_92 : decode cX11_edge 92 = .ok (.iload_n 1, 1) := by decide +kernel
theorem dX11_edge_93 : decode cX11_edge 93 = .ok (.iconst 0, 1) := by decide +kernel
theorem dX11_edge_94 : decode cX11_edge 94 = .ok (.bastore, 1) := by decide +kernel
theorem dX11_edge_95 : decode cX11_edge 95 = .ok (.iinc 1 1, 3) := by decide +kernel
theorem dX11_edge_98 : decode cX11_edge 98 = .ok (.goto (-15), 3) := by decide +kernel
theorem dX11_edge_101 : decode cX11_edge 101 = .ok (.aload_n 0, 1) := by decide +kernel
theorem dX11_edge_102 : decode cX11_edge 102 = .ok (.getfield 17, 3) := by decide +kernel
theorem dX11_edge_105 : decode cX11_edge 105 = .ok (.getfield 139, 3) := by decide +kernel
theorem dX11_edge_108 : decode cX11_edge 108 = .ok (.ireturn, 1) := by decide +kernel
theorem dX11_fault_0 : decode cX11_fault 0 = .ok (.aload_n 0, 1) := by decide +kernel
theorem dX11_fault_1 : decode cX11_fault 1 = .ok (.getfield 98, 3) := by decide +kernel
theorem dX11_fault_4 : decode cX11_fault 4 = .ok (.ireturn, 1) := by decide +kernel
theorem dX11_told_0 : decode cX11_told 0 = .ok (.iload_n 1, 1) := by decide +kernel
theorem dX11_told_1 : decode cX11_told 1 = .ok (.tableswitch 190 0 13 #[71, 79, 87, 95, 103, 111, 119, 127, 135, 143, 158, 166, 174, 182], 71) := by decide +kernel
theorem dX11_told_72 : decode cX11_told 72 = .ok (.aload_n 0, 1) := by decide +kernel
theorem dX11_told_73 : decode cX11_told 73 = .ok (.getfield 17, 3) := by decide +kernel
theorem dX11_told_76 : decode cX11_told 76 = .ok (.getfield 142, 3) := by decide +kernel
theorem dX11_told_79 : decode cX11_told 79 = .ok (.ireturn, 1) := by decide +kernel
theorem dX11_told_80 : decode cX11_told 80 = .ok (.aload_n 0, 1) := by decide +kernel
theorem dX11_told_81 : decode cX11_told 81 = .ok (.getfield 17, 3) := by decide +kernel
theorem dX11_told_84 : decode cX11_told 84 = .ok (.getfield 139, 3) := by decide +kernel
theorem dX11_told_87 : decode cX11_told 87 = .ok (.ireturn, 1) := by decide +kernel
theorem dX11_told_88 : decode cX11_told 88 = .ok (.aload_n 0, 1) := by decide +kernel
theorem dX11_told_89 : decode cX11_told 89 = .ok (.getfield 24, 3) := by decide +kernel
theorem dX11_told_92 : decode cX11_told 92 = .ok (.getfield 106, 3) := by decide +kernel
theorem dX11_told_95 : decode cX11_told 95 = .ok (.ireturn, 1) := by decide +kernel
theorem dX11_told_96 : decode cX11_told 96 = .ok (.aload_n 0, 1) := by decide +kernel
theorem dX11_told_97 : decode cX11_told 97 = .ok (.getfield 28, 3) := by decide +kernel
theorem dX11_told_100 : decode cX11_told 100 = .ok (.getfield 145, 3) := by decide +kernel
theorem dX11_told_103 : decode cX11_told 103 = .ok (.ireturn, 1) := by decide +kernel
theorem dX11_told_104 : decode cX11_told 104 = .ok (.aload_n 0, 1) := by decide +kernel
theorem dX11_told_105 : decode cX11_told 105 = .ok (.getfield 28, 3) := by decide +kernel
theorem dX11_told_108 : decode cX11_told 108 = .ok (.getfield 148, 3) := by decide +kernel
theorem dX11_told_111 : decode cX11_told 111 = .ok (.ireturn, 1) := by decide +kernel
theorem dX11_told_112 : decode cX11_told 112 = .ok (.aload_n 0, 1) := by decide +kernel
theorem dX11_told_113 : decode cX11_told 113 = .ok (.getfield 28, 3) := by decide +kernel
theorem dX11_told_116 : decode cX11_told 116 = .ok (.getfield 151, 3) := by decide +kernel
theorem dX11_told_119 : decode cX11_told 119 = .ok (.ireturn, 1) := by decide +kernel
theorem dX11_told_120 : decode cX11_told 120 = .ok (.aload_n 0, 1) := by decide +kernel
theorem dX11_told_121 : decode cX11_told 121 = .ok (.getfield 28, 3) := by decide +kernel
theorem dX11_told_124 : decode cX11_told 124 = .ok (.getfield 154, 3) := by decide +kernel
theorem dX11_told_127 : decode cX11_told 127 = .ok (.ireturn, 1) := by decide +kernel
theorem dX11_told_128 : decode cX11_told 128 = .ok (.aload_n 0, 1) := by decide +kernel
theorem dX11_told_129 : decode cX11_told 129 = .ok (.getfield 28, 3) := by decide +kernel
theorem dX11_told_132 : decode cX11_told 132 = .ok (.getfield 157, 3) := by decide +kernel
theorem dX11_told_135 : decode cX11_told 135 = .ok (.ireturn, 1) := by decide +kernel
theorem dX11_told_136 : decode cX11_told 136 = .ok (.aload_n 0, 1) := by decide +kernel
theorem dX11_told_137 : decode cX11_told 137 = .ok (.getfield 28, 3) := by decide +kernel
theorem dX11_told_140 : decode cX11_told 140 = .ok (.getfield 160, 3) := by decide +kernel
theorem dX11_told_143 : decode cX11_told 143 = .ok (.ireturn, 1) := by decide +kernel
theorem dX11_told_144 : decode cX11_told 144 = .ok (.aload_n 0, 1) := by decide +kernel
theorem dX11_told_145 : decode cX11_told 145 = .ok (.getfield 17, 3) := by decide +kernel
theorem dX11_told_148 : decode cX11_told 148 = .ok (.aload_n 0, 1) := by decide +kernel
theorem dX11_told_149 : decode cX11_told 149 = .ok (.getfield 28, 3) := by decide +kernel
theorem dX11_told_152 : decode cX11_told 152 = .ok (.getfield 145, 3) := by decide +kernel
theorem dX11_told_155 : decode cX11_told 155 = .ok (.invokevirtual 163, 3) := by decide +kernel
theorem dX11_told_158 : decode cX11_told 158 = .ok (.ireturn, 1) := by decide +kernel
theorem dX11_told_159 : decode cX11_told 159 = .ok (.aload_n 0, 1) := by decide +kernel
theorem dX11_told_160 : decode cX11_told 160 = .ok (.getfield 28, 3) := by decide +kernel
theorem dX11_told_163 : decode cX11_told 163 = .ok (.invokevirtual 166, 3) := by decide +kernel
theorem dX11_told_166 : decode cX11_told 166 = .ok (.ireturn, 1) := by decide +kernel
theorem dX11_told_167 : decode cX11_told 167 = .ok (.aload_n 0, 1) := by decide +kernel
theorem dX11_told_168 : decode cX11_told 168 = .ok (.getfield 66, 3) := by decide +kernel
theorem dX11_told_171 : decode cX11_told 171 = .ok (.getfield 170, 3) := by decide +kernel
theorem dX11_told_174 : decode cX11_told 174 = .ok (.ireturn, 1) := by decide +kernel
theorem dX11_told_175 : decode cX11_told 175 = .ok (.aload_n 0, 1) := by decide +kernel
theorem dX11_told_176 : decode cX11_told 176 = .ok (.getfield 80, 3) := by decide +kernel
theorem dX11_told_179 : decode cX11_told 179 = .ok (.getfield 173, 3) := by decide +kernel
theorem dX11_told_182 : decode cX11_told 182 = .ok (.ireturn, 1) := by decide +kernel
theorem dX11_told_183 : decode cX11_told 183 = .ok (.aload_n 0, 1) := by decide +kernel
theorem dX11_told_184 : decode cX11_told 184 = .ok (.getfield 38, 3) := by decide +kernel
theorem dX11_told_187 : decode cX11_told 187 = .ok (.getfield 176, 3) := by decide +kernel
theorem dX11_told_190 : decode cX11_told 190 = .ok (.ireturn, 1) := by decide +kernel
theorem dX11_told_191 : decode cX11_told 191 = .ok (.ldc 105, 2) := by decide +kernel
theorem dX11_told_193 : decode cX11_told 193 = .ok (.ireturn, 1) := by decide +kernel
theorem dX11_person_0 : decode cX11_person 0 = .ok (.aload_n 0, 1) := by decide +kernel
theorem dX11_person_1 : decode cX11_person 1 = .ok (.getfield 17, 3) := by decide +kernel
theorem dX11_person_4 : decode cX11_person 4 = .ok (.iload_n 1, 1) := by decide +kernel
theorem dX11_person_5 : decode cX11_person 5 = .ok (.invokevirtual 179, 3) := by decide +kernel
theorem dX11_person_8 : decode cX11_person 8 = .ok (.ifCond .ne 6, 3) := by decide +kernel
theorem dX11_person_11 : decode cX11_person 11 = .ok (.ldc 183, 2) := by decide +kernel
theorem dX11_person_13 : decode cX11_person 13 = .ok (.ireturn, 1) := by decide +kernel
theorem dX11_person_14 : decode cX11_person 14 = .ok (.iload_n 2, 1) := by decide +kernel
theorem dX11_person_15 : decode cX11_person 15 = .ok (.tableswitch 152 0 9 #[53, 63, 73, 83, 93, 103, 113, 123, 133, 142], 53) := by decide +kernel
theorem dX11_person_68 : decode cX11_person 68 = .ok (.aload_n 0, 1) := by decide +kernel
theorem dX11_person_69 : decode cX11_person 69 = .ok (.getfield 17, 3) := by decide +kernel
theorem dX11_person_72 : decode cX11_person 72 = .ok (.getfield 184, 3) := by decide +kernel
theorem dX11_person_75 : decode cX11_person 75 = .ok (.iload_n 1, 1) := by decide +kernel
theorem dX11_person_76 : decode cX11_person 76 = .ok (.iaload, 1) := by decide +kernel
theorem dX11_person_77 : decode cX11_person 77 = .ok (.ireturn, 1) := by decide +kernel
theorem dX11_person_78 : decode cX11_person 78 = .ok (.aload_n 0, 1) := by decide +kernel
theorem dX11_person_79 : decode cX11_person 79 = .ok (.getfield 17, 3) := by decide +kernel
theorem dX11_person_82 : decode cX11_person 82 = .ok (.getfield 187, 3) := by decide +kernel
theorem dX11_person_85 : decode cX11_person 85 = .ok (.iload_n 1, 1) := by decide +kernel
theorem dX11_person_86 : decode cX11_person 86 = .ok (.iaload, 1) := by decide +kernel
theorem dX11_person_87 : decode cX11_person 87 = .ok (.ireturn, 1) := by decide +kernel
theorem dX11_person_88 : decode cX11_person 88 = .ok (.aload_n 0, 1) := by decide +kernel
theorem dX11_person_89 : decode cX11_person 89 = .ok (.getfield 17, 3) := by decide +kernel
theorem dX11_person_92 : decode cX11_person 92 = .ok (.getfield 190, 3) := by decide +kernel
theorem dX11_person_95 : decode cX11_person 95 = .ok (.iload_n 1, 1) := by decide +kernel
theorem dX11_person_96 : decode cX11_person 96 = .ok (.iaload, 1) := by decide +kernel
theorem dX11_person_97 : decode cX11_person 97 = .ok (.ireturn, 1) := by decide +kernel
theorem dX11_person_98 : decode cX11_person 98 = .ok (.aload_n 0, 1) := by decide +kernel
theorem dX11_person_99 : decode cX11_person 99 = .ok (.getfield 17, 3) := by decide +kernel
theorem dX11_person_102 : decode cX11_person 102 = .ok (.getfield 193, 3) := by decide +kernel
theorem dX11_person_105 : decode cX11_person 105 = .ok (.iload_n 1, 1) := by decide +kernel
theorem dX11_person_106 : decode cX11_person 106 = .ok (.iaload, 1) := by decide +kernel
theorem dX11_person_107 : decode cX11_person 107 = .ok (.ireturn, 1) := by decide +kernel
theorem dX11_person_108 : decode cX11_person 108 = .ok (.aload_n 0, 1) := by decide +kernel
theorem dX11_person_109 : decode cX11_person 109 = .ok (.getfield 17, 3) := by decide +kernel
theorem dX11_person_112 : decode cX11_person 112 = .ok (.getfield 196, 3) := by decide +kernel
theorem dX11_person_115 : decode cX11_person 115 = .ok (.iload_n 1, 1) := by decide +kernel
theorem dX11_person_116 : decode cX11_person 116 = .ok (.iaload, 1) := by decide +kernel
theorem dX11_person_117 : decode cX11_person 117 = .ok (.ireturn, 1) := by decide +kernel
theorem dX11_person_118 : decode cX11_person 118 = .ok (.aload_n 0, 1) := by decide +kernel
theorem dX11_person_119 : decode cX11_person 119 = .ok (.getfield 28, 3) := by decide +kernel
theorem dX11_person_122 : decode cX11_person 122 = .ok (.getfield 199, 3) := by decide +kernel
theorem dX11_person_125 : decode cX11_person 125 = .ok (.iload_n 1, 1) := by decide +kernel
theorem dX11_person_126 : decode cX11_person 126 = .ok (.iaload, 1) := by decide +kernel
theorem dX11_person_127 : decode cX11_person 127 = .ok (.ireturn, 1) := by decide +kernel
theorem dX11_person_128 : decode cX11_person 128 = .ok (.aload_n 0, 1) := by decide +kernel
theorem dX11_person_129 : decode cX11_person 129 = .ok (.getfield 28, 3) := by decide +kernel
theorem dX11_person_132 : decode cX11_person 132 = .ok (.getfield 202, 3) := by decide +kernel
theorem dX11_person_135 : decode cX11_person 135 = .ok (.iload_n 1, 1) := by decide +kernel
theorem dX11_person_136 : decode cX11_person 136 = .ok (.iaload, 1) := by decide +kernel
theorem dX11_person_137 : decode cX11_person 137 = .ok (.ireturn, 1) := by decide +kernel
theorem dX11_person_138 : decode cX11_person 138 = .ok (.aload_n 0, 1) := by decide +kernel
theorem dX11_person_139 : decode cX11_person 139 = .ok (.getfield 28, 3) := by decide +kernel
theorem dX11_person_142 : decode cX11_person 142 = .ok (.getfield 205, 3) := by decide +kernel
theorem dX11_person_145 : decode cX11_person 145 = .ok (.iload_n 1, 1) := by decide +kernel
theorem dX11_person_146 : decode cX11_person 146 = .ok (.iaload, 1) := by decide +kernel
theorem dX11_person_147 : decode cX11_person 147 = .ok (.ireturn, 1) := by decide +kernel
theorem dX11_person_148 : decode cX11_person 148 = .ok (.aload_n 0, 1) := by decide +kernel
theorem dX11_person_149 : decode cX11_person 149 = .ok (.getfield 28, 3) := by decide +kernel
theorem dX11_person_152 : decode cX11_person 152 = .ok (.iload_n 1, 1) := by decide +kernel
theorem dX11_person_153 : decode cX11_person 153 = .ok (.invokevirtual 208, 3) := by decide +kernel
theorem dX11_person_156 : decode cX11_person 156 = .ok (.ireturn, 1) := by decide +kernel
theorem dX11_person_157 : decode cX11_person 157 = .ok (.aload_n 0, 1) := by decide +kernel
theorem dX11_person_158 : decode cX11_person 158 = .ok (.getfield 28, 3) := by decide +kernel
theorem dX11_person_161 : decode cX11_person 161 = .ok (.getfield 211, 3) := by decide +kernel
theorem dX11_person_164 : decode cX11_person 164 = .ok (.iload_n 1, 1) := by decide +kernel
theorem dX11_person_165 : decode cX11_person 165 = .ok (.iaload, 1) := by decide +kernel
theorem dX11_person_166 : decode cX11_person 166 = .ok (.ireturn, 1) := by decide +kernel
theorem dX11_person_167 : decode cX11_person 167 = .ok (.ldc 105, 2) := by decide +kernel
theorem dX11_person_169 : decode cX11_person 169 = .ok (.ireturn, 1) := by decide +kernel
theorem dX11_word_0 : decode cX11_word 0 = .ok (.iload_n 1, 1) := by decide +kernel
theorem dX11_word_1 : decode cX11_word 1 = .ok (.invokestatic 214, 3) := by decide +kernel
theorem dX11_word_4 : decode cX11_word 4 = .ok (.ifCond .eq 15, 3) := by decide +kernel
theorem dX11_word_7 : decode cX11_word 7 = .ok (.aload_n 0, 1) := by decide +kernel
theorem dX11_word_8 : decode cX11_word 8 = .ok (.getfield 17, 3) := by decide +kernel
theorem dX11_word_11 : decode cX11_word 11 = .ok (.getfield 217, 3) := by decide +kernel
theorem dX11_word_14 : decode cX11_word 14 = .ok (.iload_n 1, 1) := by decide +kernel
theorem dX11_word_15 : decode cX11_word 15 = .ok (.iaload, 1) := by decide +kernel
theorem dX11_word_16 : decode cX11_word 16 = .ok (.goto 5, 3) := by decide +kernel
theorem dX11_word_19 : decode cX11_word 19 = .ok (.ldc 105, 2) := by decide +kernel
theorem dX11_word_21 : decode cX11_word 21 = .ok (.ireturn, 1) := by decide +kernel
theorem dX11_hour_0 : decode cX11_hour 0 = .ok (.iload_n 1, 1) := by decide +kernel
theorem dX11_hour_1 : decode cX11_hour 1 = .ok (.iconst 1, 1) := by decide +kernel
theorem dX11_hour_2 : decode cX11_hour 2 = .ok (.if_icmp .lt 9, 3) := by decide +kernel
theorem dX11_hour_5 : decode cX11_hour 5 = .ok (.iload_n 1, 1) := by decide +kernel
theorem dX11_hour_6 : decode cX11_hour 6 = .ok (.bipush 99, 2) := by decide +kernel
theorem dX11_hour_8 : decode cX11_hour 8 = .ok (.if_icmp .le 6, 3) := by decide +kernel
theorem dX11_hour_11 : decode cX11_hour 11 = .ok (.ldc 105, 2) := by decide +kernel
theorem dX11_hour_13 : decode cX11_hour 13 = .ok (.ireturn, 1) := by decide +kernel
theorem dX11_hour_14 : decode cX11_hour 14 = .ok (.aload_n 0, 1) := by decide +kernel
theorem dX11_hour_15 : decode cX11_hour 15 = .ok (.getfield 17, 3) := by decide +kernel
theorem dX11_hour_18 : decode cX11_hour 18 = .ok (.invokevirtual 220, 3) := by decide +kernel
theorem dX11_hour_21 : decode cX11_hour 21 = .ok (.ifCond .ne 6, 3) := by decide +kernel
theorem dX11_hour_24 : decode cX11_hour 24 = .ok (.ldc 224, 2) := by decide +kernel
theorem dX11_hour_26 : decode cX11_hour 26 = .ok (.ireturn, 1) := by decide +kernel
theorem dX11_hour_27 : decode cX11_hour 27 = .ok (.iconst 0, 1) := by decide +kernel
theorem dX11_hour_28 : decode cX11_hour 28 = .ok (.istore_n 2, 1) := by decide +kernel
theorem dX11_hour_29 : decode cX11_hour 29 = .ok (.iload_n 2, 1) := by decide +kernel
theorem dX11_hour_30 : decode cX11_hour 30 = .ok (.iload_n 1, 1) := by decide +kernel
theorem dX11_hour_31 : decode cX11_hour 31 = .ok (.if_icmp .ge 13, 3) := by decide +kernel
theorem dX11_hour_34 : decode cX11_hour 34 = .ok (.aload_n 0, 1) := by decide +kernel
theorem dX11_hour_35 : decode cX11_hour 35 = .ok (.invokevirtual 225, 3) := by decide +kernel
theorem dX11_hour_38 : decode cX11_hour 38 = .ok (.iinc 2 1, 3) := by decide +kernel
theorem dX11_hour_41 : decode cX11_hour 41 = .ok (.goto (-12), 3) := by decide +kernel
theorem dX11_hour_44 : decode cX11_hour 44 = .ok (.aload_n 0, 1) := by decide +kernel
theorem dX11_hour_45 : decode cX11_hour 45 = .ok (.getfield 28, 3) := by decide +kernel
theorem dX11_hour_48 : decode cX11_hour 48 = .ok (.getfield 148, 3) := by decide +kernel
theorem dX11_hour_51 : decode cX11_hour 51 = .ok (.ireturn, 1) := by decide +kernel
theorem dX11_offer_0 : decode cX11_offer 0 = .ok (.aload_n 0, 1) := by decide +kernel
theorem dX11_offer_1 : decode cX11_offer 1 = .ok (.getfield 17, 3) := by decide +kernel
theorem dX11_offer_4 : decode cX11_offer 4 = .ok (.iload_n 1, 1) := by decide +kernel
theorem dX11_offer_5 : decode cX11_offer 5 = .ok (.invokevirtual 179, 3) := by decide +kernel
theorem dX11_offer_8 : decode cX11_offer 8 = .ok (.ifCond .ne 6, 3) := by decide +kernel
theorem dX11_offer_11 : decode cX11_offer 11 = .ok (.ldc 183, 2) := by decide +kernel
theorem dX11_offer_13 : decode cX11_offer 13 = .ok (.ireturn, 1) := by decide +kernel
theorem dX11_offer_14 : decode cX11_offer 14 = .ok (.iload_n 2, 1) := by decide +kernel
theorem dX11_offer_15 : decode cX11_offer 15 = .ok (.invokestatic 214, 3) := by decide +kernel
theorem dX11_offer_18 : decode cX11_offer 18 = .ok (.ifCond .ne 6, 3) := by decide +kernel
theorem dX11_offer_21 : decode cX11_offer 21 = .ok (.ldc 105, 2) := by decide +kernel
theorem dX11_offer_23 : decode cX11_offer 23 = .ok (.ireturn, 1) := by decide +kernel
theorem dX11_offer_24 : decode cX11_offer 24 = .ok (.aload_n 0, 1) := by decide +kernel
theorem dX11_offer_25 : decode cX11_offer 25 = .ok (.getfield 28, 3) := by decide +kernel
theorem dX11_offer_28 : decode cX11_offer 28 = .ok (.iload_n 1, 1) := by decide +kernel
theorem dX11_offer_29 : decode cX11_offer 29 = .ok (.invokevirtual 228, 3) := by decide +kernel
theorem dX11_offer_32 : decode cX11_offer 32 = .ok (.ifCond .eq 6, 3) := by decide +kernel
theorem dX11_offer_35 : decode cX11_offer 35 = .ok (.ldc 224, 2) := by decide +kernel
theorem dX11_offer_37 : decode cX11_offer 37 = .ok (.ireturn, 1) := by decide +kernel
theorem dX11_offer_38 : decode cX11_offer 38 = .ok (.aload_n 0, 1) := by decide +kernel
theorem dX11_offer_39 : decode cX11_offer 39 = .ok (.getfield 28, 3) := by decide +kernel
theorem dX11_offer_42 : decode cX11_offer 42 = .ok (.iload_n 1, 1) := by decide +kernel
theorem dX11_offer_43 : decode cX11_offer 43 = .ok (.iload_n 2, 1) := by decide +kernel
theorem dX11_offer_44 : decode cX11_offer 44 = .ok (.invokevirtual 231, 3) := by decide +kernel
theorem dX11_offer_47 : decode cX11_offer 47 = .ok (.ifCond .eq 7, 3) := by decide +kernel
theorem dX11_offer_50 : decode cX11_offer 50 = .ok (.iconst 1, 1) := by decide +kernel
theorem dX11_offer_51 : decode cX11_offer 51 = .ok (.goto 4, 3) := by decide +kernel
theorem dX11_offer_54 : decode cX11_offer 54 = .ok (.iconst 0, 1) := by decide +kernel
theorem dX11_offer_55 : decode cX11_offer 55 = .ok (.ireturn, 1) := by decide +kernel
theorem dX11_take_0 : decode cX11_take 0 = .ok (.aload_n 0, 1) := by decide +kernel
theorem dX11_take_1 : decode cX11_take 1 = .ok (.getfield 17, 3) := by decide +kernel
theorem dX11_take_4 : decode cX11_take 4 = .ok (.iload_n 1, 1) := by decide +kernel
theorem dX11_take_5 : decode cX11_take 5 = .ok (.invokevirtual 179, 3) := by decide +kernel
theorem dX11_take_8 : decode cX11_take 8 = .ok (.ifCond .ne 6, 3) := by decide +kernel
theorem dX11_take_11 : decode cX11_take 11 = .ok (.ldc 183, 2) := by decide +kernel
theorem dX11_take_13 : decode cX11_take 13 = .ok (.ireturn, 1) := by decide +kernel
theorem dX11_take_14 : decode cX11_take 14 = .ok (.aload_n 0, 1) := by decide +kernel
theorem dX11_take_15 : decode cX11_take 15 = .ok (.getfield 28, 3) := by decide +kernel
theorem dX11_take_18 : decode cX11_take 18 = .ok (.iload_n 1, 1) := by decide +kernel
theorem dX11_take_19 : decode cX11_take 19 = .ok (.invokevirtual 228, 3) := by decide +kernel
theorem dX11_take_22 : decode cX11_take 22 = .ok (.ifCond .ne 14, 3) := by decide +kernel
theorem dX11_take_25 : decode cX11_take 25 = .ok (.aload_n 0, 1) := by decide +kernel
theorem dX11_take_26 : decode cX11_take 26 = .ok (.getfield 28, 3) := by decide +kernel
theorem dX11_take_29 : decode cX11_take 29 = .ok (.iload_n 1, 1) := by decide +kernel
theorem dX11_take_30 : decode cX11_take 30 = .ok (.invokevirtual 235, 3) := by decide +kernel
theorem dX11_take_33 : decode cX11_take 33 = .ok (.ifCond .ne 6, 3) := by decide +kernel
theorem dX11_take_36 : decode cX11_take 36 = .ok (.ldc 224, 2) := by decide +kernel
theorem dX11_take_38 : decode cX11_take 38 = .ok (.ireturn, 1) := by decide +kernel
theorem dX11_take_39 : decode cX11_take 39 = .ok (.aload_n 0, 1) := by decide +kernel
theorem dX11_take_40 : decode cX11_take 40 = .ok (.getfield 28, 3) := by decide +kernel
theorem dX11_take_43 : decode cX11_take 43 = .ok (.iload_n 1, 1) := by decide +kernel
theorem dX11_take_44 : decode cX11_take 44 = .ok (.invokevirtual 238, 3) := by decide +kernel
theorem dX11_take_47 : decode cX11_take 47 = .ok (.aload_n 0, 1) := by decide +kernel
theorem dX11_take_48 : decode cX11_take 48 = .ok (.getfield 17, 3) := by decide +kernel
theorem dX11_take_51 : decode cX11_take 51 = .ok (.getfield 196, 3) := by decide +kernel
theorem dX11_take_54 : decode cX11_take 54 = .ok (.iload_n 1, 1) := by decide +kernel
theorem dX11_take_55 : decode cX11_take 55 = .ok (.iaload, 1) := by decide +kernel
theorem dX11_take_56 : decode cX11_take 56 = .ok (.ireturn, 1) := by decide +kernel
theorem dX11_join_0 : decode cX11_join 0 = .ok (.aload_n 0, 1) := by decide +kernel
theorem dX11_join_1 : decode cX11_join 1 = .ok (.getfield 17, 3) := by decide +kernel
theorem dX11_join_4 : decode cX11_join 4 = .ok (.iload_n 1, 1) := by decide +kernel
theorem dX11_join_5 : decode cX11_join 5 = .ok (.invokevirtual 179, 3) := by decide +kernel
theorem dX11_join_8 : decode cX11_join 8 = .ok (.ifCond .ne 6, 3) := by decide +kernel
theorem dX11_join_11 : decode cX11_join 11 = .ok (.ldc 183, 2) := by decide +kernel
theorem dX11_join_13 : decode cX11_join 13 = .ok (.ireturn, 1) := by decide +kernel
theorem dX11_join_14 : decode cX11_join 14 = .ok (.aload_n 0, 1) := by decide +kernel
theorem dX11_join_15 : decode cX11_join 15 = .ok (.getfield 28, 3) := by decide +kernel
theorem dX11_join_18 : decode cX11_join 18 = .ok (.getfield 160, 3) := by decide +kernel
theorem dX11_join_21 : decode cX11_join 21 = .ok (.iconst (-1), 1) := by decide +kernel
theorem dX11_join_22 : decode cX11_join 22 = .ok (.if_icmp .ne 32, 3) := by decide +kernel
theorem dX11_join_25 : decode cX11_join 25 = .ok (.aload_n 0, 1) := by decide +kernel
theorem dX11_join_26 : decode cX11_join 26 = .ok (.getfield 28, 3) := by decide +kernel
theorem dX11_join_29 : decode cX11_join 29 = .ok (.iload_n 1, 1) := by decide +kernel
theorem dX11_join_30 : decode cX11_join 30 = .ok (.invokevirtual 228, 3) := by decide +kernel
theorem dX11_join_33 : decode cX11_join 33 = .ok (.ifCond .ne 21, 3) := by decide +kernel
theorem dX11_join_36 : decode cX11_join 36 = .ok (.aload_n 0, 1) := by decide +kernel
theorem dX11_join_37 : decode cX11_join 37 = .ok (.getfield 17, 3) := by decide +kernel
theorem dX11_join_40 : decode cX11_join 40 = .ok (.aload_n 0, 1) := by decide +kernel
theorem dX11_join_41 : decode cX11_join 41 = .ok (.getfield 28, 3) := by decide +kernel
theorem dX11_join_44 : decode cX11_join 44 = .ok (.getfield 157, 3) := by decide +kernel
theorem dX11_join_47 : decode cX11_join 47 = .ok (.iload_n 1, 1) := by decide +kernel
theorem dX11_join_48 : decode cX11_join 48 = .ok (.invokevirtual 242, 3) := by decide +kernel
theorem dX11_join_51 : decode cX11_join 51 = .ok (.ifCond .ne 6, 3) := by decide +kernel
theorem dX11_join_54 : decode cX11_join 54 = .ok (.ldc 224, 2) := by decide +kernel
theorem dX11_join_56 : decode cX11_join 56 = .ok (.ireturn, 1) := by decide +kernel
theorem dX11_join_57 : decode cX11_join 57 = .ok (.aload_n 0, 1) := by decide +kernel
theorem dX11_join_58 : decode cX11_join 58 = .ok (.getfield 28, 3) := by decide +kernel
theorem dX11_join_61 : decode cX11_join 61 = .ok (.iload_n 1, 1) := by decide +kernel
theorem dX11_join_62 : decode cX11_join 62 = .ok (.putfield 160, 3) := by decide +kernel
theorem dX11_join_65 : decode cX11_join 65 = .ok (.aload_n 0, 1) := by decide +kernel
theorem dX11_join_66 : decode cX11_join 66 = .ok (.getfield 28, 3) := by decide +kernel
theorem dX11_join_69 : decode cX11_join 69 = .ok (.invokevirtual 166, 3) := by decide +kernel
theorem dX11_join_72 : decode cX11_join 72 = .ok (.ireturn, 1) := by decide +kernel
theorem dX11_fruit_0 : decode cX11_fruit 0 = .ok (.iload_n 1, 1) := by decide +kernel
theorem dX11_fruit_1 : decode cX11_fruit 1 = .ok (.ifCond .lt 9, 3) := by decide +kernel
theorem dX11_fruit_4 : decode cX11_fruit 4 = .ok (.iload_n 1, 1) := by decide +kernel
theorem dX11_fruit_5 : decode cX11_fruit 5 = .ok (.bipush 99, 2) := by decide +kernel
theorem dX11_fruit_7 : decode cX11_fruit 7 = .ok (.if_icmp .le 6, 3) := by decide +kernel
theorem dX11_fruit_10 : decode cX11_fruit 10 = .ok (.ldc 105, 2) := by decide +kernel
theorem dX11_fruit_12 : decode cX11_fruit 12 = .ok (.ireturn, 1) := by decide +kernel
theorem dX11_fruit_13 : decode cX11_fruit 13 = .ok (.aload_n 0, 1) := by decide +kernel
theorem dX11_fruit_14 : decode cX11_fruit 14 = .ok (.getfield 28, 3) := by decide +kernel
theorem dX11_fruit_17 : decode cX11_fruit 17 = .ok (.sipush 999, 3) := by decide +kernel
theorem dX11_fruit_20 : decode cX11_fruit 20 = .ok (.aload_n 0, 1) := by decide +kernel
theorem dX11_fruit_21 : decode cX11_fruit 21 = .ok (.getfield 28, 3) := by decide +kernel
theorem dX11_fruit_24 : decode cX11_fruit 24 = .ok (.getfield 154, 3) := by decide +kernel
theorem dX11_fruit_27 : decode cX11_fruit 27 = .ok (.iload_n 1, 1) := by decide +kernel
theorem dX11_fruit_28 : decode cX11_fruit 28 = .ok (.iadd, 1) := by decide +kernel
theorem dX11_fruit_29 : decode cX11_fruit 29 = .ok (.invokestatic 245, 3) := by decide +kernel
theorem dX11_fruit_32 : decode cX11_fruit 32 = .ok (.putfield 154, 3) := by decide +kernel
theorem dX11_fruit_35 : decode cX11_fruit 35 = .ok (.aload_n 0, 1) := by decide +kernel
theorem dX11_fruit_36 : decode cX11_fruit 36 = .ok (.getfield 28, 3) := by decide +kernel
theorem dX11_fruit_39 : decode cX11_fruit 39 = .ok (.getfield 154, 3) := by decide +kernel
theorem dX11_fruit_42 : decode cX11_fruit 42 = .ok (.ireturn, 1) := by decide +kernel
theorem dX11_drift_0 : decode cX11_drift 0 = .ok (.iload_n 1, 1) := by decide +kernel
theorem dX11_drift_1 : decode cX11_drift 1 = .ok (.iconst 1, 1) := by decide +kernel
theorem dX11_drift_2 : decode cX11_drift 2 = .ok (.if_icmp .lt 9, 3) := by decide +kernel
theorem dX11_drift_5 : decode cX11_drift 5 = .ok (.iload_n 1, 1) := by decide +kernel
theorem dX11_drift_6 : decode cX11_drift 6 = .ok (.bipush 99, 2) := by decide +kernel
theorem dX11_drift_8 : decode cX11_drift 8 = .ok (.if_icmp .le 6, 3) := by decide +kernel
theorem dX11_drift_11 : decode cX11_drift 11 = .ok (.ldc 105, 2) := by decide +kernel
theorem dX11_drift_13 : decode cX11_drift 13 = .ok (.ireturn, 1) := by decide +kernel
theorem dX11_drift_14 : decode cX11_drift 14 = .ok (.aload_n 0, 1) := by decide +kernel
theorem dX11_drift_15 : decode cX11_drift 15 = .ok (.getfield 17, 3) := by decide +kernel
theorem dX11_drift_18 : decode cX11_drift 18 = .ok (.invokevirtual 220, 3) := by decide +kernel
theorem dX11_drift_21 : decode cX11_drift 21 = .ok (.ifCond .ne 6, 3) := by decide +kernel
theorem dX11_drift_24 : decode cX11_drift 24 = .ok (.ldc 224, 2) := by decide +kernel
theorem dX11_drift_26 : decode cX11_drift 26 = .ok (.ireturn, 1) := by decide +kernel
theorem dX11_drift_27 : decode cX11_drift 27 = .ok (.aload_n 0, 1) := by decide +kernel
theorem dX11_drift_28 : decode cX11_drift 28 = .ok (.getfield 28, 3) := by decide +kernel
theorem dX11_drift_31 : decode cX11_drift 31 = .ok (.getfield 151, 3) := by decide +kernel
theorem dX11_drift_34 : decode cX11_drift 34 = .ok (.istore_n 2, 1) := by decide +kernel
theorem dX11_drift_35 : decode cX11_drift 35 = .ok (.iconst 0, 1) := by decide +kernel
theorem dX11_drift_36 : decode cX11_drift 36 = .ok (.istore_n 3, 1) := by decide +kernel
theorem dX11_drift_37 : decode cX11_drift 37 = .ok (.iload_n 3, 1) := by decide +kernel
theorem dX11_drift_38 : decode cX11_drift 38 = .ok (.iload_n 1, 1) := by decide +kernel
theorem dX11_drift_39 : decode cX11_drift 39 = .ok (.if_icmp .ge 17, 3) := by decide +kernel
theorem dX11_drift_42 : decode cX11_drift 42 = .ok (.aload_n 0, 1) := by decide +kernel
theorem dX11_drift_43 : decode cX11_drift 43 = .ok (.invokevirtual 251, 3) := by decide +kernel
theorem dX11_drift_46 : decode cX11_drift 46 = .ok (.aload_n 0, 1) := by decide +kernel
theorem dX11_drift_47 : decode cX11_drift 47 = .ok (.invokevirtual 225, 3) := by decide +kernel
theorem dX11_drift_50 : decode cX11_drift 50 = .ok (.iinc 3 1, 3) := by decide +kernel
theorem dX11_drift_53 : decode cX11_drift 53 = .ok (.goto (-16), 3) := by decide +kernel
theorem dX11_drift_56 : decode cX11_drift 56 = .ok (.aload_n 0, 1) := by decide +kernel
theorem dX11_drift_57 : decode cX11_drift 57 = .ok (.getfield 28, 3) := by decide +kernel
theorem dX11_drift_60 : decode cX11_drift 60 = .ok (.getfield 151, 3) := by decide +kernel
theorem dX11_drift_63 : decode cX11_drift 63 = .ok (.iload_n 2, 1) := by decide +kernel
theorem dX11_drift_64 : decode cX11_drift 64 = .ok (.isub, 1) := by decide +kernel
theorem dX11_drift_65 : decode cX11_drift 65 = .ok (.ireturn, 1) := by decide +kernel
theorem dX11_undo_0 : decode cX11_undo 0 = .ok (.iload_n 1, 1) := by decide +kernel
theorem dX11_undo_1 : decode cX11_undo 1 = .ok (.iconst 1, 1) := by decide +kernel
theorem dX11_undo_2 : decode cX11_undo 2 = .ok (.if_icmp .lt 9, 3) := by decide +kernel
theorem dX11_undo_5 : decode cX11_undo 5 = .ok (.iload_n 1, 1) := by decide +kernel
theorem dX11_undo_6 : decode cX11_undo 6 = .ok (.bipush 60, 2) := by decide +kernel
theorem dX11_undo_8 : decode cX11_undo 8 = .ok (.if_icmp .le 6, 3) := by decide +kernel
theorem dX11_undo_11 : decode cX11_undo 11 = .ok (.ldc 105, 2) := by decide +kernel
theorem dX11_undo_13 : decode cX11_undo 13 = .ok (.ireturn, 1) := by decide +kernel
theorem dX11_undo_14 : decode cX11_undo 14 = .ok (.iload_n 1, 1) := by decide +kernel
theorem dX11_undo_15 : decode cX11_undo 15 = .ok (.aload_n 0, 1) := by decide +kernel
theorem dX11_undo_16 : decode cX11_undo 16 = .ok (.getfield 38, 3) := by decide +kernel
theorem dX11_undo_19 : decode cX11_undo 19 = .ok (.getfield 176, 3) := by decide +kernel
theorem dX11_undo_22 : decode cX11_undo 22 = .ok (.if_icmp .le 6, 3) := by decide +kernel
theorem dX11_undo_25 : decode cX11_undo 25 = .ok (.ldc 224, 2) := by decide +kernel
theorem dX11_undo_27 : decode cX11_undo 27 = .ok (.ireturn, 1) := by decide +kernel
theorem dX11_undo_28 : decode cX11_undo 28 = .ok (.aload_n 0, 1) := by decide +kernel
theorem dX11_undo_29 : decode cX11_undo 29 = .ok (.getfield 38, 3) := by decide +kernel
theorem dX11_undo_32 : decode cX11_undo 32 = .ok (.aload_n 0, 1) := by decide +kernel
theorem dX11_undo_33 : decode cX11_undo 33 = .ok (.getfield 28, 3) := by decide +kernel
theorem dX11_undo_36 : decode cX11_undo 36 = .ok (.iload_n 1, 1) := by decide +kernel
theorem dX11_undo_37 : decode cX11_undo 37 = .ok (.invokevirtual 254, 3) := by decide +kernel
theorem dX11_undo_40 : decode cX11_undo 40 = .ok (.aload_n 0, 1) := by decide +kernel
theorem dX11_undo_41 : decode cX11_undo 41 = .ok (.getfield 28, 3) := by decide +kernel
theorem dX11_undo_44 : decode cX11_undo 44 = .ok (.getfield 145, 3) := by decide +kernel
theorem dX11_undo_47 : decode cX11_undo 47 = .ok (.ireturn, 1) := by decide +kernel
theorem dX11_shifts_0 : decode cX11_shifts 0 = .ok (.iload_n 1, 1) := by decide +kernel
theorem dX11_shifts_1 : decode cX11_shifts 1 = .ok (.iload_n 2, 1) := by decide +kernel
theorem dX11_shifts_2 : decode cX11_shifts 2 = .ok (.invokestatic 258, 3) := by decide +kernel
theorem dX11_shifts_5 : decode cX11_shifts 5 = .ok (.ifCond .eq 6, 3) := by decide +kernel
theorem dX11_shifts_8 : decode cX11_shifts 8 = .ok (.ldc 105, 2) := by decide +kernel
theorem dX11_shifts_10 : decode cX11_shifts 10 = .ok (.ireturn, 1) := by decide +kernel
theorem dX11_shifts_11 : decode cX11_shifts 11 = .ok (.aload_n 0, 1) := by decide +kernel
theorem dX11_shifts_12 : decode cX11_shifts 12 = .ok (.getfield 17, 3) := by decide +kernel
theorem dX11_shifts_15 : decode cX11_shifts 15 = .ok (.invokevirtual 220, 3) := by decide +kernel
theorem dX11_shifts_18 : decode cX11_shifts 18 = .ok (.ifCond .ne 6, 3) := by decide +kernel
theorem dX11_shifts_21 : decode cX11_shifts 21 = .ok (.ldc 224, 2) := by decide +kernel
theorem dX11_shifts_23 : decode cX11_shifts 23 = .ok (.ireturn, 1) := by decide +kernel
theorem dX11_shifts_24 : decode cX11_shifts 24 = .ok (.aload_n 0, 1) := by decide +kernel
theorem dX11_shifts_25 : decode cX11_shifts 25 = .ok (.getfield 59, 3) := by decide +kernel
theorem dX11_shifts_28 : decode cX11_shifts 28 = .ok (.aload_n 0, 1) := by decide +kernel
theorem dX11_shifts_29 : decode cX11_shifts 29 = .ok (.getfield 28, 3) := by decide +kernel
theorem dX11_shifts_32 : decode cX11_shifts 32 = .ok (.iload_n 1, 1) := by decide +kernel
theorem dX11_shifts_33 : decode cX11_shifts 33 = .ok (.iload_n 2, 1) := by decide +kernel
theorem dX11_shifts_34 : decode cX11_shifts 34 = .ok (.invokevirtual 261, 3) := by decide +kernel
theorem dX11_shifts_37 : decode cX11_shifts 37 = .ok (.iload_n 3, 1) := by decide +kernel
theorem dX11_shifts_38 : decode cX11_shifts 38 = .ok (.iconst (-1), 1) := by decide +kernel
theorem dX11_shifts_39 : decode cX11_shifts 39 = .ok (.if_icmp .ne 13, 3) := by decide +kernel
theorem dX11_shifts_42 : decode cX11_shifts 42 = .ok (.aload_n 0, 1) := by decide +kernel
theorem dX11_shifts_43 : decode cX11_shifts 43 = .ok (.getfield 59, 3) := by decide +kernel
theorem dX11_shifts_46 : decode cX11_shifts 46 = .ok (.invokevirtual 265, 3) := by decide +kernel
theorem dX11_shifts_49 : decode cX11_shifts 49 = .ok (.goto 11, 3) := by decide +kernel
theorem dX11_shifts_52 : decode cX11_shifts 52 = .ok (.aload_n 0, 1) := by decide +kernel
theorem dX11_shifts_53 : decode cX11_shifts 53 = .ok (.getfield 59, 3) := by decide +kernel
theorem dX11_shifts_56 : decode cX11_shifts 56 = .ok (.iload_n 3, 1) := by decide +kernel
theorem dX11_shifts_57 : decode cX11_shifts 57 = .ok (.invokevirtual 268, 3) := by decide +kernel
theorem dX11_shifts_60 : decode cX11_shifts 60 = .ok (.ireturn, 1) := by decide +kernel
theorem dX11_sinks_0 : decode cX11_sinks 0 = .ok (.iload_n 1, 1) := by decide +kernel
theorem dX11_sinks_1 : decode cX11_sinks 1 = .ok (.iload_n 2, 1) := by decide +kernel
theorem dX11_sinks_2 : decode cX11_sinks 2 = .ok (.invokestatic 258, 3) := by decide +kernel
theorem dX11_sinks_5 : decode cX11_sinks 5 = .ok (.ifCond .eq 6, 3) := by decide +kernel
theorem dX11_sinks_8 : decode cX11_sinks 8 = .ok (.ldc 105, 2) := by decide +kernel
theorem dX11_sinks_10 : decode cX11_sinks 10 = .ok (.ireturn, 1) := by decide +kernel
theorem dX11_sinks_11 : decode cX11_sinks 11 = .ok (.aload_n 0, 1) := by decide +kernel
theorem dX11_sinks_12 : decode cX11_sinks 12 = .ok (.getfield 17, 3) := by decide +kernel
theorem dX11_sinks_15 : decode cX11_sinks 15 = .ok (.invokevirtual 220, 3) := by decide +kernel
theorem dX11_sinks_18 : decode cX11_sinks 18 = .ok (.ifCond .ne 6, 3) := by decide +kernel
theorem dX11_sinks_21 : decode cX11_sinks 21 = .ok (.ldc 224, 2) := by decide +kernel
theorem dX11_sinks_23 : decode cX11_sinks 23 = .ok (.ireturn, 1) := by decide +kernel
theorem dX11_sinks_24 : decode cX11_sinks 24 = .ok (.aload_n 0, 1) := by decide +kernel
theorem dX11_sinks_25 : decode cX11_sinks 25 = .ok (.getfield 59, 3) := by decide +kernel
theorem dX11_sinks_28 : decode cX11_sinks 28 = .ok (.aload_n 0, 1) := by decide +kernel
theorem dX11_sinks_29 : decode cX11_sinks 29 = .ok (.getfield 28, 3) := by decide +kernel
theorem dX11_sinks_32 : decode cX11_sinks 32 = .ok (.iload_n 1, 1) := by decide +kernel
theorem dX11_sinks_33 : decode cX11_sinks 33 = .ok (.iload_n 2, 1) := by decide +kernel
theorem dX11_sinks_34 : decode cX11_sinks 34 = .ok (.invokevirtual 261, 3) := by decide +kernel
theorem dX11_sinks_37 : decode cX11_sinks 37 = .ok (.aload_n 0, 1) := by decide +kernel
theorem dX11_sinks_38 : decode cX11_sinks 38 = .ok (.getfield 59, 3) := by decide +kernel
theorem dX11_sinks_41 : decode cX11_sinks 41 = .ok (.invokevirtual 271, 3) := by decide +kernel
theorem dX11_sinks_44 : decode cX11_sinks 44 = .ok (.ireturn, 1) := by decide +kernel
theorem dX11_chain_0 : decode cX11_chain 0 = .ok (.aload_n 0, 1) := by decide +kernel
theorem dX11_chain_1 : decode cX11_chain 1 = .ok (.getfield 17, 3) := by decide +kernel
theorem dX11_chain_4 : decode cX11_chain 4 = .ok (.iload_n 1, 1) := by decide +kernel
theorem dX11_chain_5 : decode cX11_chain 5 = .ok (.invokevirtual 179, 3) := by decide +kernel
theorem dX11_chain_8 : decode cX11_chain 8 = .ok (.ifCond .ne 6, 3) := by decide +kernel
theorem dX11_chain_11 : decode cX11_chain 11 = .ok (.ldc 183, 2) := by decide +kernel
theorem dX11_chain_13 : decode cX11_chain 13 = .ok (.ireturn, 1) := by decide +kernel
theorem dX11_chain_14 : decode cX11_chain 14 = .ok (.aload_n 0, 1) := by decide +kernel
theorem dX11_chain_15 : decode cX11_chain 15 = .ok (.getfield 73, 3) := by decide +kernel
theorem dX11_chain_18 : decode cX11_chain 18 = .ok (.aload_n 0, 1) := by decide +kernel
theorem dX11_chain_19 : decode cX11_chain 19 = .ok (.getfield 28, 3) := by decide +kernel
theorem dX11_chain_22 : decode cX11_chain 22 = .ok (.iload_n 1, 1) := by decide +kernel
theorem dX11_chain_23 : decode cX11_chain 23 = .ok (.invokevirtual 274, 3) := by decide +kernel
theorem dX11_chain_26 : decode cX11_chain 26 = .ok (.iload_n 2, 1) := by decide +kernel
theorem dX11_chain_27 : decode cX11_chain 27 = .ok (.iconst (-1), 1) := by decide +kernel
theorem dX11_chain_28 : decode cX11_chain 28 = .ok (.if_icmp .ne 13, 3) := by decide +kernel
theorem dX11_chain_31 : decode cX11_chain 31 = .ok (.aload_n 0, 1) := by decide +kernel
theorem dX11_chain_32 : decode cX11_chain 32 = .ok (.getfield 73, 3) := by decide +kernel
theorem dX11_chain_35 : decode cX11_chain 35 = .ok (.getfield 276, 3) := by decide +kernel
theorem dX11_chain_38 : decode cX11_chain 38 = .ok (.goto 11, 3) := by decide +kernel
theorem dX11_chain_41 : decode cX11_chain 41 = .ok (.aload_n 0, 1) := by decide +kernel
theorem dX11_chain_42 : decode cX11_chain 42 = .ok (.getfield 73, 3) := by decide +kernel
theorem dX11_chain_45 : decode cX11_chain 45 = .ok (.iload_n 2, 1) := by decide +kernel
theorem dX11_chain_46 : decode cX11_chain 46 = .ok (.invokevirtual 277, 3) := by decide +kernel
theorem dX11_chain_49 : decode cX11_chain 49 = .ok (.ireturn, 1) := by decide +kernel
theorem dX11_pair_0 : decode cX11_pair 0 = .ok (.iload_n 1, 1) := by decide +kernel
theorem dX11_pair_1 : decode cX11_pair 1 = .ok (.ifCond .lt 8, 3) := by decide +kernel
theorem dX11_pair_4 : decode cX11_pair 4 = .ok (.iload_n 1, 1) := by decide +kernel
theorem dX11_pair_5 : decode cX11_pair 5 = .ok (.iconst 2, 1) := by decide +kernel
theorem dX11_pair_6 : decode cX11_pair 6 = .ok (.if_icmp .le 6, 3) := by decide +kernel
theorem dX11_pair_9 : decode cX11_pair 9 = .ok (.ldc 105, 2) := by decide +kernel
theorem dX11_pair_11 : decode cX11_pair 11 = .ok (.ireturn, 1) := by decide +kernel
theorem dX11_pair_12 : decode cX11_pair 12 = .ok (.iconst (-1), 1) := by decide +kernel
theorem dX11_pair_13 : decode cX11_pair 13 = .ok (.istore_n 2, 1) := by decide +kernel
theorem dX11_pair_14 : decode cX11_pair 14 = .ok (.iconst (-1), 1) := by decide +kernel
theorem dX11_pair_15 : decode cX11_pair 15 = .ok (.istore_n 3, 1) := by decide +kernel
theorem dX11_pair_16 : decode cX11_pair 16 = .ok (.iconst (-1), 1) := by decide +kernel
theorem dX11_pair_17 : decode cX11_pair 17 = .ok (.istore 4, 2) := by decide +kernel
theorem dX11_pair_19 : decode cX11_pair 19 = .ok (.iconst 0, 1) := by decide +kernel
theorem dX11_pair_20 : decode cX11_pair 20 = .ok (.istore 5, 2) := by decide +kernel
theorem dX11_pair_22 : decode cX11_pair 22 = .ok (.iload 5, 2) := by decide +kernel
theorem dX11_pair_24 : decode cX11_pair 24 = .ok (.aload_n 0, 1) := by decide +kernel
theorem dX11_pair_25 : decode cX11_pair 25 = .ok (.getfield 17, 3) := by decide +kernel
theorem dX11_pair_28 : decode cX11_pair 28 = .ok (.getfield 139, 3) := by decide +kernel
theorem dX11_pair_31 : decode cX11_pair 31 = .ok (.if_icmp .ge 88, 3) := by decide +kernel
theorem dX11_pair_34 : decode cX11_pair 34 = .ok (.iload 5, 2) := by decide +kernel
theorem dX11_pair_36 : decode cX11_pair 36 = .ok (.iconst 1, 1) := by decide +kernel
theorem dX11_pair_37 : decode cX11_pair 37 = .ok (.iadd, 1) := by decide +kernel
theorem dX11_pair_38 : decode cX11_pair 38 = .ok (.istore 6, 2) := by decide +kernel
theorem dX11_pair_40 : decode cX11_pair 40 = .ok (.iload 6, 2) := by decide +kernel
theorem dX11_pair_42 : decode cX11_pair 42 = .ok (.aload_n 0, 1) := by decide +kernel
theorem dX11_pair_43 : decode cX11_pair 43 = .ok (.getfield 17, 3) := by decide +kernel
theorem dX11_pair_46 : decode cX11_pair 46 = .ok (.getfield 139, 3) := by decide +kernel
theorem dX11_pair_49 : decode cX11_pair 49 = .ok (.if_icmp .ge 64, 3) := by decide +kernel
theorem dX11_pair_52 : decode cX11_pair 52 = .ok (.aload_n 0, 1) := by decide +kernel
theorem dX11_pair_53 : decode cX11_pair 53 = .ok (.getfield 28, 3) := by decide +kernel
theorem dX11_pair_56 : decode cX11_pair 56 = .ok (.iload 5, 2) := by decide +kernel
theorem dX11_pair_58 : decode cX11_pair 58 = .ok (.invokevirtual 208, 3) := by decide +kernel
theorem dX11_pair_61 : decode cX11_pair 61 = .ok (.aload_n 0, 1) := by decide +kernel
theorem dX11_pair_62 : decode cX11_pair 62 = .ok (.getfield 28, 3) := by decide +kernel
theorem dX11_pair_65 : decode cX11_pair 65 = .ok (.iload 6, 2) := by decide +kernel
theorem dX11_pair_67 : decode cX11_pair 67 = .ok (.invokevirtual 208, 3) := by decide +kernel
theorem dX11_pair_70 : decode cX11_pair 70 = .ok (.iadd, 1) := by decide +kernel
theorem dX11_pair_71 : decode cX11_pair 71 = .ok (.istore 7, 2) := by decide +kernel
theorem dX11_pair_73 : decode cX11_pair 73 = .ok (.aload_n 0, 1) := by decide +kernel
theorem dX11_pair_74 : decode cX11_pair 74 = .ok (.getfield 17, 3) := by decide +kernel
theorem dX11_pair_77 : decode cX11_pair 77 = .ok (.iload 5, 2) := by decide +kernel
theorem dX11_pair_79 : decode cX11_pair 79 = .ok (.iload 6, 2) := by decide +kernel
theorem dX11_pair_81 : decode cX11_pair 81 = .ok (.invokevirtual 242, 3) := by decide +kernel
theorem dX11_pair_84 : decode cX11_pair 84 = .ok (.ifCond .eq 23, 3) := by decide +kernel
theorem dX11_pair_87 : decode cX11_pair 87 = .ok (.iload 7, 2) := by decide +kernel
theorem dX11_pair_89 : decode cX11_pair 89 = .ok (.iload 4, 2) := by decide +kernel
theorem dX11_pair_91 : decode cX11_pair 91 = .ok (.if_icmp .gt 6, 3) := by decide +kernel
theorem dX11_pair_94 : decode cX11_pair 94 = .ok (.goto 13, 3) := by decide +kernel
theorem dX11_pair_97 : decode cX11_pair 97 = .ok (.iload 5, 2) := by decide +kernel
theorem dX11_pair_99 : decode cX11_pair 99 = .ok (.istore_n 2, 1) := by decide +kernel
theorem dX11_pair_100 : decode cX11_pair 100 = .ok (.iload 6, 2) := by decide +kernel
theorem dX11_pair_102 : decode cX11_pair 102 = .ok (.istore_n 3, 1) := by decide +kernel
theorem dX11_pair_103 : decode cX11_pair 103 = .ok (.iload 7, 2) := by decide +kernel
theorem dX11_pair_105 : decode cX11_pair 105 = .ok (.istore 4, 2) := by decide +kernel
theorem dX11_pair_107 : decode cX11_pair 107 = .ok (.iinc 6 1, 3) := by decide +kernel
theorem dX11_pair_110 : decode cX11_pair 110 = .ok (.goto (-70), 3) := by decide +kernel
theorem dX11_pair_113 : decode cX11_pair 113 = .ok (.iinc 5 1, 3) := by decide +kernel
theorem dX11_pair_116 : decode cX11_pair 116 = .ok (.goto (-94), 3) := by decide +kernel
theorem dX11_pair_119 : decode cX11_pair 119 = .ok (.iload_n 1, 1) := by decide +kernel
theorem dX11_pair_120 : decode cX11_pair 120 = .ok (.ifCond .ne 5, 3) := by decide +kernel
theorem dX11_pair_123 : decode cX11_pair 123 = .ok (.iload_n 2, 1) := by decide +kernel
theorem dX11_pair_124 : decode cX11_pair 124 = .ok (.ireturn, 1) := by decide +kernel
theorem dX11_pair_125 : decode cX11_pair 125 = .ok (.iload_n 1, 1) := by decide +kernel
theorem dX11_pair_126 : decode cX11_pair 126 = .ok (.iconst 1, 1) := by decide +kernel
theorem dX11_pair_127 : decode cX11_pair 127 = .ok (.if_icmp .ne 7, 3) := by decide +kernel
theorem dX11_pair_130 : decode cX11_pair 130 = .ok (.iload_n 3, 1) := by decide +kernel
theorem dX11_pair_131 : decode cX11_pair 131 = .ok (.goto 5, 3) := by decide +kernel
theorem dX11_pair_134 : decode cX11_pair 134 = .ok (.iload 4, 2) := by decide +kernel
theorem dX11_pair_136 : decode cX11_pair 136 = .ok (.ireturn, 1) := by decide +kernel
theorem dX11_owes_0 : decode cX11_owes 0 = .ok (.aload_n 0, 1) := by decide +kernel
theorem dX11_owes_1 : decode cX11_owes 1 = .ok (.getfield 17, 3) := by decide +kernel
theorem dX11_owes_4 : decode cX11_owes 4 = .ok (.iload_n 1, 1) := by decide +kernel
theorem dX11_owes_5 : decode cX11_owes 5 = .ok (.invokevirtual 179, 3) := by decide +kernel
theorem dX11_owes_8 : decode cX11_owes 8 = .ok (.ifCond .eq 18, 3) := by decide +kernel
theorem dX11_owes_11 : decode cX11_owes 11 = .ok (.aload_n 0, 1) := by decide +kernel
theorem dX11_owes_12 : decode cX11_owes 12 = .ok (.getfield 87, 3) := by decide +kernel
theorem dX11_owes_15 : decode cX11_owes 15 = .ok (.aload_n 0, 1) := by decide +kernel
theorem dX11_owes_16 : decode cX11_owes 16 = .ok (.getfield 28, 3) := by decide +kernel
theorem dX11_owes_19 : decode cX11_owes 19 = .ok (.iload_n 1, 1) := by decide +kernel
theorem dX11_owes_20 : decode cX11_owes 20 = .ok (.invokevirtual 278, 3) := by decide +kernel
theorem dX11_owes_23 : decode cX11_owes 23 = .ok (.goto 5, 3) := by decide +kernel
theorem dX11_owes_26 : decode cX11_owes 26 = .ok (.ldc 183, 2) := by decide +kernel
theorem dX11_owes_28 : decode cX11_owes 28 = .ok (.ireturn, 1) := by decide +kernel
theorem dX11_payments_0 : decode cX11_payments 0 = .ok (.aload_n 0, 1) := by decide +kernel
theorem dX11_payments_1 : decode cX11_payments 1 = .ok (.getfield 87, 3) := by decide +kernel
theorem dX11_payments_4 : decode cX11_payments 4 = .ok (.aload_n 0, 1) := by decide +kernel
theorem dX11_payments_5 : decode cX11_payments 5 = .ok (.getfield 28, 3) := by decide +kernel
theorem dX11_payments_8 : decode cX11_payments 8 = .ok (.invokevirtual 282, 3) := by decide +kernel
theorem dX11_payments_11 : decode cX11_payments 11 = .ok (.ireturn, 1) := by decide +kernel
theorem dX11_sons_0 : decode cX11_sons 0 = .ok (.aload_n 0, 1) := by decide +kernel
theorem dX11_sons_1 : decode cX11_sons 1 = .ok (.getfield 17, 3) := by decide +kernel
theorem dX11_sons_4 : decode cX11_sons 4 = .ok (.iload_n 1, 1) := by decide +kernel
theorem dX11_sons_5 : decode cX11_sons 5 = .ok (.invokevirtual 179, 3) := by decide +kernel
theorem dX11_sons_8 : decode cX11_sons 8 = .ok (.ifCond .eq 18, 3) := by decide +kernel
theorem dX11_sons_11 : decode cX11_sons 11 = .ok (.aload_n 0, 1) := by decide +kernel
theorem dX11_sons_12 : decode cX11_sons 12 = .ok (.getfield 87, 3) := by decide +kernel
theorem dX11_sons_15 : decode cX11_sons 15 = .ok (.aload_n 0, 1) := by decide +kernel
theorem dX11_sons_16 : decode cX11_sons 16 = .ok (.getfield 28, 3) := by decide +kernel
theorem dX11_sons_19 : decode cX11_sons 19 = .ok (.iload_n 1, 1) := by decide +kernel
theorem dX11_sons_20 : decode cX11_sons 20 = .ok (.invokevirtual 286, 3) := by decide +kernel
theorem dX11_sons_23 : decode cX11_sons 23 = .ok (.goto 5, 3) := by decide +kernel
theorem dX11_sons_26 : decode cX11_sons 26 = .ok (.ldc 183, 2) := by decide +kernel
theorem dX11_sons_28 : decode cX11_sons 28 = .ok (.ireturn, 1) := by decide +kernel
theorem dX11_words_0 : decode cX11_words 0 = .ok (.iload_n 1, 1) := by decide +kernel
theorem dX11_words_1 : decode cX11_words 1 = .ok (.invokestatic 289, 3) := by decide +kernel
theorem dX11_words_4 : decode cX11_words 4 = .ok (.ifCond .ne 25, 3) := by decide +kernel
theorem dX11_words_7 : decode cX11_words 7 = .ok (.iload_n 2, 1) := by decide +kernel
theorem dX11_words_8 : decode cX11_words 8 = .ok (.invokestatic 289, 3) := by decide +kernel
theorem dX11_words_11 : decode cX11_words 11 = .ok (.ifCond .ne 18, 3) := by decide +kernel
theorem dX11_words_14 : decode cX11_words 14 = .ok (.iload_n 3, 1) := by decide +kernel
theorem dX11_words_15 : decode cX11_words 15 = .ok (.invokestatic 289, 3) := by decide +kernel
theorem dX11_words_18 : decode cX11_words 18 = .ok (.ifCond .ne 11, 3) := by decide +kernel
theorem dX11_words_21 : decode cX11_words 21 = .ok (.iload 4, 2) := by decide +kernel
theorem dX11_words_23 : decode cX11_words 23 = .ok (.invokestatic 289, 3) := by decide +kernel
theorem dX11_words_26 : decode cX11_words 26 = .ok (.ifCond .eq 6, 3) := by decide +kernel
theorem dX11_words_29 : decode cX11_words 29 = .ok (.ldc 105, 2) := by decide +kernel
theorem dX11_words_31 : decode cX11_words 31 = .ok (.ireturn, 1) := by decide +kernel
theorem dX11_words_32 : decode cX11_words 32 = .ok (.iload 5, 2) := by decide +kernel
theorem dX11_words_34 : decode cX11_words 34 = .ok (.ifCond .lt 9, 3) := by decide +kernel
theorem dX11_words_37 : decode cX11_words 37 = .ok (.iload 5, 2) := by decide +kernel
theorem dX11_words_39 : decode cX11_words 39 = .ok (.iconst 3, 1) := by decide +kernel
theorem dX11_words_40 : decode cX11_words 40 = .ok (.if_icmp .le 6, 3) := by decide +kernel
theorem dX11_words_43 : decode cX11_words 43 = .ok (.ldc 105, 2) := by decide +kernel
theorem dX11_words_45 : decode cX11_words 45 = .ok (.ireturn, 1) := by decide +kernel
theorem dX11_words_46 : decode cX11_words 46 = .ok (.aload_n 0, 1) := by decide +kernel
theorem dX11_words_47 : decode cX11_words 47 = .ok (.getfield 94, 3) := by decide +kernel
theorem dX11_words_50 : decode cX11_words 50 = .ok (.iload_n 1, 1) := by decide +kernel
theorem dX11_words_51 : decode cX11_words 51 = .ok (.iload_n 2, 1) := by decide +kernel
theorem dX11_words_52 : decode cX11_words 52 = .ok (.iload_n 3, 1) := by decide +kernel
theorem dX11_words_53 : decode cX11_words 53 = .ok (.iload 4, 2) := by decide +kernel
theorem dX11_words_55 : decode cX11_words 55 = .ok (.invokevirtual 292, 3) := by decide +kernel
theorem dX11_words_58 : decode cX11_words 58 = .ok (.iload 5, 2) := by decide +kernel
theorem dX11_words_60 : decode cX11_words 60 = .ok (.tableswitch 52 0 2 #[28, 36, 44], 28) := by decide +kernel
theorem dX11_words_88 : decode cX11_words 88 = .ok (.aload_n 0, 1) := by decide +kernel
theorem dX11_words_89 : decode cX11_words 89 = .ok (.getfield 94, 3) := by decide +kernel
theorem dX11_words_92 : decode cX11_words 92 = .ok (.getfield 296, 3) := by decide +kernel
theorem dX11_words_95 : decode cX11_words 95 = .ok (.ireturn, 1) := by decide +kernel
theorem dX11_words_96 : decode cX11_words 96 = .ok (.aload_n 0, 1) := by decide +kernel
theorem dX11_words_97 : decode cX11_words 97 = .ok (.getfield 94, 3) := by decide +kernel
theorem dX11_words_100 : decode cX11_words 100 = .ok (.getfield 299, 3) := by decide +kernel
theorem dX11_words_103 : decode cX11_words 103 = .ok (.ireturn, 1) := by decide +kernel
theorem dX11_words_104 : decode cX11_words 104 = .ok (.aload_n 0, 1) := by decide +kernel
theorem dX11_words_105 : decode cX11_words 105 = .ok (.getfield 94, 3) := by decide +kernel
theorem dX11_words_108 : decode cX11_words 108 = .ok (.getfield 302, 3) := by decide +kernel
theorem dX11_words_111 : decode cX11_words 111 = .ok (.ireturn, 1) := by decide +kernel
theorem dX11_words_112 : decode cX11_words 112 = .ok (.aload_n 0, 1) := by decide +kernel
theorem dX11_words_113 : decode cX11_words 113 = .ok (.getfield 94, 3) := by decide +kernel
theorem dX11_words_116 : decode cX11_words 116 = .ok (.getfield 305, 3) := by decide +kernel
theorem dX11_words_119 : decode cX11_words 119 = .ok (.ireturn, 1) := by decide +kernel
theorem dX11_pillar_0 : decode cX11_pillar 0 = .ok (.iload_n 1, 1) := by decide +kernel
theorem dX11_pillar_1 : decode cX11_pillar 1 = .ok (.iconst 1, 1) := by decide +kernel
theorem dX11_pillar_2 : decode cX11_pillar 2 = .ok (.if_icmp .lt 20, 3) := by decide +kernel
theorem dX11_pillar_5 : decode cX11_pillar 5 = .ok (.iload_n 1, 1) := by decide +kernel
theorem dX11_pillar_6 : decode cX11_pillar 6 = .ok (.bipush 30, 2) := by decide +kernel
theorem dX11_pillar_8 : decode cX11_pillar 8 = .ok (.if_icmp .gt 14, 3) := by decide +kernel
theorem dX11_pillar_11 : decode cX11_pillar 11 = .ok (.iload_n 2, 1) := by decide +kernel
theorem dX11_pillar_12 : decode cX11_pillar 12 = .ok (.iconst 1, 1) := by decide +kernel
theorem dX11_pillar_13 : decode cX11_pillar 13 = .ok (.if_icmp .lt 9, 3) := by decide +kernel
theorem dX11_pillar_16 : decode cX11_pillar 16 = .ok (.iload_n 2, 1) := by decide +kernel
theorem dX11_pillar_17 : decode cX11_pillar 17 = .ok (.bipush 40, 2) := by decide +kernel
theorem dX11_pillar_19 : decode cX11_pillar 19 = .ok (.if_icmp .le 6, 3) := by decide +kernel
theorem dX11_pillar_22 : decode cX11_pillar 22 = .ok (.ldc 105, 2) := by decide +kernel
theorem dX11_pillar_24 : decode cX11_pillar 24 = .ok (.ireturn, 1) := by decide +kernel
theorem dX11_pillar_25 : decode cX11_pillar 25 = .ok (.aload_n 0, 1) := by decide +kernel
theorem dX11_pillar_26 : decode cX11_pillar 26 = .ok (.getfield 17, 3) := by decide +kernel
theorem dX11_pillar_29 : decode cX11_pillar 29 = .ok (.invokevirtual 220, 3) := by decide +kernel
theorem dX11_pillar_32 : decode cX11_pillar 32 = .ok (.ifCond .ne 6, 3) := by decide +kernel
theorem dX11_pillar_35 : decode cX11_pillar 35 = .ok (.ldc 224, 2) := by decide +kernel
theorem dX11_pillar_37 : decode cX11_pillar 37 = .ok (.ireturn, 1) := by decide +kernel
theorem dX11_pillar_38 : decode cX11_pillar 38 = .ok (.aload_n 0, 1) := by decide +kernel
theorem dX11_pillar_39 : decode cX11_pillar 39 = .ok (.iload_n 2, 1) := by decide +kernel
theorem dX11_pillar_40 : decode cX11_pillar 40 = .ok (.iconst 0, 1) := by decide +kernel
theorem dX11_pillar_41 : decode cX11_pillar 41 = .ok (.invokevirtual 308, 3) := by decide +kernel
theorem dX11_pillar_44 : decode cX11_pillar 44 = .ok (.aload_n 0, 1) := by decide +kernel
theorem dX11_pillar_45 : decode cX11_pillar 45 = .ok (.iload_n 2, 1) := by decide +kernel
theorem dX11_pillar_46 : decode cX11_pillar 46 = .ok (.iload_n 1, 1) := by decide +kernel
theorem dX11_pillar_47 : decode cX11_pillar 47 = .ok (.invokevirtual 308, 3) := by decide +kernel
theorem dX11_pillar_50 : decode cX11_pillar 50 = .ok (.isub, 1) := by decide +kernel
theorem dX11_pillar_51 : decode cX11_pillar 51 = .ok (.ireturn, 1) := by decide +kernel
theorem dX11_see_0 : decode cX11_see 0 = .ok (.iload_n 1, 1) := by decide +kernel
theorem dX11_see_1 : decode cX11_see 1 = .ok (.ifCond .lt 9, 3) := by decide +kernel
theorem dX11_see_4 : decode cX11_see 4 = .ok (.iload_n 1, 1) := by decide +kernel
theorem dX11_see_5 : decode cX11_see 5 = .ok (.bipush 99, 2) := by decide +kernel
theorem dX11_see_7 : decode cX11_see 7 = .ok (.if_icmp .le 6, 3) := by decide +kernel
theorem dX11_see_10 : decode cX11_see 10 = .ok (.ldc 105, 2) := by decide +kernel
theorem dX11_see_12 : decode cX11_see 12 = .ok (.ireturn, 1) := by decide +kernel
theorem dX11_see_13 : decode cX11_see 13 = .ok (.aload_n 0, 1) := by decide +kernel
theorem dX11_see_14 : decode cX11_see 14 = .ok (.getfield 66, 3) := by decide +kernel
theorem dX11_see_17 : decode cX11_see 17 = .ok (.getfield 170, 3) := by decide +kernel
theorem dX11_see_20 : decode cX11_see 20 = .ok (.iconst 5, 1) := by decide +kernel
theorem dX11_see_21 : decode cX11_see 21 = .ok (.if_icmp .lt 6, 3) := by decide +kernel
theorem dX11_see_24 : decode cX11_see 24 = .ok (.ldc 109, 2) := by decide +kernel
theorem dX11_see_26 : decode cX11_see 26 = .ok (.ireturn, 1) := by decide +kernel
theorem dX11_see_27 : decode cX11_see 27 = .ok (.aload_n 0, 1) := by decide +kernel
theorem dX11_see_28 : decode cX11_see 28 = .ok (.getfield 66, 3) := by decide +kernel
theorem dX11_see_31 : decode cX11_see 31 = .ok (.iload_n 1, 1) := by decide +kernel
theorem dX11_see_32 : decode cX11_see 32 = .ok (.invokevirtual 311, 3) := by decide +kernel
theorem dX11_see_35 : decode cX11_see 35 = .ok (.ireturn, 1) := by decide +kernel
theorem dX11_who_0 : decode cX11_who 0 = .ok (.aload_n 0, 1) := by decide +kernel
theorem dX11_who_1 : decode cX11_who 1 = .ok (.getfield 17, 3) := by decide +kernel
theorem dX11_who_4 : decode cX11_who 4 = .ok (.invokevirtual 220, 3) := by decide +kernel
theorem dX11_who_7 : decode cX11_who 7 = .ok (.ifCond .ne 6, 3) := by decide +kernel
theorem dX11_who_10 : decode cX11_who 10 = .ok (.ldc 224, 2) := by decide +kernel
theorem dX11_who_12 : decode cX11_who 12 = .ok (.ireturn, 1) := by decide +kernel
theorem dX11_who_13 : decode cX11_who 13 = .ok (.aload_n 0, 1) := by decide +kernel
theorem dX11_who_14 : decode cX11_who 14 = .ok (.getfield 66, 3) := by decide +kernel
theorem dX11_who_17 : decode cX11_who 17 = .ok (.aload_n 0, 1) := by decide +kernel
theorem dX11_who_18 : decode cX11_who 18 = .ok (.getfield 28, 3) := by decide +kernel
theorem dX11_who_21 : decode cX11_who 21 = .ok (.invokevirtual 312, 3) := by decide +kernel
theorem dX11_who_24 : decode cX11_who 24 = .ok (.iload_n 1, 1) := by decide +kernel
theorem dX11_who_25 : decode cX11_who 25 = .ok (.iconst (-1), 1) := by decide +kernel
theorem dX11_who_26 : decode cX11_who 26 = .ok (.if_icmp .ne 13, 3) := by decide +kernel
theorem dX11_who_29 : decode cX11_who 29 = .ok (.aload_n 0, 1) := by decide +kernel
theorem dX11_who_30 : decode cX11_who 30 = .ok (.getfield 66, 3) := by decide +kernel
theorem dX11_who_33 : decode cX11_who 33 = .ok (.getfield 315, 3) := by decide +kernel
theorem dX11_who_36 : decode cX11_who 36 = .ok (.goto 11, 3) := by decide +kernel
theorem dX11_who_39 : decode cX11_who 39 = .ok (.aload_n 0, 1) := by decide +kernel
theorem dX11_who_40 : decode cX11_who 40 = .ok (.getfield 66, 3) := by decide +kernel
theorem dX11_who_43 : decode cX11_who 43 = .ok (.iload_n 1, 1) := by decide +kernel
theorem dX11_who_44 : decode cX11_who 44 = .ok (.invokevirtual 316, 3) := by decide +kernel
theorem dX11_who_47 : decode cX11_who 47 = .ok (.ireturn, 1) := by decide +kernel
theorem dX11_sure_0 : decode cX11_sure 0 = .ok (.aload_n 0, 1) := by decide +kernel
theorem dX11_sure_1 : decode cX11_sure 1 = .ok (.getfield 17, 3) := by decide +kernel
theorem dX11_sure_4 : decode cX11_sure 4 = .ok (.invokevirtual 220, 3) := by decide +kernel
theorem dX11_sure_7 : decode cX11_sure 7 = .ok (.ifCond .ne 6, 3) := by decide +kernel
theorem dX11_sure_10 : decode cX11_sure 10 = .ok (.ldc 224, 2) := by decide +kernel
theorem dX11_sure_12 : decode cX11_sure 12 = .ok (.ireturn, 1) := by decide +kernel
theorem dX11_sure_13 : decode cX11_sure 13 = .ok (.aload_n 0, 1) := by decide +kernel
theorem dX11_sure_14 : decode cX11_sure 14 = .ok (.getfield 66, 3) := by decide +kernel
theorem dX11_sure_17 : decode cX11_sure 17 = .ok (.aload_n 0, 1) := by decide +kernel
theorem dX11_sure_18 : decode cX11_sure 18 = .ok (.getfield 28, 3) := by decide +kernel
theorem dX11_sure_21 : decode cX11_sure 21 = .ok (.invokevirtual 312, 3) := by decide +kernel
theorem dX11_sure_24 : decode cX11_sure 24 = .ok (.aload_n 0, 1) := by decide +kernel
theorem dX11_sure_25 : decode cX11_sure 25 = .ok (.getfield 66, 3) := by decide +kernel
theorem dX11_sure_28 : decode cX11_sure 28 = .ok (.getfield 317, 3) := by decide +kernel
theorem dX11_sure_31 : decode cX11_sure 31 = .ok (.ireturn, 1) := by decide +kernel
theorem dX11_write_0 : decode cX11_write 0 = .ok (.aload_n 0, 1) := by decide +kernel
theorem dX11_write_1 : decode cX11_write 1 = .ok (.getfield 17, 3) := by decide +kernel
theorem dX11_write_4 : decode cX11_write 4 = .ok (.iload_n 1, 1) := by decide +kernel
theorem dX11_write_5 : decode cX11_write 5 = .ok (.invokevirtual 179, 3) := by decide +kernel
theorem dX11_write_8 : decode cX11_write 8 = .ok (.ifCond .ne 6, 3) := by decide +kernel
theorem dX11_write_11 : decode cX11_write 11 = .ok (.ldc 183, 2) := by decide +kernel
theorem dX11_write_13 : decode cX11_write 13 = .ok (.ireturn, 1) := by decide +kernel
theorem dX11_write_14 : decode cX11_write 14 = .ok (.iload_n 2, 1) := by decide +kernel
theorem dX11_write_15 : decode cX11_write 15 = .ok (.invokestatic 214, 3) := by decide +kernel
theorem dX11_write_18 : decode cX11_write 18 = .ok (.ifCond .ne 6, 3) := by decide +kernel
theorem dX11_write_21 : decode cX11_write 21 = .ok (.ldc 105, 2) := by decide +kernel
theorem dX11_write_23 : decode cX11_write 23 = .ok (.ireturn, 1) := by decide +kernel
theorem dX11_write_24 : decode cX11_write 24 = .ok (.aload_n 0, 1) := by decide +kernel
theorem dX11_write_25 : decode cX11_write 25 = .ok (.getfield 80, 3) := by decide +kernel
theorem dX11_write_28 : decode cX11_write 28 = .ok (.getfield 173, 3) := by decide +kernel
theorem dX11_write_31 : decode cX11_write 31 = .ok (.bipush 20, 2) := by decide +kernel
theorem dX11_write_33 : decode cX11_write 33 = .ok (.if_icmp .lt 6, 3) := by decide +kernel
theorem dX11_write_36 : decode cX11_write 36 = .ok (.ldc 109, 2) := by decide +kernel
theorem dX11_write_38 : decode cX11_write 38 = .ok (.ireturn, 1) := by decide +kernel
theorem dX11_write_39 : decode cX11_write 39 = .ok (.aload_n 0, 1) := by decide +kernel
theorem dX11_write_40 : decode cX11_write 40 = .ok (.getfield 80, 3) := by decide +kernel
theorem dX11_write_43 : decode cX11_write 43 = .ok (.iload_n 1, 1) := by decide +kernel
theorem dX11_write_44 : decode cX11_write 44 = .ok (.iload_n 2, 1) := by decide +kernel
theorem dX11_write_45 : decode cX11_write 45 = .ok (.iload_n 3, 1) := by decide +kernel
theorem dX11_write_46 : decode cX11_write 46 = .ok (.invokevirtual 320, 3) := by decide +kernel
theorem dX11_write_49 : decode cX11_write 49 = .ok (.ireturn, 1) := by decide +kernel
theorem dX11_judge_0 : decode cX11_judge 0 = .ok (.aload_n 0, 1) := by decide +kernel
theorem dX11_judge_1 : decode cX11_judge 1 = .ok (.getfield 32, 3) := by decide +kernel
theorem dX11_judge_4 : decode cX11_judge 4 = .ok (.aload_n 0, 1) := by decide +kernel
theorem dX11_judge_5 : decode cX11_judge 5 = .ok (.getfield 28, 3) := by decide +kernel
theorem dX11_judge_8 : decode cX11_judge 8 = .ok (.invokevirtual 323, 3) := by decide +kernel
theorem dX11_judge_11 : decode cX11_judge 11 = .ok (.aload_n 0, 1) := by decide +kernel
theorem dX11_judge_12 : decode cX11_judge 12 = .ok (.getfield 80, 3) := by decide +kernel
theorem dX11_judge_15 : decode cX11_judge 15 = .ok (.aload_n 0, 1) := by decide +kernel
theorem dX11_judge_16 : decode cX11_judge 16 = .ok (.getfield 32, 3) := by decide +kernel
theorem dX11_judge_19 : decode cX11_judge 19 = .ok (.invokevirtual 325, 3) := by decide +kernel
theorem dX11_judge_22 : decode cX11_judge 22 = .ok (.ireturn, 1) := by decide +kernel
theorem dX11_tear_0 : decode cX11_tear 0 = .ok (.aload_n 0, 1) := by decide +kernel
theorem dX11_tear_1 : decode cX11_tear 1 = .ok (.getfield 66, 3) := by decide +kernel
theorem dX11_tear_4 : decode cX11_tear 4 = .ok (.getfield 170, 3) := by decide +kernel
theorem dX11_tear_7 : decode cX11_tear 7 = .ok (.aload_n 0, 1) := by decide +kernel
theorem dX11_tear_8 : decode cX11_tear 8 = .ok (.getfield 80, 3) := by decide +kernel
theorem dX11_tear_11 : decode cX11_tear 11 = .ok (.getfield 173, 3) := by decide +kernel
theorem dX11_tear_14 : decode cX11_tear 14 = .ok (.iadd, 1) := by decide +kernel
theorem dX11_tear_15 : decode cX11_tear 15 = .ok (.istore_n 1, 1) := by decide +kernel
theorem dX11_tear_16 : decode cX11_tear 16 = .ok (.aload_n 0, 1) := by decide +kernel
theorem dX11_tear_17 : decode cX11_tear 17 = .ok (.getfield 66, 3) := by decide +kernel
theorem dX11_tear_20 : decode cX11_tear 20 = .ok (.invokevirtual 135, 3) := by decide +kernel
theorem dX11_tear_23 : decode cX11_tear 23 = .ok (.aload_n 0, 1) := by decide +kernel
theorem dX11_tear_24 : decode cX11_tear 24 = .ok (.getfield 80, 3) := by decide +kernel
theorem dX11_tear_27 : decode cX11_tear 27 = .ok (.invokevirtual 138, 3) := by decide +kernel
theorem dX11_tear_30 : decode cX11_tear 30 = .ok (.iload_n 1, 1) := by decide +kernel
theorem dX11_tear_31 : decode cX11_tear 31 = .ok (.ireturn, 1) := by decide +kernel
theorem dX11_seed_0 : decode cX11_seed 0 = .ok (.iload_n 1, 1) := by decide +kernel
theorem dX11_seed_1 : decode cX11_seed 1 = .ok (.ifCond .ge 6, 3) := by decide +kernel
theorem dX11_seed_4 : decode cX11_seed 4 = .ok (.ldc 105, 2) := by decide +kernel
theorem dX11_seed_6 : decode cX11_seed 6 = .ok (.ireturn, 1) := by decide +kernel
theorem dX11_seed_7 : decode cX11_seed 7 = .ok (.aload_n 0, 1) := by decide +kernel
theorem dX11_seed_8 : decode cX11_seed 8 = .ok (.getfield 102, 3) := by decide +kernel
theorem dX11_seed_11 : decode cX11_seed 11 = .ok (.istore_n 2, 1) := by decide +kernel
theorem dX11_seed_12 : decode cX11_seed 12 = .ok (.aload_n 0, 1) := by decide +kernel
theorem dX11_seed_13 : decode cX11_seed 13 = .ok (.iload_n 1, 1) := by decide +kernel
theorem dX11_seed_14 : decode cX11_seed 14 = .ok (.putfield 102, 3) := by decide +kernel
theorem dX11_seed_17 : decode cX11_seed 17 = .ok (.iload_n 2, 1) := by decide +kernel
theorem dX11_seed_18 : decode cX11_seed 18 = .ok (.ireturn, 1) := by decide +kernel
theorem dX11_keep_0 : decode cX11_keep 0 = .ok (.iload_n 1, 1) := by decide +kernel
theorem dX11_keep_1 : decode cX11_keep 1 = .ok (.invokestatic 328, 3) := by decide +kernel
theorem dX11_keep_4 : decode cX11_keep 4 = .ok (.ifCond .ne 6, 3) := by decide +kernel
theorem dX11_keep_7 : decode cX11_keep 7 = .ok (.ldc 183, 2) := by decide +kernel
theorem dX11_keep_9 : decode cX11_keep 9 = .ok (.ireturn, 1) := by decide +kernel
theorem dX11_keep_10 : decode cX11_keep 10 = .ok (.aload_n 0, 1) := by decide +kernel
theorem dX11_keep_11 : decode cX11_keep 11 = .ok (.getfield 42, 3) := by decide +kernel
theorem dX11_keep_14 : decode cX11_keep 14 = .ok (.iload_n 1, 1) := by decide +kernel
theorem dX11_keep_15 : decode cX11_keep 15 = .ok (.aaload, 1) := by decide +kernel
theorem dX11_keep_16 : decode cX11_keep 16 = .ok (.aload_n 0, 1) := by decide +kernel
theorem dX11_keep_17 : decode cX11_keep 17 = .ok (.getfield 28, 3) := by decide +kernel
theorem dX11_keep_20 : decode cX11_keep 20 = .ok (.invokevirtual 323, 3) := by decide +kernel
theorem dX11_keep_23 : decode cX11_keep 23 = .ok (.aload_n 0, 1) := by decide +kernel
theorem dX11_keep_24 : decode cX11_keep 24 = .ok (.getfield 50, 3) := by decide +kernel
theorem dX11_keep_27 : decode cX11_keep 27 = .ok (.iload_n 1, 1) := by decide +kernel
theorem dX11_keep_28 : decode cX11_keep 28 = .ok (.aload_n 0, 1) := by decide +kernel
theorem dX11_keep_29 : decode cX11_keep 29 = .ok (.getfield 102, 3) := by decide +kernel
theorem dX11_keep_32 : decode cX11_keep 32 = .ok (.iastore, 1) := by decide +kernel
theorem dX11_keep_33 : decode cX11_keep 33 = .ok (.aload_n 0, 1) := by decide +kernel
theorem dX11_keep_34 : decode cX11_keep 34 = .ok (.getfield 46, 3) := by decide +kernel
theorem dX11_keep_37 : decode cX11_keep 37 = .ok (.iload_n 1, 1) := by decide +kernel
theorem dX11_keep_38 : decode cX11_keep 38 = .ok (.iconst 1, 1) := by decide +kernel
theorem dX11_keep_39 : decode cX11_keep 39 = .ok (.bastore, 1) := by decide +kernel
theorem dX11_keep_40 : decode cX11_keep 40 = .ok (.aload_n 0, 1) := by decide +kernel
theorem dX11_keep_41 : decode cX11_keep 41 = .ok (.getfield 38, 3) := by decide +kernel
theorem dX11_keep_44 : decode cX11_keep 44 = .ok (.invokevirtual 132, 3) := by decide +kernel
theorem dX11_keep_47 : decode cX11_keep 47 = .ok (.iconst 1, 1) := by decide +kernel
theorem dX11_keep_48 : decode cX11_keep 48 = .ok (.ireturn, 1) := by decide +kernel
theorem dX11_goBack_0 : decode cX11_goBack 0 = .ok (.iload_n 1, 1) := by decide +kernel
theorem dX11_goBack_1 : decode cX11_goBack 1 = .ok (.invokestatic 328, 3) := by decide +kernel
theorem dX11_goBack_4 : decode cX11_goBack 4 = .ok (.ifCond .ne 6, 3) := by decide +kernel
theorem dX11_goBack_7 : decode cX11_goBack 7 = .ok (.ldc 183, 2) := by decide +kernel
theorem dX11_goBack_9 : decode cX11_goBack 9 = .ok (.ireturn, 1) := by decide +kernel
theorem dX11_goBack_10 : decode cX11_goBack 10 = .ok (.aload_n 0, 1) := by decide +kernel
theorem dX11_goBack_11 : decode cX11_goBack 11 = .ok (.getfield 46, 3) := by decide +kernel
theorem dX11_goBack_14 : decode cX11_goBack 14 = .ok (.iload_n 1, 1) := by decide +kernel
theorem dX11_goBack_15 : decode cX11_goBack 15 = .ok (.baload, 1) := by decide +kernel
theorem dX11_goBack_16 : decode cX11_goBack 16 = .ok (.ifCond .ne 6, 3) := by decide +kernel
theorem dX11_goBack_19 : decode cX11_goBack 19 = .ok (.ldc 224, 2) := by decide +kernel
theorem dX11_goBack_21 : decode cX11_goBack 21 = .ok (.ireturn, 1) := by decide +kernel
theorem dX11_goBack_22 : decode cX11_goBack 22 = .ok (.aload_n 0, 1) := by decide +kernel
theorem dX11_goBack_23 : decode cX11_goBack 23 = .ok (.getfield 28, 3) := by decide +kernel
theorem dX11_goBack_26 : decode cX11_goBack 26 = .ok (.aload_n 0, 1) := by decide +kernel
theorem dX11_goBack_27 : decode cX11_goBack 27 = .ok (.getfield 42, 3) := by decide +kernel
theorem dX11_goBack_30 : decode cX11_goBack 30 = .ok (.iload_n 1, 1) := by decide +kernel
theorem dX11_goBack_31 : decode cX11_goBack 31 = .ok (.aaload, 1) := by decide +kernel
theorem dX11_goBack_32 : decode cX11_goBack 32 = .ok (.invokevirtual 323, 3) := by decide +kernel
theorem dX11_goBack_35 : decode cX11_goBack 35 = .ok (.aload_n 0, 1) := by decide +kernel
theorem dX11_goBack_36 : decode cX11_goBack 36 = .ok (.aload_n 0, 1) := by decide +kernel
theorem dX11_goBack_37 : decode cX11_goBack 37 = .ok (.getfield 50, 3) := by decide +kernel
theorem dX11_goBack_40 : decode cX11_goBack 40 = .ok (.iload_n 1, 1) := by decide +kernel
theorem dX11_goBack_41 : decode cX11_goBack 41 = .ok (.iaload, 1) := by decide +kernel
theorem dX11_goBack_42 : decode cX11_goBack 42 = .ok (.putfield 102, 3) := by decide +kernel
theorem dX11_goBack_45 : decode cX11_goBack 45 = .ok (.aload_n 0, 1) := by decide +kernel
theorem dX11_goBack_46 : decode cX11_goBack 46 = .ok (.getfield 38, 3) := by decide +kernel
theorem dX11_goBack_49 : decode cX11_goBack 49 = .ok (.invokevirtual 132, 3) := by decide +kernel
theorem dX11_goBack_52 : decode cX11_goBack 52 = .ok (.iconst 1, 1) := by decide +kernel
theorem dX11_goBack_53 : decode cX11_goBack 53 = .ok (.ireturn, 1) := by decide +kernel
theorem dX11_isWord_0 : decode cX11_isWord 0 = .ok (.iload_n 0, 1) := by decide +kernel
theorem dX11_isWord_1 : decode cX11_isWord 1 = .ok (.ifCond .lt 12, 3) := by decide +kernel
theorem dX11_isWord_4 : decode cX11_isWord 4 = .ok (.iload_n 0, 1) := by decide +kernel
theorem dX11_isWord_5 : decode cX11_isWord 5 = .ok (.iconst 3, 1) := by decide +kernel
theorem dX11_isWord_6 : decode cX11_isWord 6 = .ok (.if_icmp .ge 7, 3) := by decide +kernel
theorem dX11_isWord_9 : decode cX11_isWord 9 = .ok (.iconst 1, 1) := by decide +kernel
theorem dX11_isWord_10 : decode cX11_isWord 10 = .ok (.goto 4, 3) := by decide +kernel
theorem dX11_isWord_13 : decode cX11_isWord 13 = .ok (.iconst 0, 1) := by decide +kernel
theorem dX11_isWord_14 : decode cX11_isWord 14 = .ok (.ireturn, 1) := by decide +kernel
theorem dX11_isImage_0 : decode cX11_isImage 0 = .ok (.iload_n 0, 1) := by decide +kernel
theorem dX11_isImage_1 : decode cX11_isImage 1 = .ok (.ifCond .lt 12, 3) := by decide +kernel
theorem dX11_isImage_4 : decode cX11_isImage 4 = .ok (.iload_n 0, 1) := by decide +kernel
theorem dX11_isImage_5 : decode cX11_isImage 5 = .ok (.iconst 2, 1) := by decide +kernel
theorem dX11_isImage_6 : decode cX11_isImage 6 = .ok (.if_icmp .ge 7, 3) := by decide +kernel
theorem dX11_isImage_9 : decode cX11_isImage 9 = .ok (.iconst 1, 1) := by decide +kernel
theorem dX11_isImage_10 : decode cX11_isImage 10 = .ok (.goto 4, 3) := by decide +kernel
theorem dX11_isImage_13 : decode cX11_isImage 13 = .ok (.iconst 0, 1) := by decide +kernel
theorem dX11_isImage_14 : decode cX11_isImage 14 = .ok (.ireturn, 1) := by decide +kernel
theorem dX11_isNoGain_0 : decode cX11_isNoGain 0 = .ok (.iload_n 0, 1) := by decide +kernel
theorem dX11_isNoGain_1 : decode cX11_isNoGain 1 = .ok (.ifCond .lt 9, 3) := by decide +kernel
theorem dX11_isNoGain_4 : decode cX11_isNoGain 4 = .ok (.iload_n 0, 1) := by decide +kernel
theorem dX11_isNoGain_5 : decode cX11_isNoGain 5 = .ok (.bipush 9, 2) := by decide +kernel
theorem dX11_isNoGain_7 : decode cX11_isNoGain 7 = .ok (.if_icmp .le 7, 3) := by decide +kernel
theorem dX11_isNoGain_10 : decode cX11_isNoGain 10 = .ok (.iconst 1, 1) := by decide +kernel
theorem dX11_isNoGain_11 : decode cX11_isNoGain 11 = .ok (.goto 4, 3) := by decide +kernel
theorem dX11_isNoGain_14 : decode cX11_isNoGain 14 = .ok (.iconst 0, 1) := by decide +kernel
theorem dX11_isNoGain_15 : decode cX11_isNoGain 15 = .ok (.ireturn, 1) := by decide +kernel
theorem dX11_isNoTrial_0 : decode cX11_isNoTrial 0 = .ok (.iload_n 0, 1) := by decide +kernel
theorem dX11_isNoTrial_1 : decode cX11_isNoTrial 1 = .ok (.iconst 1, 1) := by decide +kernel
theorem dX11_isNoTrial_2 : decode cX11_isNoTrial 2 = .ok (.if_icmp .lt 18, 3) := by decide +kernel
theorem dX11_isNoTrial_5 : decode cX11_isNoTrial 5 = .ok (.iload_n 0, 1) := by decide +kernel
theorem dX11_isNoTrial_6 : decode cX11_isNoTrial 6 = .ok (.iconst 5, 1) := by decide +kernel
theorem dX11_isNoTrial_7 : decode cX11_isNoTrial 7 = .ok (.if_icmp .gt 13, 3) := by decide +kernel
theorem dX11_isNoTrial_10 : decode cX11_isNoTrial 10 = .ok (.iload_n 1, 1) := by decide +kernel
theorem dX11_isNoTrial_11 : decode cX11_isNoTrial 11 = .ok (.ifCond .lt 9, 3) := by decide +kernel
theorem dX11_isNoTrial_14 : decode cX11_isNoTrial 14 = .ok (.iload_n 1, 1) := by decide +kernel
theorem dX11_isNoTrial_15 : decode cX11_isNoTrial 15 = .ok (.bipush 99, 2) := by decide +kernel
theorem dX11_isNoTrial_17 : decode cX11_isNoTrial 17 = .ok (.if_icmp .le 7, 3) := by decide +kernel
theorem dX11_isNoTrial_20 : decode cX11_isNoTrial 20 = .ok (.iconst 1, 1) := by decide +kernel
theorem dX11_isNoTrial_21 : decode cX11_isNoTrial 21 = .ok (.goto 4, 3) := by decide +kernel
theorem dX11_isNoTrial_24 : decode cX11_isNoTrial 24 = .ok (.iconst 0, 1) := by decide +kernel
theorem dX11_isNoTrial_25 : decode cX11_isNoTrial 25 = .ok (.ireturn, 1) := by decide +kernel
theorem dX11_letHourPass_0 : decode cX11_letHourPass 0 = .ok (.aload_n 0, 1) := by decide +kernel
theorem dX11_letHourPass_1 : decode cX11_letHourPass 1 = .ok (.getfield 38, 3) := by decide +kernel
theorem dX11_letHourPass_4 : decode cX11_letHourPass 4 = .ok (.aload_n 0, 1) := by decide +kernel
theorem dX11_letHourPass_5 : decode cX11_letHourPass 5 = .ok (.getfield 28, 3) := by decide +kernel
theorem dX11_letHourPass_8 : decode cX11_letHourPass 8 = .ok (.invokevirtual 331, 3) := by decide +kernel
theorem dX11_letHourPass_11 : decode cX11_letHourPass 11 = .ok (.aload_n 0, 1) := by decide +kernel
theorem dX11_letHourPass_12 : decode cX11_letHourPass 12 = .ok (.getfield 28, 3) := by decide +kernel
theorem dX11_letHourPass_15 : decode cX11_letHourPass 15 = .ok (.iconst 0, 1) := by decide +kernel
theorem dX11_letHourPass_16 : decode cX11_letHourPass 16 = .ok (.invokevirtual 333, 3) := by decide +kernel
theorem dX11_letHourPass_19 : decode cX11_letHourPass 19 = .ok (.return_, 1) := by decide +kernel
theorem dX11_passByDraw_0 : decode cX11_passByDraw 0 = .ok (.aload_n 0, 1) := by decide +kernel
theorem dX11_passByDraw_1 : decode cX11_passByDraw 1 = .ok (.aload_n 0, 1) := by decide +kernel
theorem dX11_passByDraw_2 : decode cX11_passByDraw 2 = .ok (.getfield 17, 3) := by decide +kernel
theorem dX11_passByDraw_5 : decode cX11_passByDraw 5 = .ok (.getfield 139, 3) := by decide +kernel
theorem dX11_passByDraw_8 : decode cX11_passByDraw 8 = .ok (.invokevirtual 336, 3) := by decide +kernel
theorem dX11_passByDraw_11 : decode cX11_passByDraw 11 = .ok (.istore_n 1, 1) := by decide +kernel
theorem dX11_passByDraw_12 : decode cX11_passByDraw 12 = .ok (.aload_n 0, 1) := by decide +kernel
theorem dX11_passByDraw_13 : decode cX11_passByDraw 13 = .ok (.getfield 28, 3) := by decide +kernel
theorem dX11_passByDraw_16 : decode cX11_passByDraw 16 = .ok (.iload_n 1, 1) := by decide +kernel
theorem dX11_passByDraw_17 : decode cX11_passByDraw 17 = .ok (.invokevirtual 228, 3) := by decide +kernel
theorem dX11_passByDraw_20 : decode cX11_passByDraw 20 = .ok (.ifCond .eq 4, 3) := by decide +kernel
theorem dX11_passByDraw_23 : decode cX11_passByDraw 23 = .ok (.return_, 1) := by decide +kernel
theorem dX11_passByDraw_24 : decode cX11_passByDraw 24 = .ok (.aload_n 0, 1) := by decide +kernel
theorem dX11_passByDraw_25 : decode cX11_passByDraw 25 = .ok (.getfield 28, 3) := by decide +kernel
theorem dX11_passByDraw_28 : decode cX11_passByDraw 28 = .ok (.iload_n 1, 1) := by decide +kernel
theorem dX11_passByDraw_29 : decode cX11_passByDraw 29 = .ok (.invokevirtual 235, 3) := by decide +kernel
theorem dX11_passByDraw_32 : decode cX11_passByDraw 32 = .ok (.ifCond .eq 14, 3) := by decide +kernel
theorem dX11_passByDraw_35 : decode cX11_passByDraw 35 = .ok (.aload_n 0, 1) := by decide +kernel
theorem dX11_passByDraw_36 : decode cX11_passByDraw 36 = .ok (.getfield 28, 3) := by decide +kernel
theorem dX11_passByDraw_39 : decode cX11_passByDraw 39 = .ok (.iload_n 1, 1) := by decide +kernel
theorem dX11_passByDraw_40 : decode cX11_passByDraw 40 = .ok (.invokevirtual 238, 3) := by decide +kernel
theorem dX11_passByDraw_43 : decode cX11_passByDraw 43 = .ok (.goto 17, 3) := by decide +kernel
theorem dX11_passByDraw_46 : decode cX11_passByDraw 46 = .ok (.aload_n 0, 1) := by decide +kernel
theorem dX11_passByDraw_47 : decode cX11_passByDraw 47 = .ok (.getfield 28, 3) := by decide +kernel
theorem dX11_passByDraw_50 : decode cX11_passByDraw 50 = .ok (.iload_n 1, 1) := by decide +kernel
theorem dX11_passByDraw_51 : decode cX11_passByDraw 51 = .ok (.aload_n 0, 1) := by decide +kernel
theorem dX11_passByDraw_52 : decode cX11_passByDraw 52 = .ok (.iconst 3, 1) := by decide +kernel
theorem dX11_passByDraw_53 : decode cX11_passByDraw 53 = .ok (.invokevirtual 336, 3) := by decide +kernel
theorem dX11_passByDraw_56 : decode cX11_passByDraw 56 = .ok (.invokevirtual 231, 3) := by decide +kernel
theorem dX11_passByDraw_59 : decode cX11_passByDraw 59 = .ok (.pop, 1) := by decide +kernel
theorem dX11_passByDraw_60 : decode cX11_passByDraw 60 = .ok (.return_, 1) := by decide +kernel
theorem dX11_draw_0 : decode cX11_draw 0 = .ok (.aload_n 0, 1) := by decide +kernel
theorem dX11_draw_1 : decode cX11_draw 1 = .ok (.aload_n 0, 1) := by decide +kernel
theorem dX11_draw_2 : decode cX11_draw 2 = .ok (.getfield 102, 3) := by decide +kernel
theorem dX11_draw_5 : decode cX11_draw 5 = .ok (.i2l, 1) := by decide +kernel
theorem dX11_draw_6 : decode cX11_draw 6 = .ok (.ldc2_w 339, 3) := by decide +kernel
theorem dX11_draw_9 : decode cX11_draw 9 = .ok (.lmul, 1) := by decide +kernel
theorem dX11_draw_10 : decode cX11_draw 10 = .ok (.ldc2_w 341, 3) := by decide +kernel
theorem dX11_draw_13 : decode cX11_draw 13 = .ok (.ladd, 1) := by decide +kernel
theorem dX11_draw_14 : decode cX11_draw 14 = .ok (.ldc2_w 343, 3) := by decide +kernel
theorem dX11_draw_17 : decode cX11_draw 17 = .ok (.land, 1) := by decide +kernel
theorem dX11_draw_18 : decode cX11_draw 18 = .ok (.l2i, 1) := by decide +kernel
theorem dX11_draw_19 : decode cX11_draw 19 = .ok (.putfield 102, 3) := by decide +kernel
theorem dX11_draw_22 : decode cX11_draw 22 = .ok (.iload_n 1, 1) := by decide +kernel
theorem dX11_draw_23 : decode cX11_draw 23 = .ok (.iconst 1, 1) := by decide +kernel
theorem dX11_draw_24 : decode cX11_draw 24 = .ok (.if_icmp .ge 7, 3) := by decide +kernel
theorem dX11_draw_27 : decode cX11_draw 27 = .ok (.iconst 0, 1) := by decide +kernel
theorem dX11_draw_28 : decode cX11_draw 28 = .ok (.goto 13, 3) := by decide +kernel
theorem dX11_draw_31 : decode cX11_draw 31 = .ok (.aload_n 0, 1) := by decide +kernel
theorem dX11_draw_32 : decode cX11_draw 32 = .ok (.getfield 102, 3) := by decide +kernel
theorem dX11_draw_35 : decode cX11_draw 35 = .ok (.ldc_w 345, 3) := by decide +kernel
theorem dX11_draw_38 : decode cX11_draw 38 = .ok (.idiv, 1) := by decide +kernel
theorem dX11_draw_39 : decode cX11_draw 39 = .ok (.iload_n 1, 1) := by decide +kernel
theorem dX11_draw_40 : decode cX11_draw 40 = .ok (.irem, 1) := by decide +kernel
theorem dX11_draw_41 : decode cX11_draw 41 = .ok (.ireturn, 1) := by decide +kernel
theorem dX11_harmBehind_0 : decode cX11_harmBehind 0 = .ok (.aload_n 0, 1) := by decide +kernel
theorem dX11_harmBehind_1 : decode cX11_harmBehind 1 = .ok (.getfield 32, 3) := by decide +kernel
theorem dX11_harmBehind_4 : decode cX11_harmBehind 4 = .ok (.aload_n 0, 1) := by decide +kernel
theorem dX11_harmBehind_5 : decode cX11_harmBehind 5 = .ok (.getfield 28, 3) := by decide +kernel
theorem dX11_harmBehind_8 : decode cX11_harmBehind 8 = .ok (.invokevirtual 323, 3) := by decide +kernel
theorem dX11_harmBehind_11 : decode cX11_harmBehind 11 = .ok (.iconst 0, 1) := by decide +kernel
theorem dX11_harmBehind_12 : decode cX11_harmBehind 12 = .ok (.istore_n 3, 1) := by decide +kernel
theorem dX11_harmBehind_13 : decode cX11_harmBehind 13 = .ok (.iload_n 3, 1) := by decide +kernel
theorem dX11_harmBehind_14 : decode cX11_harmBehind 14 = .ok (.iload_n 1, 1) := by decide +kernel
theorem dX11_harmBehind_15 : decode cX11_harmBehind 15 = .ok (.if_icmp .ge 17, 3) := by decide +kernel
theorem dX11_harmBehind_18 : decode cX11_harmBehind 18 = .ok (.aload_n 0, 1) := by decide +kernel
theorem dX11_harmBehind_19 : decode cX11_harmBehind 19 = .ok (.getfield 32, 3) := by decide +kernel
theorem dX11_harmBehind_22 : decode cX11_harmBehind 22 = .ok (.iload_n 2, 1) := by decide +kernel
theorem dX11_harmBehind_23 : decode cX11_harmBehind 23 = .ok (.invokevirtual 333, 3) := by decide +kernel
theorem dX11_harmBehind_26 : decode cX11_harmBehind 26 = .ok (.iinc 3 1, 3) := by decide +kernel
theorem dX11_harmBehind_29 : decode cX11_harmBehind 29 = .ok (.goto (-16), 3) := by decide +kernel
theorem dX11_harmBehind_32 : decode cX11_harmBehind 32 = .ok (.aload_n 0, 1) := by decide +kernel
theorem dX11_harmBehind_33 : decode cX11_harmBehind 33 = .ok (.getfield 32, 3) := by decide +kernel
theorem dX11_harmBehind_36 : decode cX11_harmBehind 36 = .ok (.getfield 151, 3) := by decide +kernel
theorem dX11_harmBehind_39 : decode cX11_harmBehind 39 = .ok (.ireturn, 1) := by decide +kernel
theorem dX12_init_0 : decode cX12_init 0 = .ok (.aload_n 0, 1) := by decide +kernel
theorem dX12_init_1 : decode cX12_init 1 = .ok (.invokespecial 1, 3) := by decide +kernel
theorem dX12_init_4 : decode cX12_init 4 = .ok (.aload_n 0, 1) := by decide +kernel
theorem dX12_init_5 : decode cX12_init 5 = .ok (.sipush 250, 3) := by decide +kernel
theorem dX12_init_8 : decode cX12_init 8 = .ok (.newarray .int, 2) := by decide +kernel
theorem dX12_init_10 : decode cX12_init 10 = .ok (.putfield 7, 3) := by decide +kernel
theorem dX12_init_13 : decode cX12_init 13 = .ok (.aload_n 0, 1) := by decide +kernel
theorem dX12_init_14 : decode cX12_init 14 = .ok (.iconst (-1), 1) := by decide +kernel
theorem dX12_init_15 : decode cX12_init 15 = .ok (.putfield 13, 3) := by decide +kernel
theorem dX12_init_18 : decode cX12_init 18 = .ok (.aload_n 0, 1) := by decide +kernel
theorem dX12_init_19 : decode cX12_init 19 = .ok (.bipush 12, 2) := by decide +kernel
theorem dX12_init_21 : decode cX12_init 21 = .ok (.newarray .int, 2) := by decide +kernel
theorem dX12_init_23 : decode cX12_init 23 = .ok (.putfield 17, 3) := by decide +kernel
theorem dX12_init_26 : decode cX12_init 26 = .ok (.aload_n 0, 1) := by decide +kernel
theorem dX12_init_27 : decode cX12_init 27 = .ok (.bipush 30, 2) := by decide +kernel
theorem dX12_init_29 : decode cX12_init 29 = .ok (.newarray .int, 2) := by decide +kernel
theorem dX12_init_31 : decode cX12_init 31 = .ok (.putfield 20, 3) := by decide +kernel
theorem dX12_init_34 : decode cX12_init 34 = .ok (.aload_n 0, 1) := by decide +kernel
theorem dX12_init_35 : decode cX12_init 35 = .ok (.iconst 3, 1) := by decide +kernel
theorem dX12_init_36 : decode cX12_init 36 = .ok (.newarray .int, 2) := by decide +kernel
theorem dX12_init_38 : decode cX12_init 38 = .ok (.putfield 23, 3) := by decide +kernel
theorem dX12_init_41 : decode cX12_init 41 = .ok (.aload_n 0, 1) := by decide +kernel
theorem dX12_init_42 : decode cX12_init 42 = .ok (.bipush 12, 2) := by decide +kernel
theorem dX12_init_44 : decode cX12_init 44 = .ok (.newarray .int, 2) := by decide +kernel
theorem dX12_init_46 : decode cX12_init 46 = .ok (.putfield 26, 3) := by decide +kernel
theorem dX12_init_49 : decode cX12_init 49 = .ok (.aload_n 0, 1) := by decide +kernel
theorem dX12_init_50 : decode cX12_init 50 = .ok (.bipush 30, 2) := by decide +kernel
theorem dX12_init_52 : decode cX12_init 52 = .ok (.newarray .int, 2) := by decide +kernel
theorem dX12_init_54 : decode cX12_init 54 = .ok (.putfield 29, 3) := by decide +kernel
theorem dX12_init_57 : decode cX12_init 57 = .ok (.aload_n 0, 1) := by decide +kernel
theorem dX12_init_58 : decode cX12_init 58 = .ok (.iconst 3, 1) := by decide +kernel
theorem dX12_init_59 : decode cX12_init 59 = .ok (.newarray .int, 2) := by decide +kernel
theorem dX12_init_61 : decode cX12_init 61 = .ok (.putfield 32, 3) := by decide +kernel
theorem dX12_init_64 : decode cX12_init 64 = .ok (.aload_n 0, 1) := by decide +kernel
theorem dX12_init_65 : decode cX12_init 65 = .ok (.bipush 31, 2) := by decide +kernel
theorem dX12_init_67 : decode cX12_init 67 = .ok (.newarray .int, 2) := by decide +kernel
theorem dX12_init_69 : decode cX12_init 69 = .ok (.putfield 35, 3) := by decide +kernel
theorem dX12_init_72 : decode cX12_init 72 = .ok (.aload_n 0, 1) := by decide +kernel
theorem dX12_init_73 : decode cX12_init 73 = .ok (.bipush 31, 2) := by decide +kernel
theorem dX12_init_75 : decode cX12_init 75 = .ok (.newarray .int, 2) := by decide +kernel
theorem dX12_init_77 : decode cX12_init 77 = .ok (.putfield 38, 3) := by decide +kernel
theorem dX12_init_80 : decode cX12_init 80 = .ok (.aload_n 0, 1) := by decide +kernel
theorem dX12_init_81 : decode cX12_init 81 = .ok (.bipush 62, 2) := by decide +kernel
theorem dX12_init_83 : decode cX12_init 83 = .ok (.newarray .int, 2) := by decide +kernel
theorem dX12_init_85 : decode cX12_init 85 = .ok (.putfield 41, 3) := by decide +kernel
theorem dX12_init_88 : decode cX12_init 88 = .ok (.aload_n 0, 1) := by decide +kernel
theorem dX12_init_89 : decode cX12_init 89 = .ok (.iconst 2, 1) := by decide +kernel
theorem dX12_init_90 : decode cX12_init 90 = .ok (.newarray .boolean, 2) := by decide +kernel
theorem dX12_init_92 : decode cX12_init 92 = .ok (.putfield 44, 3) := by decide +kernel
theorem dX12_init_95 : decode cX12_init 95 = .ok (.aload_n 0, 1) := by decide +kernel
theorem dX12_init_96 : decode cX12_init 96 = .ok (.sipush 1860, 3) := by decide +kernel
theorem dX12_init_99 : decode cX12_init 99 = .ok (.newarray .int, 2) := by decide +kernel
theorem dX12_init_101 : decode cX12_init 101 = .ok (.putfield 48, 3) := by decide +kernel
theorem dX12_init_104 : decode cX12_init 104 = .ok (.aload_n 0, 1) := by decide +kernel
theorem dX12_init_105 : decode cX12_init 105 = .ok (.iconst 5, 1) := by decide +kernel
theorem dX12_init_106 : decode cX12_init 106 = .ok (.newarray .int, 2) := by decide +kernel
theorem dX12_init_108 : decode cX12_init 108 = .ok (.putfield 51, 3) := by decide +kernel
theorem dX12_init_111 : decode cX12_init 111 = .ok (.aload_n 0, 1) := by decide +kernel
theorem dX12_init_112 : decode cX12_init 112 = .ok (.bipush 60, 2) := by decide +kernel
theorem dX12_init_114 : decode cX12_init 114 = .ok (.newarray .int, 2) := by decide +kernel
theorem dX12_init_116 : decode cX12_init 116 = .ok (.putfield 54, 3) := by decide +kernel
theorem dX12_init_119 : decode cX12_init 119 = .ok (.aload_n 0, 1) := by decide +kernel
theorem dX12_init_120 : decode cX12_init 120 = .ok (.iconst 5, 1) := by decide +kernel
theorem dX12_init_121 : decode cX12_init 121 = .ok (.newarray .int, 2) := by decide +kernel
theorem dX12_init_123 : decode cX12_init 123 = .ok (.putfield 57, 3) := by decide +kernel
theorem dX12_init_126 : decode cX12_init 126 = .ok (.aload_n 0, 1) := by decide +kernel
theorem dX12_init_127 : decode cX12_init 127 = .ok (.bipush 6, 2) := by decide +kernel
theorem dX12_init_129 : decode cX12_init 129 = .ok (.newarray .int, 2) := by decide +kernel
theorem dX12_init_131 : decode cX12_init 131 = .ok (.putfield 60, 3) := by decide +kernel
theorem dX12_init_134 : decode cX12_init 134 = .ok (.aload_n 0, 1) := by decide +kernel
theorem dX12_init_135 : decode cX12_init 135 = .ok (.bipush 64, 2) := by decide +kernel
theorem dX12_init_137 : decode cX12_init 137 = .ok (.newarray .int, 2) := by decide +kernel
theorem dX12_init_139 : decode cX12_init 139 = .ok (.putfield 63, 3) := by decide +kernel
theorem dX12_init_142 : decode cX12_init 142 = .ok (.aload_n 0, 1) := by decide +kernel
theorem dX12_init_143 : decode cX12_init 143 = .ok (.invokevirtual 66, 3) := by decide +kernel
theorem dX12_init_146 : decode cX12_init 146 = .ok (.aload_n 0, 1) := by decide +kernel
theorem dX12_init_147 : decode cX12_init 147 = .ok (.getfield 32, 3) := by decide +kernel
theorem dX12_init_150 : decode cX12_init 150 = .ok (.iconst 0, 1) := by decide +kernel
theorem dX12_init_151 : decode cX12_init 151 = .ok (.iconst 3, 1) := by decide +kernel
theorem dX12_init_152 : decode cX12_init 152 = .ok (.iastore, 1) := by decide +kernel
theorem dX12_init_153 : decode cX12_init 153 = .ok (.aload_n 0, 1) := by decide +kernel
theorem dX12_init_154 : decode cX12_init 154 = .ok (.getfield 32, 3) := by decide +kernel
theorem dX12_init_157 : decode cX12_init 157 = .ok (.iconst 1, 1) := by decide +kernel
theorem dX12_init_158 : decode cX12_init 158 = .ok (.iconst 5, 1) := by decide +kernel
theorem dX12_init_159 : decode cX12_init 159 = .ok (.iastore, 1) := by decide +kernel
theorem dX12_init_160 : decode cX12_init 160 = .ok (.aload_n 0, 1) := by decide +kernel
theorem dX12_init_161 : decode cX12_init 161 = .ok (.getfield 32, 3) := by decide +kernel
theorem dX12_init_164 : decode cX12_init 164 = .ok (.iconst 2, 1) := by decide +kernel
theorem dX12_init_165 : decode cX12_init 165 = .ok (.bipush 7, 2) := by decide +kernel
theorem dX12_init_167 : decode cX12_init 167 = .ok (.iastore, 1) := by decide +kernel
theorem dX12_init_168 : decode cX12_init 168 = .ok (.aload_n 0, 1) := by decide +kernel
theorem dX12_init_169 : decode cX12_init 169 = .ok (.getfield 35, 3) := by decide +kernel
theorem dX12_init_172 : decode cX12_init 172 = .ok (.iconst 3, 1) := by decide +kernel
theorem dX12_init_173 : decode cX12_init 173 = .ok (.bipush 9, 2) := by decide +kernel
theorem dX12_init_175 : decode cX12_init 175 = .ok (.iastore, 1) := by decide +kernel
theorem dX12_init_176 : decode cX12_init 176 = .ok (.return_, 1) := by decide +kernel
theorem dX12_in_0 : decode cX12_in 0 = .ok (.iload_n 0, 1) := by decide +kernel
theorem dX12_in_1 : decode cX12_in 1 = .ok (.iload_n 1, 1) := by decide +kernel
theorem dX12_in_2 : decode cX12_in 2 = .ok (.if_icmp .lt 12, 3) := by decide +kernel
theorem dX12_in_5 : decode cX12_in 5 = .ok (.iload_n 0, 1) := by decide +kernel
theorem dX12_in_6 : decode cX12_in 6 = .ok (.iload_n 2, 1) := by decide +kernel
theorem dX12_in_7 : decode cX12_in 7 = .ok (.if_icmp .gt 7, 3) := by decide +kernel
theorem dX12_in_10 : decode cX12_in 10 = .ok (.iconst 1, 1) := by decide +kernel
theorem dX12_in_11 : decode cX12_in 11 = .ok (.goto 4, 3) := by decide +kernel
theorem dX12_in_14 : decode cX12_in 14 = .ok (.iconst 0, 1) := by decide +kernel
theorem dX12_in_15 : decode cX12_in 15 = .ok (.ireturn, 1) := by decide +kernel
theorem dX12_has_0 : decode cX12_has 0 = .ok (.iload_n 0, 1) := by decide +kernel
theorem dX12_has_1 : decode cX12_has 1 = .ok (.iload_n 1, 1) := by decide +kernel
theorem dX12_has_2 : decode cX12_has 2 = .ok (.ishr, 1) := by decide +kernel
theorem dX12_has_3 : decode cX12_has 3 = .ok (.iconst 1, 1) := by decide +kernel
theorem dX12_has_4 : decode cX12_has 4 = .ok (.iand, 1) := by decide +kernel
theorem dX12_has_5 : decode cX12_has 5 = .ok (.iconst 1, 1) := by decide +kernel
theorem dX12_has_6 : decode cX12_has 6 = .ok (.if_icmp .ne 7, 3) := by decide +kernel
theorem dX12_has_9 : decode cX12_has 9 = .ok (.iconst 1, 1) := by decide +kernel
theorem dX12_has_10 : decode cX12_has 10 = .ok (.goto 4, 3) := by decide +kernel
theorem dX12_has_13 : decode cX12_has 13 = .ok (.iconst 0, 1) := by decide +kernel
theorem dX12_has_14 : decode cX12_has 14 = .ok (.ireturn, 1) := by decide +kernel
theorem dX12_isOne_0 : decode cX12_isOne 0 = .ok (.iload_n 1, 1) := by decide +kernel
theorem dX12_isOne_1 : decode cX12_isOne 1 = .ok (.iconst 0, 1) := by decide +kernel
theorem dX12_isOne_2 : decode cX12_isOne 2 = .ok (.aload_n 0, 1) := by decide +kernel
theorem dX12_isOne_3 : decode cX12_isOne 3 = .ok (.getfield 69, 3) := by decide +kernel
theorem dX12_isOne_6 : decode cX12_isOne 6 = .ok (.iconst 1, 1) := by decide +kernel
theorem dX12_isOne_7 : decode cX12_isOne 7 = .ok (.isub, 1) := by decide +kernel
theorem dX12_isOne_8 : decode cX12_isOne 8 = .ok (.invokestatic 72, 3) := by decide +kernel
theorem dX12_isOne_11 : decode cX12_isOne 11 = .ok (.ireturn, 1) := by decide +kernel
theorem dX12_begin_0 : decode cX12_begin 0 = .ok (.iconst 0, 1) := by decide +kernel
theorem dX12_begin_1 : decode cX12_begin 1 = .ok (.istore_n 1, 1) := by decide +kernel
theorem dX12_begin_2 : decode cX12_begin 2 = .ok (.iload_n 1, 1) := by decide +kernel
theorem dX12_begin_3 : decode cX12_begin 3 = .ok (.bipush 31, 2) := by decide +kernel
theorem dX12_begin_5 : decode cX12_begin 5 = .ok (.if_icmp .ge 31, 3) := by decide +kernel
theorem dX12_begin_8 : decode cX12_begin 8 = .ok (.aload_n 0, 1) := by decide +kernel
theorem dX12_begin_9 : decode cX12_begin 9 = .ok (.getfield 35, 3) := by decide +kernel
theorem dX12_begin_12 : decode cX12_begin 12 = .ok (.iload_n 1, 1) := by decide +kernel
theorem dX12_begin_13 : decode cX12_begin 13 = .ok (.iload_n 1, 1) := by decide +kernel
theorem dX12_begin_14 : decode cX12_begin 14 = .ok (.bipush 6, 2) := by decide +kernel
theorem dX12_begin_16 : decode cX12_begin 16 = .ok (.if_icmp .ne 12, 3) := by decide +kernel
theorem dX12_begin_19 : decode cX12_begin 19 = .ok (.aload_n 0, 1) := by decide +kernel
theorem dX12_begin_20 : decode cX12_begin 20 = .ok (.getfield 35, 3) := by decide +kernel
theorem dX12_begin_23 : decode cX12_begin 23 = .ok (.iload_n 1, 1) := by decide +kernel
theorem dX12_begin_24 : decode cX12_begin 24 = .ok (.iaload, 1) := by decide +kernel
theorem dX12_begin_25 : decode cX12_begin 25 = .ok (.goto 4, 3) := by decide +kernel
theorem dX12_begin_28 : decode cX12_begin 28 = .ok (.iconst 0, 1) := by decide +kernel
theorem dX12_begin_29 : decode cX12_begin 29 = .ok (.iastore, 1) := by decide +kernel
theorem dX12_begin_30 : decode cX12_begin 30 = .ok (.iinc 1 1, 3) := by decide +kernel
theorem dX12_begin_33 : decode cX12_begin 33 = .ok (.goto (-31), 3) := by decide +kernel
theorem dX12_begin_36 : decode cX12_begin 36 = .ok (.aload_n 0, 1) := by decide +kernel
theorem dX12_begin_37 : decode cX12_begin 37 = .ok (.getfield 35, 3) := by decide +kernel
theorem dX12_begin_40 : decode cX12_begin 40 = .ok (.iconst 4, 1) := by decide +kernel
theorem dX12_begin_41 : decode cX12_begin 41 = .ok (.aload_n 0, 1) := by decide +kernel
theorem dX12_begin_42 : decode cX12_begin 42 = .ok (.getfield 69, 3) := by decide +kernel
theorem dX12_begin_45 : decode cX12_begin 45 = .ok (.ifCond .ne 7, 3) := by decide +kernel
theorem dX12_begin_48 : decode cX12_begin 48 = .ok (.iconst (-1), 1) := by decide +kernel
theorem dX12_begin_49 : decode cX12_begin 49 = .ok (.goto 4, 3) := by decide +kernel
theorem dX12_begin_52 : decode cX12_begin 52 = .ok (.iconst 0, 1) := by decide +kernel
theorem dX12_begin_53 : decode cX12_begin 53 = .ok (.iastore, 1) := by decide +kernel
theorem dX12_begin_54 : decode cX12_begin 54 = .ok (.aload_n 0, 1) := by decide +kernel
theorem dX12_begin_55 : decode cX12_begin 55 = .ok (.getfield 35, 3) := by decide +kernel
theorem dX12_begin_58 : decode cX12_begin 58 = .ok (.iconst 5, 1) := by decide +kernel
theorem dX12_begin_59 : decode cX12_begin 59 = .ok (.iconst (-1), 1) := by decide +kernel
theorem dX12_begin_60 : decode cX12_begin 60 = .ok (.iastore, 1) := by decide +kernel
theorem dX12_begin_61 : decode cX12_begin 61 = .ok (.aload_n 0, 1) := by decide +kernel
theorem dX12_begin_62 : decode cX12_begin 62 = .ok (.getfield 44, 3) := by decide +kernel
theorem dX12_begin_65 : decode cX12_begin 65 = .ok (.iconst 0, 1) := by decide +kernel
theorem dX12_begin_66 : decode cX12_begin 66 = .ok (.iconst 0, 1) := by decide +kernel
theorem dX12_begin_67 : decode cX12_begin 67 = .ok (.bastore, 1) := by decide +kernel
theorem dX12_begin_68 : decode cX12_begin 68 = .ok (.aload_n 0, 1) := by decide +kernel
theorem dX12_begin_69 : decode cX12_begin 69 = .ok (.getfield 44, 3) := by decide +kernel
theorem dX12_begin_72 : decode cX12_begin 72 = .ok (.iconst 1, 1) := by decide +kernel
theorem dX12_begin_73 : decode cX12_begin 73 = .ok (.iconst 0, 1) := by decide +kernel
theorem dX12_begin_74 : decode cX12_begin 74 = .ok (.bastore, 1) := by decide +kernel
theorem dX12_begin_75 : decode cX12_begin 75 = .ok (.aload_n 0, 1) := by decide +kernel
theorem dX12_begin_76 : decode cX12_begin 76 = .ok (.iconst 0, 1) := by decide +kernel
theorem dX12_begin_77 : decode cX12_begin 77 = .ok (.putfield 76, 3) := by decide +kernel
theorem dX12_begin_80 : decode cX12_begin 80 = .ok (.aload_n 0, 1) := by decide +kernel
theorem dX12_begin_81 : decode cX12_begin 81 = .ok (.iconst 0, 1) := by decide +kernel
theorem dX12_begin_82 : decode cX12_begin 82 = .ok (.putfield 79, 3) := by decide +kernel
theorem dX12_begin_85 : decode cX12_begin 85 = .ok (.aload_n 0, 1) := by decide +kernel
theorem dX12_begin_86 : decode cX12_begin 86 = .ok (.iconst 0, 1) := by decide +kernel
theorem dX12_begin_87 : decode cX12_begin 87 = .ok (.putfield 82, 3) := by decide +kernel
theorem dX12_begin_90 : decode cX12_begin 90 = .ok (.return_, 1) := by decide +kernel
theorem dX12_feed_0 : decode cX12_feed 0 = .ok (.iload_n 1, 1) := by decide +kernel
theorem dX12_feed_1 : decode cX12_feed 1 = .ok (.iconst 0, 1) := by decide +kernel
theorem dX12_feed_2 : decode cX12_feed 2 = .ok (.sipush 255, 3) := by decide +kernel
theorem dX12_feed_5 : decode cX12_feed 5 = .ok (.invokestatic 72, 3) := by decide +kernel
theorem dX12_feed_8 : decode cX12_feed 8 = .ok (.ifCond .ne 6, 3) := by decide +kernel
theorem dX12_feed_11 : decode cX12_feed 11 = .ok (.ldc 85, 2) := by decide +kernel
theorem dX12_feed_13 : decode cX12_feed 13 = .ok (.ireturn, 1) := by decide +kernel
theorem dX12_feed_14 : decode cX12_feed 14 = .ok (.aload_n 0, 1) := by decide +kernel
theorem dX12_feed_15 : decode cX12_feed 15 = .ok (.getfield 86, 3) := by decide +kernel
theorem dX12_feed_18 : decode cX12_feed 18 = .ok (.sipush 250, 3) := by decide +kernel
theorem dX12_feed_21 : decode cX12_feed 21 = .ok (.if_icmp .ne 6, 3) := by decide +kernel
theorem dX12_feed_24 : decode cX12_feed 24 = .ok (.ldc 89, 2) := by decide +kernel
theorem dX12_feed_26 : decode cX12_feed 26 = .ok (.ireturn, 1) := by decide +kernel
theorem dX12_feed_27 : decode cX12_feed 27 = .ok (.aload_n 0, 1) := by decide +kernel
theorem dX12_feed_28 : decode cX12_feed 28 = .ok (.getfield 7, 3) := by decide +kernel
theorem dX12_feed_31 : decode cX12_feed 31 = .ok (.aload_n 0, 1) := by decide +kernel
theorem dX12_feed_32 : decode cX12_feed 32 = .ok (.getfield 86, 3) := by decide +kernel
theorem dX12_feed_35 : decode cX12_feed 35 = .ok (.iload_n 1, 1) := by decide +kernel
theorem dX12_feed_36 : decode cX12_feed 36 = .ok (.iastore, 1) := by decide +kernel
theorem dX12_feed_37 : decode cX12_feed 37 = .ok (.aload_n 0, 1) := by decide +kernel
theorem dX12_feed_38 : decode cX12_feed 38 = .ok (.dup, 1) := by decide +kernel
theorem dX12_feed_39 : decode cX12_feed 39 = .ok (.getfield 86, 3) := by decide +kernel
theorem dX12_feed_42 : decode cX12_feed 42 = .ok (.iconst 1, 1) := by decide +kernel
theorem dX12_feed_43 : decode cX12_feed 43 = .ok (.iadd, 1) := by decide +kernel
theorem dX12_feed_44 : decode cX12_feed 44 = .ok (.putfield 86, 3) := by decide +kernel
theorem dX12_feed_47 : decode cX12_feed 47 = .ok (.aload_n 0, 1) := by decide +kernel
theorem dX12_feed_48 : decode cX12_feed 48 = .ok (.getfield 86, 3) := by decide +kernel
theorem dX12_feed_51 : decode cX12_feed 51 = .ok (.ireturn, 1) := by decide +kernel
theorem dX12_nextToken_0 : decode cX12_nextToken 0 = .ok (.aload_n 0, 1) := by decide +kernel
theorem dX12_nextToken_1 : decode cX12_nextToken 1 = .ok (.getfield 90, 3) := by decide +kernel
theorem dX12_nextToken_4 : decode cX12_nextToken 4 = .ok (.aload_n 0, 1) := by decide +kernel
theorem dX12_nextToken_5 : decode cX12_nextToken 5 = .ok (.getfield 86, 3) := by decide +kernel
theorem dX12_nextToken_8 : decode cX12_nextToken 8 = .ok (.if_icmp .ge 30, 3) := by decide +kernel
theorem dX12_nextToken_11 : decode cX12_nextToken 11 = .ok (.aload_n 0, 1) := by decide +kernel
theorem dX12_nextToken_12 : decode cX12_nextToken 12 = .ok (.getfield 7, 3) := by decide +kernel
theorem dX12_nextToken_15 : decode cX12_nextToken 15 = .ok (.aload_n 0, 1) := by decide +kernel
theorem dX12_nextToken_16 : decode cX12_nextToken 16 = .ok (.getfield 90, 3) := by decide +kernel
theorem dX12_nextToken_19 : decode cX12_nextToken 19 = .ok (.iaload, 1) := by decide +kernel
theorem dX12_nextToken_20 : decode cX12_nextToken 20 = .ok (.bipush 32, 2) := by decide +kernel
theorem dX12_nextToken_22 : decode cX12_nextToken 22 = .ok (.if_icmp .ne 16, 3) := by decide +kernel
theorem dX12_nextToken_25 : decode cX12_nextToken 25 = .ok (.aload_n 0, 1) := by decide +kernel
theorem dX12_nextToken_26 : decode cX12_nextToken 26 = .ok (.dup, 1) := by decide +kernel
theorem dX12_nextToken_27 : decode cX12_nextToken 27 = .ok (.getfield 90, 3) := by decide +kernel
theorem dX12_nextToken_30 : decode cX12_nextToken 30 = .ok (.iconst 1, 1) := by decide +kernel
theorem dX12_nextToken_31 : decode cX12_nextToken 31 = .ok (.iadd, 1) := by decide +kernel
theorem dX12_nextToken_32 : decode cX12_nextToken 32 = .ok (.putfield 90, 3) := by decide +kernel
theorem dX12_nextToken_35 : decode cX12_nextToken 35 = .ok (.goto (-35), 3) := by decide +kernel
theorem dX12_nextToken_38 : decode cX12_nextToken 38 = .ok (.aload_n 0, 1) := by decide +kernel
theorem dX12_nextToken_39 : decode cX12_nextToken 39 = .ok (.aload_n 0, 1) := by decide +kernel
theorem dX12_nextToken_40 : decode cX12_nextToken 40 = .ok (.getfield 90, 3) := by decide +kernel
theorem dX12_nextToken_43 : decode cX12_nextToken 43 = .ok (.putfield 93, 3) := by decide +kernel
theorem dX12_nextToken_46 : decode cX12_nextToken 46 = .ok (.aload_n 0, 1) := by decide +kernel
theorem dX12_nextToken_47 : decode cX12_nextToken 47 = .ok (.iconst 0, 1) := by decide +kernel
theorem dX12_nextToken_48 : decode cX12_nextToken 48 = .ok (.putfield 96, 3) := by decide +kernel
theorem dX12_nextToken_51 : decode cX12_nextToken 51 = .ok (.aload_n 0, 1) := by decide +kernel
theorem dX12_nextToken_52 : decode cX12_nextToken 52 = .ok (.getfield 90, 3) := by decide +kernel
theorem dX12_nextToken_55 : decode cX12_nextToken 55 = .ok (.aload_n 0, 1) := by decide +kernel
theorem dX12_nextToken_56 : decode cX12_nextToken 56 = .ok (.getfield 86, 3) := by decide +kernel
theorem dX12_nextToken_59 : decode cX12_nextToken 59 = .ok (.if_icmp .ne 12, 3) := by decide +kernel
theorem dX12_nextToken_62 : decode cX12_nextToken 62 = .ok (.aload_n 0, 1) := by decide +kernel
theorem dX12_nextToken_63 : decode cX12_nextToken 63 = .ok (.bipush (-2), 2) := by decide +kernel
theorem dX12_nextToken_65 : decode cX12_nextToken 65 = .ok (.putfield 99, 3) := by decide +kernel
theorem dX12_nextToken_68 : decode cX12_nextToken 68 = .ok (.goto 158, 3) := by decide +kernel
theorem dX12_nextToken_71 : decode cX12_nextToken 71 = .ok (.aload_n 0, 1) := by decide +kernel
theorem dX12_nextToken_72 : decode cX12_nextToken 72 = .ok (.getfield 7, 3) := by decide +kernel
theorem dX12_nextToken_75 : decode cX12_nextToken 75 = .ok (.aload_n 0, 1) := by decide +kernel
theorem dX12_nextToken_76 : decode cX12_nextToken 76 = .ok (.getfield 90, 3) := by decide +kernel
theorem dX12_nextToken_79 : decode cX12_nextToken 79 = .ok (.iaload, 1) := by decide +kernel
theorem dX12_nextToken_80 : decode cX12_nextToken 80 = .ok (.bipush 48, 2) := by decide +kernel
theorem dX12_nextToken_82 : decode cX12_nextToken 82 = .ok (.bipush 57, 2) := by decide +kernel
theorem dX12_nextToken_84 : decode cX12_nextToken 84 = .ok (.invokestatic 72, 3) := by decide +kernel
theorem dX12_nextToken_87 : decode cX12_nextToken 87 = .ok (.ifCond .eq 116, 3) := by decide +kernel
theorem dX12_nextToken_90 : decode cX12_nextToken 90 = .ok (.aload_n 0, 1) := by decide +kernel
theorem dX12_nextToken_91 : decode cX12_nextToken 91 = .ok (.getfield 90, 3) := by decide +kernel
theorem dX12_nextToken_94 : decode cX12_nextToken 94 = .ok (.aload_n 0, 1) := by decide +kernel
theorem dX12_nextToken_95 : decode cX12_nextToken 95 = .ok (.getfield 86, 3) := by decide +kernel
theorem dX12_nextToken_98 : decode cX12_nextToken 98 = .ok (.if_icmp .ge 79, 3) := by decide +kernel
theorem dX12_nextToken_101 : decode cX12_nextToken 101 = .ok (.aload_n 0, 1) := by decide +kernel
theorem dX12_nextToken_102 : decode cX12_nextToken 102 = .ok (.getfield 7, 3) := by decide +kernel
theorem dX12_nextToken_105 : decode cX12_nextToken 105 = .ok (.aload_n 0, 1) := by decide +kernel
theorem dX12_nextToken_106 : decode cX12_nextToken 106 = .ok (.getfield 90, 3) := by decide +kernel
theorem dX12_nextToken_109 : decode cX12_nextToken 109 = .ok (.iaload, 1) := by decide +kernel
theorem dX12_nextToken_110 : decode cX12_nextToken 110 = .ok (.bipush 48, 2) := by decide +kernel
theorem dX12_nextToken_112 : decode cX12_nextToken 112 = .ok (.bipush 57, 2) := by decide +kernel
theorem dX12_nextToken_114 : decode cX12_nextToken 114 = .ok (.invokestatic 72, 3) := by decide +kernel
theorem dX12_nextToken_117 : decode cX12_nextToken 117 = .ok (.ifCond .eq 60, 3) := by decide +kernel
theorem dX12_nextToken_120 : decode cX12_nextToken 120 = .ok (.aload_n 0, 1) := by decide +kernel
theorem dX12_nextToken_121 : decode cX12_nextToken 121 = .ok (.aload_n 0, 1) := by decide +kernel
theorem dX12_nextToken_122 : decode cX12_nextToken 122 = .ok (.getfield 90, 3) := by decide +kernel
theorem dX12_nextToken_125 : decode cX12_nextToken 125 = .ok (.aload_n 0, 1) := by decide +kernel
theorem dX12_nextToken_126 : decode cX12_nextToken 126 = .ok (.getfield 93, 3) := by decide +kernel
theorem dX12_nextToken_129 : decode cX12_nextToken 129 = .ok (.isub, 1) := by decide +kernel
theorem dX12_nextToken_130 : decode cX12_nextToken 130 = .ok (.iconst 3, 1) := by decide +kernel
theorem dX12_nextToken_131 : decode cX12_nextToken 131 = .ok (.if_icmp .ge 26, 3) := by decide +kernel
theorem dX12_nextToken_134 : decode cX12_nextToken 134 = .ok (.bipush 10, 2) := by decide +kernel
theorem dX12_nextToken_136 : decode cX12_nextToken 136 = .ok (.aload_n 0, 1) := by decide +kernel
theorem dX12_nextToken_137 : decode cX12_nextToken 137 = .ok (.getfield 96, 3) := by decide +kernel
theorem dX12_nextToken_140 : decode cX12_nextToken 140 = .ok (.imul, 1) := by decide +kernel
theorem dX12_nextToken_141 : decode cX12_nextToken 141 = .ok (.aload_n 0, 1) := by decide +kernel
theorem dX12_nextToken_142 : decode cX12_nextToken 142 = .ok (.getfield 7, 3) := by decide +kernel
theorem dX12_nextToken_145 : decode cX12_nextToken 145 = .ok (.aload_n 0, 1) := by decide +kernel
theorem dX12_nextToken_146 : decode cX12_nextToken 146 = .ok (.getfield 90, 3) := by decide +kernel
theorem dX12_nextToken_149 : decode cX12_nextToken 149 = .ok (.iaload, 1) := by decide +kernel
theorem dX12_nextToken_150 : decode cX12_nextToken 150 = .ok (.iadd, 1) := by decide +kernel
theorem dX12_nextToken_151 : decode cX12_nextToken 151 = .ok (.bipush 48, 2) := by decide +kernel
theorem dX12_nextToken_153 : decode cX12_nextToken 153 = .ok (.isub, 1) := by decide +kernel
theorem dX12_nextToken_154 : decode cX12_nextToken 154 = .ok (.goto 7, 3) := by decide +kernel
theorem dX12_nextToken_157 : decode cX12_nextToken 157 = .ok (.aload_n 0, 1) := by decide +kernel
theorem dX12_nextToken_158 : decode cX12_nextToken 158 = .ok (.getfield 96, 3) := by decide +kernel
theorem dX12_nextToken_161 : decode cX12_nextToken 161 = .ok (.putfield 96, 3) := by decide +kernel
theorem dX12_nextToken_164 : decode cX12_nextToken 164 = .ok (.aload_n 0, 1) := by decide +kernel
theorem dX12_nextToken_165 : decode cX12_nextToken 165 = .ok (.dup, 1) := by decide +kernel
theorem dX12_nextToken_166 : decode cX12_nextToken 166 = .ok (.getfield 90, 3) := by decide +kernel
