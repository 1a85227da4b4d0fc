theorem dX10_init_0 : decode cX10_init 0 = .ok (.aload_n 0, 1) := by decide +kernel
theorem dX10_init_1 : decode cX10_init 1 = .ok (.invokespecial 3, 3) := by decide +kernel
theorem dX10_init_4 : decode cX10_init 4 = .ok (.aload_n 0, 1) := by decide +kernel
theorem dX10_init_5 : decode cX10_init 5 = .ok (.new 9, 3) := by decide +kernel
theorem dX10_init_8 : decode cX10_init 8 = .ok (.dup, 1) := by decide +kernel
theorem dX10_init_9 : decode cX10_init 9 = .ok (.invokespecial 11, 3) := by decide +kernel
theorem dX10_init_12 : decode cX10_init 12 = .ok (.putfield 12, 3) := by decide +kernel
theorem dX10_init_15 : decode cX10_init 15 = .ok (.aload_n 0, 1) := by decide +kernel
theorem dX10_init_16 : decode cX10_init 16 = .ok (.new 16, 3) := by decide +kernel
theorem dX10_init_19 : decode cX10_init 19 = .ok (.dup, 1) := by decide +kernel
theorem dX10_init_20 : decode cX10_init 20 = .ok (.invokespecial 18, 3) := by decide +kernel
theorem dX10_init_23 : decode cX10_init 23 = .ok (.putfield 19, 3) := by decide +kernel
theorem dX10_init_26 : decode cX10_init 26 = .ok (.aload_n 0, 1) := by decide +kernel
theorem dX10_init_27 : decode cX10_init 27 = .ok (.new 9, 3) := by decide +kernel
theorem dX10_init_30 : decode cX10_init 30 = .ok (.dup, 1) := by decide +kernel
theorem dX10_init_31 : decode cX10_init 31 = .ok (.invokespecial 11, 3) := by decide +kernel
theorem dX10_init_34 : decode cX10_init 34 = .ok (.putfield 23, 3) := by decide +kernel
theorem dX10_init_37 : decode cX10_init 37 = .ok (.aload_n 0, 1) := by decide +kernel
theorem dX10_init_38 : decode cX10_init 38 = .ok (.new 26, 3) := by decide +kernel
theorem dX10_init_41 : decode cX10_init 41 = .ok (.dup, 1) := by decide +kernel
theorem dX10_init_42 : decode cX10_init 42 = .ok (.invokespecial 28, 3) := by decide +kernel
theorem dX10_init_45 : decode cX10_init 45 = .ok (.putfield 29, 3) := by decide +kernel
theorem dX10_init_48 : decode cX10_init 48 = .ok (.aload_n 0, 1) := by decide +kernel
theorem dX10_init_49 : decode cX10_init 49 = .ok (.new 33, 3) := by decide +kernel
theorem dX10_init_52 : decode cX10_init 52 = .ok (.dup, 1) := by decide +kernel
theorem dX10_init_53 : decode cX10_init 53 = .ok (.invokespecial 35, 3) := by decide +kernel
theorem dX10_init_56 : decode cX10_init 56 = .ok (.putfield 36, 3) := by decide +kernel
theorem dX10_init_59 : decode cX10_init 59 = .ok (.aload_n 0, 1) := by decide +kernel
theorem dX10_init_60 : decode cX10_init 60 = .ok (.new 40, 3) := by decide +kernel
theorem dX10_init_63 : decode cX10_init 63 = .ok (.dup, 1) := by decide +kernel
theorem dX10_init_64 : decode cX10_init 64 = .ok (.invokespecial 42, 3) := by decide +kernel
theorem dX10_init_67 : decode cX10_init 67 = .ok (.putfield 43, 3) := by decide +kernel
theorem dX10_init_70 : decode cX10_init 70 = .ok (.aload_n 0, 1) := by decide +kernel
theorem dX10_init_71 : decode cX10_init 71 = .ok (.new 47, 3) := by decide +kernel
theorem dX10_init_74 : decode cX10_init 74 = .ok (.dup, 1) := by decide +kernel
theorem dX10_init_75 : decode cX10_init 75 = .ok (.invokespecial 49, 3) := by decide +kernel
theorem dX10_init_78 : decode cX10_init 78 = .ok (.putfield 50, 3) := by decide +kernel
theorem dX10_init_81 : decode cX10_init 81 = .ok (.aload_n 0, 1) := by decide +kernel
theorem dX10_init_82 : decode cX10_init 82 = .ok (.new 47, 3) := by decide +kernel
theorem dX10_init_85 : decode cX10_init 85 = .ok (.dup, 1) := by decide +kernel
theorem dX10_init_86 : decode cX10_init 86 = .ok (.invokespecial 49, 3) := by decide +kernel
theorem dX10_init_89 : decode cX10_init 89 = .ok (.putfield 54, 3) := by decide +kernel
theorem dX10_init_92 : decode cX10_init 92 = .ok (.aload_n 0, 1) := by decide +kernel
theorem dX10_init_93 : decode cX10_init 93 = .ok (.iconst 3, 1) := by decide +kernel
theorem dX10_init_94 : decode cX10_init 94 = .ok (.anewarray 9, 3) := by decide +kernel
theorem dX10_init_97 : decode cX10_init 97 = .ok (.putfield 57, 3) := by decide +kernel
theorem dX10_init_100 : decode cX10_init 100 = .ok (.aload_n 0, 1) := by decide +kernel
theorem dX10_init_101 : decode cX10_init 101 = .ok (.iconst 3, 1) := by decide +kernel
theorem dX10_init_102 : decode cX10_init 102 = .ok (.anewarray 16, 3) := by decide +kernel
theorem dX10_init_105 : decode cX10_init 105 = .ok (.putfield 61, 3) := by decide +kernel
theorem dX10_init_108 : decode cX10_init 108 = .ok (.aload_n 0, 1) := by decide +kernel
theorem dX10_init_109 : decode cX10_init 109 = .ok (.iconst 4, 1) := by decide +kernel
theorem dX10_init_110 : decode cX10_init 110 = .ok (.anewarray 65, 3) := by decide +kernel
theorem dX10_init_113 : decode cX10_init 113 = .ok (.putfield 67, 3) := by decide +kernel
theorem dX10_init_116 : decode cX10_init 116 = .ok (.aload_n 0, 1) := by decide +kernel
theorem dX10_init_117 : decode cX10_init 117 = .ok (.sipush 900, 3) := by decide +kernel
theorem dX10_init_120 : decode cX10_init 120 = .ok (.newarray .byte, 2) := by decide +kernel
theorem dX10_init_122 : decode cX10_init 122 = .ok (.putfield 71, 3) := by decide +kernel
theorem dX10_init_125 : decode cX10_init 125 = .ok (.aload_n 0, 1) := by decide +kernel
theorem dX10_init_126 : decode cX10_init 126 = .ok (.iconst 0, 1) := by decide +kernel
theorem dX10_init_127 : decode cX10_init 127 = .ok (.putfield 75, 3) := by decide +kernel
theorem dX10_init_130 : decode cX10_init 130 = .ok (.aload_n 0, 1) := by decide +kernel
theorem dX10_init_131 : decode cX10_init 131 = .ok (.lconst 1, 1) := by decide +kernel
theorem dX10_init_132 : decode cX10_init 132 = .ok (.putfield 79, 3) := by decide +kernel
theorem dX10_init_135 : decode cX10_init 135 = .ok (.aload_n 0, 1) := by decide +kernel
theorem dX10_init_136 : decode cX10_init 136 = .ok (.iconst (-1), 1) := by decide +kernel
theorem dX10_init_137 : decode cX10_init 137 = .ok (.putfield 83, 3) := by decide +kernel
theorem dX10_init_140 : decode cX10_init 140 = .ok (.aload_n 0, 1) := by decide +kernel
theorem dX10_init_141 : decode cX10_init 141 = .ok (.iconst (-1), 1) := by decide +kernel
theorem dX10_init_142 : decode cX10_init 142 = .ok (.putfield 86, 3) := by decide +kernel
theorem dX10_init_145 : decode cX10_init 145 = .ok (.iconst 0, 1) := by decide +kernel
theorem dX10_init_146 : decode cX10_init 146 = .ok (.istore_n 1, 1) := by decide +kernel
theorem dX10_init_147 : decode cX10_init 147 = .ok (.iload_n 1, 1) := by decide +kernel
theorem dX10_init_148 : decode cX10_init 148 = .ok (.iconst 3, 1) := by decide +kernel
theorem dX10_init_149 : decode cX10_init 149 = .ok (.if_icmp .ge 35, 3) := by decide +kernel
theorem dX10_init_152 : decode cX10_init 152 = .ok (.aload_n 0, 1) := by decide +kernel
theorem dX10_init_153 : decode cX10_init 153 = .ok (.getfield 57, 3) := by decide +kernel
theorem dX10_init_156 : decode cX10_init 156 = .ok (.iload_n 1, 1) := by decide +kernel
theorem dX10_init_157 : decode cX10_init 157 = .ok (.new 9, 3) := by decide +kernel
theorem dX10_init_160 : decode cX10_init 160 = .ok (.dup, 1) := by decide +kernel
theorem dX10_init_161 : decode cX10_init 161 = .ok (.invokespecial 11, 3) := by decide +kernel
theorem dX10_init_164 : decode cX10_init 164 = .ok (.aastore, 1) := by decide +kernel
theorem dX10_init_165 : decode cX10_init 165 = .ok (.aload_n 0, 1) := by decide +kernel
theorem dX10_init_166 : decode cX10_init 166 = .ok (.getfield 61, 3) := by decide +kernel
theorem dX10_init_169 : decode cX10_init 169 = .ok (.iload_n 1, 1) := by decide +kernel
theorem dX10_init_170 : decode cX10_init 170 = .ok (.new 16, 3) := by decide +kernel
theorem dX10_init_173 : decode cX10_init 173 = .ok (.dup, 1) := by decide +kernel
theorem dX10_init_174 : decode cX10_init 174 = .ok (.invokespecial 18, 3) := by decide +kernel
theorem dX10_init_177 : decode cX10_init 177 = .ok (.aastore, 1) := by decide +kernel
theorem dX10_init_178 : decode cX10_init 178 = .ok (.iinc 1 1, 3) := by decide +kernel
theorem dX10_init_181 : decode cX10_init 181 = .ok (.goto (-34), 3) := by decide +kernel
theorem dX10_init_184 : decode cX10_init 184 = .ok (.iconst 0, 1) := by decide +kernel
theorem dX10_init_185 : decode cX10_init 185 = .ok (.istore_n 1, 1) := by decide +kernel
theorem dX10_init_186 : decode cX10_init 186 = .ok (.iload_n 1, 1) := by decide +kernel
theorem dX10_init_187 : decode cX10_init 187 = .ok (.iconst 4, 1) := by decide +kernel
theorem dX10_init_188 : decode cX10_init 188 = .ok (.if_icmp .ge 22, 3) := by decide +kernel
theorem dX10_init_191 : decode cX10_init 191 = .ok (.aload_n 0, 1) := by decide +kernel
theorem dX10_init_192 : decode cX10_init 192 = .ok (.getfield 67, 3) := by decide +kernel
theorem dX10_init_195 : decode cX10_init 195 = .ok (.iload_n 1, 1) := by decide +kernel
theorem dX10_init_196 : decode cX10_init 196 = .ok (.new 65, 3) := by decide +kernel
theorem dX10_init_199 : decode cX10_init 199 = .ok (.dup, 1) := by decide +kernel
theorem dX10_init_200 : decode cX10_init 200 = .ok (.invokespecial 89, 3) := by decide +kernel
theorem dX10_init_203 : decode cX10_init 203 = .ok (.aastore, 1) := by decide +kernel
theorem dX10_init_204 : decode cX10_init 204 = .ok (.iinc 1 1, 3) := by decide +kernel
theorem dX10_init_207 : decode cX10_init 207 = .ok (.goto (-21), 3) := by decide +kernel
theorem dX10_init_210 : decode cX10_init 210 = .ok (.return_, 1) := by decide +kernel
theorem dX10_fine_0 : decode cX10_fine 0 = .ok (.aload_n 0, 1) := by decide +kernel
theorem dX10_fine_1 : decode cX10_fine 1 = .ok (.iconst 0, 1) := by decide +kernel
theorem dX10_fine_2 : decode cX10_fine 2 = .ok (.putfield 75, 3) := by decide +kernel
theorem dX10_fine_5 : decode cX10_fine 5 = .ok (.iload_n 1, 1) := by decide +kernel
theorem dX10_fine_6 : decode cX10_fine 6 = .ok (.ireturn, 1) := by decide +kernel
theorem dX10_none_0 : decode cX10_none 0 = .ok (.aload_n 0, 1) := by decide +kernel
theorem dX10_none_1 : decode cX10_none 1 = .ok (.iload_n 1, 1) := by decide +kernel
theorem dX10_none_2 : decode cX10_none 2 = .ok (.putfield 75, 3) := by decide +kernel
theorem dX10_none_5 : decode cX10_none 5 = .ok (.iconst (-1), 1) := by decide +kernel
theorem dX10_none_6 : decode cX10_none 6 = .ok (.ireturn, 1) := by decide +kernel
theorem dX10_done_0 : decode cX10_done 0 = .ok (.aload_n 0, 1) := by decide +kernel
theorem dX10_done_1 : decode cX10_done 1 = .ok (.iconst 0, 1) := by decide +kernel
theorem dX10_done_2 : decode cX10_done 2 = .ok (.putfield 75, 3) := by decide +kernel
theorem dX10_done_5 : decode cX10_done 5 = .ok (.iconst 1, 1) := by decide +kernel
theorem dX10_done_6 : decode cX10_done 6 = .ok (.ireturn, 1) := by decide +kernel
theorem dX10_refused_0 : decode cX10_refused 0 = .ok (.aload_n 0, 1) := by decide +kernel
theorem dX10_refused_1 : decode cX10_refused 1 = .ok (.iload_n 1, 1) := by decide +kernel
theorem dX10_refused_2 : decode cX10_refused 2 = .ok (.putfield 75, 3) := by decide +kernel
theorem dX10_refused_5 : decode cX10_refused 5 = .ok (.iconst 0, 1) := by decide +kernel
theorem dX10_refused_6 : decode cX10_refused 6 = .ok (.ireturn, 1) := by decide +kernel
theorem dX10_isRoom_0 : decode cX10_isRoom 0 = .ok (.iload_n 1, 1) := by decide +kernel
theorem dX10_isRoom_1 : decode cX10_isRoom 1 = .ok (.ifCond .lt 21, 3) := by decide +kernel
theorem dX10_isRoom_4 : decode cX10_isRoom 4 = .ok (.iload_n 1, 1) := by decide +kernel
theorem dX10_isRoom_5 : decode cX10_isRoom 5 = .ok (.aload_n 0, 1) := by decide +kernel
theorem dX10_isRoom_6 : decode cX10_isRoom 6 = .ok (.getfield 12, 3) := by decide +kernel
theorem dX10_isRoom_9 : decode cX10_isRoom 9 = .ok (.getfield 90, 3) := by decide +kernel
theorem dX10_isRoom_12 : decode cX10_isRoom 12 = .ok (.getfield 94, 3) := by decide +kernel
theorem dX10_isRoom_15 : decode cX10_isRoom 15 = .ok (.if_icmp .ge 7, 3) := by decide +kernel
theorem dX10_isRoom_18 : decode cX10_isRoom 18 = .ok (.iconst 1, 1) := by decide +kernel
theorem dX10_isRoom_19 : decode cX10_isRoom 19 = .ok (.goto 4, 3) := by decide +kernel
theorem dX10_isRoom_22 : decode cX10_isRoom 22 = .ok (.iconst 0, 1) := by decide +kernel
theorem dX10_isRoom_23 : decode cX10_isRoom 23 = .ok (.ireturn, 1) := by decide +kernel
theorem dX10_isDoor_0 : decode cX10_isDoor 0 = .ok (.iload_n 1, 1) := by decide +kernel
theorem dX10_isDoor_1 : decode cX10_isDoor 1 = .ok (.ifCond .lt 21, 3) := by decide +kernel
theorem dX10_isDoor_4 : decode cX10_isDoor 4 = .ok (.iload_n 1, 1) := by decide +kernel
theorem dX10_isDoor_5 : decode cX10_isDoor 5 = .ok (.aload_n 0, 1) := by decide +kernel
theorem dX10_isDoor_6 : decode cX10_isDoor 6 = .ok (.getfield 12, 3) := by decide +kernel
theorem dX10_isDoor_9 : decode cX10_isDoor 9 = .ok (.getfield 99, 3) := by decide +kernel
theorem dX10_isDoor_12 : decode cX10_isDoor 12 = .ok (.getfield 103, 3) := by decide +kernel
theorem dX10_isDoor_15 : decode cX10_isDoor 15 = .ok (.if_icmp .ge 7, 3) := by decide +kernel
theorem dX10_isDoor_18 : decode cX10_isDoor 18 = .ok (.iconst 1, 1) := by decide +kernel
theorem dX10_isDoor_19 : decode cX10_isDoor 19 = .ok (.goto 4, 3) := by decide +kernel
theorem dX10_isDoor_22 : decode cX10_isDoor 22 = .ok (.iconst 0, 1) := by decide +kernel
theorem dX10_isDoor_23 : decode cX10_isDoor 23 = .ok (.ireturn, 1) := by decide +kernel
theorem dX10_isHourOfDay_0 : decode cX10_isHourOfDay 0 = .ok (.iload_n 0, 1) := by decide +kernel
theorem dX10_isHourOfDay_1 : decode cX10_isHourOfDay 1 = .ok (.ifCond .lt 13, 3) := by decide +kernel
theorem dX10_isHourOfDay_4 : decode cX10_isHourOfDay 4 = .ok (.iload_n 0, 1) := by decide +kernel
theorem dX10_isHourOfDay_5 : decode cX10_isHourOfDay 5 = .ok (.bipush 12, 2) := by decide +kernel
theorem dX10_isHourOfDay_7 : decode cX10_isHourOfDay 7 = .ok (.if_icmp .ge 7, 3) := by decide +kernel
theorem dX10_isHourOfDay_10 : decode cX10_isHourOfDay 10 = .ok (.iconst 1, 1) := by decide +kernel
theorem dX10_isHourOfDay_11 : decode cX10_isHourOfDay 11 = .ok (.goto 4, 3) := by decide +kernel
theorem dX10_isHourOfDay_14 : decode cX10_isHourOfDay 14 = .ok (.iconst 0, 1) := by decide +kernel
theorem dX10_isHourOfDay_15 : decode cX10_isHourOfDay 15 = .ok (.ireturn, 1) := by decide +kernel
theorem dX10_isWithin_0 : decode cX10_isWithin 0 = .ok (.iload_n 0, 1) := by decide +kernel
theorem dX10_isWithin_1 : decode cX10_isWithin 1 = .ok (.iload_n 1, 1) := by decide +kernel
theorem dX10_isWithin_2 : decode cX10_isWithin 2 = .ok (.if_icmp .lt 12, 3) := by decide +kernel
theorem dX10_isWithin_5 : decode cX10_isWithin 5 = .ok (.iload_n 0, 1) := by decide +kernel
theorem dX10_isWithin_6 : decode cX10_isWithin 6 = .ok (.iload_n 2, 1) := by decide +kernel
theorem dX10_isWithin_7 : decode cX10_isWithin 7 = .ok (.if_icmp .gt 7, 3) := by decide +kernel
theorem dX10_isWithin_10 : decode cX10_isWithin 10 = .ok (.iconst 1, 1) := by decide +kernel
theorem dX10_isWithin_11 : decode cX10_isWithin 11 = .ok (.goto 4, 3) := by decide +kernel
theorem dX10_isWithin_14 : decode cX10_isWithin 14 = .ok (.iconst 0, 1) := by decide +kernel
theorem dX10_isWithin_15 : decode cX10_isWithin 15 = .ok (.ireturn, 1) := by decide +kernel
theorem dX10_status_0 : decode cX10_status 0 = .ok (.aload_n 0, 1) := by decide +kernel
theorem dX10_status_1 : decode cX10_status 1 = .ok (.getfield 75, 3) := by decide +kernel
theorem dX10_status_4 : decode cX10_status 4 = .ok (.ireturn, 1) := by decide +kernel
theorem dX10_top_0 : decode cX10_top 0 = .ok (.aload_n 0, 1) := by decide +kernel
theorem dX10_top_1 : decode cX10_top 1 = .ok (.getfield 106, 3) := by decide +kernel
theorem dX10_top_4 : decode cX10_top 4 = .ok (.lreturn, 1) := by decide +kernel
theorem dX10_bottom_0 : decode cX10_bottom 0 = .ok (.aload_n 0, 1) := by decide +kernel
theorem dX10_bottom_1 : decode cX10_bottom 1 = .ok (.getfield 79, 3) := by decide +kernel
theorem dX10_bottom_4 : decode cX10_bottom 4 = .ok (.lreturn, 1) := by decide +kernel
theorem dX10_tellFraction_0 : decode cX10_tellFraction 0 = .ok (.lload_n 1, 1) := by decide +kernel
theorem dX10_tellFraction_1 : decode cX10_tellFraction 1 = .ok (.lconst 0, 1) := by decide +kernel
theorem dX10_tellFraction_2 : decode cX10_tellFraction 2 = .ok (.lcmp, 1) := by decide +kernel
theorem dX10_tellFraction_3 : decode cX10_tellFraction 3 = .ok (.ifCond .ge 8, 3) := by decide +kernel
theorem dX10_tellFraction_6 : decode cX10_tellFraction 6 = .ok (.lload_n 1, 1) := by decide +kernel
theorem dX10_tellFraction_7 : decode cX10_tellFraction 7 = .ok (.lneg, 1) := by decide +kernel
theorem dX10_tellFraction_8 : decode cX10_tellFraction 8 = .ok (.goto 4, 3) := by decide +kernel
theorem dX10_tellFraction_11 : decode cX10_tellFraction 11 = .ok (.lload_n 1, 1) := by decide +kernel
theorem dX10_tellFraction_12 : decode cX10_tellFraction 12 = .ok (.lload_n 3, 1) := by decide +kernel
theorem dX10_tellFraction_13 : decode cX10_tellFraction 13 = .ok (.invokestatic 109, 3) := by decide +kernel
theorem dX10_tellFraction_16 : decode cX10_tellFraction 16 = .ok (.lstore 5, 2) := by decide +kernel
theorem dX10_tellFraction_18 : decode cX10_tellFraction 18 = .ok (.lload 5, 2) := by decide +kernel
theorem dX10_tellFraction_20 : decode cX10_tellFraction 20 = .ok (.lconst 1, 1) := by decide +kernel
theorem dX10_tellFraction_21 : decode cX10_tellFraction 21 = .ok (.lcmp, 1) := by decide +kernel
theorem dX10_tellFraction_22 : decode cX10_tellFraction 22 = .ok (.ifCond .ge 6, 3) := by decide +kernel
theorem dX10_tellFraction_25 : decode cX10_tellFraction 25 = .ok (.lconst 1, 1) := by decide +kernel
theorem dX10_tellFraction_26 : decode cX10_tellFraction 26 = .ok (.lstore 5, 2) := by decide +kernel
theorem dX10_tellFraction_28 : decode cX10_tellFraction 28 = .ok (.aload_n 0, 1) := by decide +kernel
theorem dX10_tellFraction_29 : decode cX10_tellFraction 29 = .ok (.lload_n 1, 1) := by decide +kernel
theorem dX10_tellFraction_30 : decode cX10_tellFraction 30 = .ok (.lload 5, 2) := by decide +kernel
theorem dX10_tellFraction_32 : decode cX10_tellFraction 32 = .ok (.ldiv, 1) := by decide +kernel
theorem dX10_tellFraction_33 : decode cX10_tellFraction 33 = .ok (.putfield 106, 3) := by decide +kernel
theorem dX10_tellFraction_36 : decode cX10_tellFraction 36 = .ok (.aload_n 0, 1) := by decide +kernel
theorem dX10_tellFraction_37 : decode cX10_tellFraction 37 = .ok (.lload_n 3, 1) := by decide +kernel
theorem dX10_tellFraction_38 : decode cX10_tellFraction 38 = .ok (.lload 5, 2) := by decide +kernel
theorem dX10_tellFraction_40 : decode cX10_tellFraction 40 = .ok (.ldiv, 1) := by decide +kernel
theorem dX10_tellFraction_41 : decode cX10_tellFraction 41 = .ok (.putfield 79, 3) := by decide +kernel
theorem dX10_tellFraction_44 : decode cX10_tellFraction 44 = .ok (.return_, 1) := by decide +kernel
theorem dX10_commonDivisor_0 : decode cX10_commonDivisor 0 = .ok (.lload_n 0, 1) := by decide +kernel
theorem dX10_commonDivisor_1 : decode cX10_commonDivisor 1 = .ok (.lstore 4, 2) := by decide +kernel
theorem dX10_commonDivisor_3 : decode cX10_commonDivisor 3 = .ok (.lload_n 2, 1) := by decide +kernel
theorem dX10_commonDivisor_4 : decode cX10_commonDivisor 4 = .ok (.lstore 6, 2) := by decide +kernel
theorem dX10_commonDivisor_6 : decode cX10_commonDivisor 6 = .ok (.iconst 0, 1) := by decide +kernel
theorem dX10_commonDivisor_7 : decode cX10_commonDivisor 7 = .ok (.istore 8, 2) := by decide +kernel
theorem dX10_commonDivisor_9 : decode cX10_commonDivisor 9 = .ok (.iload 8, 2) := by decide +kernel
theorem dX10_commonDivisor_11 : decode cX10_commonDivisor 11 = .ok (.sipush 1000, 3) := by decide +kernel
theorem dX10_commonDivisor_14 : decode cX10_commonDivisor 14 = .ok (.if_icmp .ge 31, 3) := by decide +kernel
theorem dX10_commonDivisor_17 : decode cX10_commonDivisor 17 = .ok (.lload 6, 2) := by decide +kernel
theorem dX10_commonDivisor_19 : decode cX10_commonDivisor 19 = .ok (.lconst 0, 1) := by decide +kernel
theorem dX10_commonDivisor_20 : decode cX10_commonDivisor 20 = .ok (.lcmp, 1) := by decide +kernel
theorem dX10_commonDivisor_21 : decode cX10_commonDivisor 21 = .ok (.ifCond .eq 24, 3) := by decide +kernel
theorem dX10_commonDivisor_24 : decode cX10_commonDivisor 24 = .ok (.lload 4, 2) := by decide +kernel
theorem dX10_commonDivisor_26 : decode cX10_commonDivisor 26 = .ok (.lload 6, 2) := by decide +kernel
theorem dX10_commonDivisor_28 : decode cX10_commonDivisor 28 = .ok (.lrem, 1) := by decide +kernel
theorem dX10_commonDivisor_29 : decode cX10_commonDivisor 29 = .ok (.lstore 9, 2) := by decide +kernel
theorem dX10_commonDivisor_31 : decode cX10_commonDivisor 31 = .ok (.lload 6, 2) := by decide +kernel
theorem dX10_commonDivisor_33 : decode cX10_commonDivisor 33 = .ok (.lstore 4, 2) := by decide +kernel
theorem dX10_commonDivisor_35 : decode cX10_commonDivisor 35 = .ok (.lload 9, 2) := by decide +kernel
theorem dX10_commonDivisor_37 : decode cX10_commonDivisor 37 = .ok (.lstore 6, 2) := by decide +kernel
theorem dX10_commonDivisor_39 : decode cX10_commonDivisor 39 = .ok (.iinc 8 1, 3) := by decide +kernel
theorem dX10_commonDivisor_42 : decode cX10_commonDivisor 42 = .ok (.goto (-33), 3) := by decide +kernel
theorem dX10_commonDivisor_45 : decode cX10_commonDivisor 45 = .ok (.lload 4, 2) := by decide +kernel
theorem dX10_commonDivisor_47 : decode cX10_commonDivisor 47 = .ok (.lreturn, 1) := by decide +kernel
theorem dX10_trayAt_0 : decode cX10_trayAt 0 = .ok (.iload_n 1, 1) := by decide +kernel
theorem dX10_trayAt_1 : decode cX10_trayAt 1 = .ok (.ifCond .lt 17, 3) := by decide +kernel
theorem dX10_trayAt_4 : decode cX10_trayAt 4 = .ok (.iload_n 1, 1) := by decide +kernel
theorem dX10_trayAt_5 : decode cX10_trayAt 5 = .ok (.iconst 4, 1) := by decide +kernel
theorem dX10_trayAt_6 : decode cX10_trayAt 6 = .ok (.if_icmp .ge 12, 3) := by decide +kernel
theorem dX10_trayAt_9 : decode cX10_trayAt 9 = .ok (.aload_n 0, 1) := by decide +kernel
theorem dX10_trayAt_10 : decode cX10_trayAt 10 = .ok (.getfield 67, 3) := by decide +kernel
theorem dX10_trayAt_13 : decode cX10_trayAt 13 = .ok (.iload_n 1, 1) := by decide +kernel
theorem dX10_trayAt_14 : decode cX10_trayAt 14 = .ok (.aaload, 1) := by decide +kernel
theorem dX10_trayAt_15 : decode cX10_trayAt 15 = .ok (.goto 4, 3) := by decide +kernel
theorem dX10_trayAt_18 : decode cX10_trayAt 18 = .ok (.aconst_null, 1) := by decide +kernel
theorem dX10_trayAt_19 : decode cX10_trayAt 19 = .ok (.areturn, 1) := by decide +kernel
theorem dX10_tray_0 : decode cX10_tray 0 = .ok (.aload_n 0, 1) := by decide +kernel
theorem dX10_tray_1 : decode cX10_tray 1 = .ok (.iload_n 1, 1) := by decide +kernel
theorem dX10_tray_2 : decode cX10_tray 2 = .ok (.invokevirtual 113, 3) := by decide +kernel
theorem dX10_tray_5 : decode cX10_tray 5 = .ok (.astore 4, 2) := by decide +kernel
theorem dX10_tray_7 : decode cX10_tray 7 = .ok (.aload 4, 2) := by decide +kernel
theorem dX10_tray_9 : decode cX10_tray 9 = .ok (.ifnull 22, 3) := by decide +kernel
theorem dX10_tray_12 : decode cX10_tray 12 = .ok (.iload_n 2, 1) := by decide +kernel
theorem dX10_tray_13 : decode cX10_tray 13 = .ok (.iconst 0, 1) := by decide +kernel
theorem dX10_tray_14 : decode cX10_tray 14 = .ok (.iconst 3, 1) := by decide +kernel
theorem dX10_tray_15 : decode cX10_tray 15 = .ok (.invokestatic 117, 3) := by decide +kernel
theorem dX10_tray_18 : decode cX10_tray 18 = .ok (.ifCond .eq 13, 3) := by decide +kernel
theorem dX10_tray_21 : decode cX10_tray 21 = .ok (.iload_n 3, 1) := by decide +kernel
theorem dX10_tray_22 : decode cX10_tray 22 = .ok (.iconst 0, 1) := by decide +kernel
theorem dX10_tray_23 : decode cX10_tray 23 = .ok (.bipush 60, 2) := by decide +kernel
theorem dX10_tray_25 : decode cX10_tray 25 = .ok (.invokestatic 117, 3) := by decide +kernel
theorem dX10_tray_28 : decode cX10_tray 28 = .ok (.ifCond .ne 9, 3) := by decide +kernel
theorem dX10_tray_31 : decode cX10_tray 31 = .ok (.aload_n 0, 1) := by decide +kernel
theorem dX10_tray_32 : decode cX10_tray 32 = .ok (.iconst 1, 1) := by decide +kernel
theorem dX10_tray_33 : decode cX10_tray 33 = .ok (.invokevirtual 121, 3) := by decide +kernel
theorem dX10_tray_36 : decode cX10_tray 36 = .ok (.ireturn, 1) := by decide +kernel
theorem dX10_tray_37 : decode cX10_tray 37 = .ok (.aload 4, 2) := by decide +kernel
theorem dX10_tray_39 : decode cX10_tray 39 = .ok (.iload_n 2, 1) := by decide +kernel
theorem dX10_tray_40 : decode cX10_tray 40 = .ok (.iload_n 3, 1) := by decide +kernel
theorem dX10_tray_41 : decode cX10_tray 41 = .ok (.invokevirtual 125, 3) := by decide +kernel
theorem dX10_tray_44 : decode cX10_tray 44 = .ok (.aload_n 0, 1) := by decide +kernel
theorem dX10_tray_45 : decode cX10_tray 45 = .ok (.invokevirtual 129, 3) := by decide +kernel
theorem dX10_tray_48 : decode cX10_tray 48 = .ok (.ireturn, 1) := by decide +kernel
theorem dX10_write_0 : decode cX10_write 0 = .ok (.aload_n 0, 1) := by decide +kernel
theorem dX10_write_1 : decode cX10_write 1 = .ok (.iload_n 1, 1) := by decide +kernel
theorem dX10_write_2 : decode cX10_write 2 = .ok (.invokevirtual 113, 3) := by decide +kernel
theorem dX10_write_5 : decode cX10_write 5 = .ok (.astore 5, 2) := by decide +kernel
theorem dX10_write_7 : decode cX10_write 7 = .ok (.aload 5, 2) := by decide +kernel
theorem dX10_write_9 : decode cX10_write 9 = .ok (.ifnonnull 9, 3) := by decide +kernel
theorem dX10_write_12 : decode cX10_write 12 = .ok (.aload_n 0, 1) := by decide +kernel
theorem dX10_write_13 : decode cX10_write 13 = .ok (.iconst 1, 1) := by decide +kernel
theorem dX10_write_14 : decode cX10_write 14 = .ok (.invokevirtual 121, 3) := by decide +kernel
theorem dX10_write_17 : decode cX10_write 17 = .ok (.ireturn, 1) := by decide +kernel
theorem dX10_write_18 : decode cX10_write 18 = .ok (.aload 5, 2) := by decide +kernel
theorem dX10_write_20 : decode cX10_write 20 = .ok (.invokevirtual 133, 3) := by decide +kernel
theorem dX10_write_23 : decode cX10_write 23 = .ok (.ifCond .eq 9, 3) := by decide +kernel
theorem dX10_write_26 : decode cX10_write 26 = .ok (.aload_n 0, 1) := by decide +kernel
theorem dX10_write_27 : decode cX10_write 27 = .ok (.iconst 2, 1) := by decide +kernel
theorem dX10_write_28 : decode cX10_write 28 = .ok (.invokevirtual 121, 3) := by decide +kernel
theorem dX10_write_31 : decode cX10_write 31 = .ok (.ireturn, 1) := by decide +kernel
theorem dX10_write_32 : decode cX10_write 32 = .ok (.aload 5, 2) := by decide +kernel
theorem dX10_write_34 : decode cX10_write 34 = .ok (.iload_n 2, 1) := by decide +kernel
theorem dX10_write_35 : decode cX10_write 35 = .ok (.invokevirtual 136, 3) := by decide +kernel
theorem dX10_write_38 : decode cX10_write 38 = .ok (.ifCond .ne 9, 3) := by decide +kernel
theorem dX10_write_41 : decode cX10_write 41 = .ok (.aload_n 0, 1) := by decide +kernel
theorem dX10_write_42 : decode cX10_write 42 = .ok (.iconst 3, 1) := by decide +kernel
theorem dX10_write_43 : decode cX10_write 43 = .ok (.invokevirtual 121, 3) := by decide +kernel
theorem dX10_write_46 : decode cX10_write 46 = .ok (.ireturn, 1) := by decide +kernel
theorem dX10_write_47 : decode cX10_write 47 = .ok (.aload 5, 2) := by decide +kernel
theorem dX10_write_49 : decode cX10_write 49 = .ok (.iload_n 2, 1) := by decide +kernel
theorem dX10_write_50 : decode cX10_write 50 = .ok (.lload_n 3, 1) := by decide +kernel
theorem dX10_write_51 : decode cX10_write 51 = .ok (.invokevirtual 139, 3) := by decide +kernel
theorem dX10_write_54 : decode cX10_write 54 = .ok (.aload_n 0, 1) := by decide +kernel
theorem dX10_write_55 : decode cX10_write 55 = .ok (.invokevirtual 129, 3) := by decide +kernel
theorem dX10_write_58 : decode cX10_write 58 = .ok (.ireturn, 1) := by decide +kernel
theorem dX10_read_0 : decode cX10_read 0 = .ok (.aload_n 0, 1) := by decide +kernel
theorem dX10_read_1 : decode cX10_read 1 = .ok (.iload_n 1, 1) := by decide +kernel
theorem dX10_read_2 : decode cX10_read 2 = .ok (.invokevirtual 113, 3) := by decide +kernel
theorem dX10_read_5 : decode cX10_read 5 = .ok (.astore_n 3, 1) := by decide +kernel
theorem dX10_read_6 : decode cX10_read 6 = .ok (.aload_n 3, 1) := by decide +kernel
theorem dX10_read_7 : decode cX10_read 7 = .ok (.ifnonnull 10, 3) := by decide +kernel
theorem dX10_read_10 : decode cX10_read 10 = .ok (.aload_n 0, 1) := by decide +kernel
theorem dX10_read_11 : decode cX10_read 11 = .ok (.iconst 1, 1) := by decide +kernel
theorem dX10_read_12 : decode cX10_read 12 = .ok (.invokevirtual 143, 3) := by decide +kernel
theorem dX10_read_15 : decode cX10_read 15 = .ok (.i2l, 1) := by decide +kernel
theorem dX10_read_16 : decode cX10_read 16 = .ok (.lreturn, 1) := by decide +kernel
theorem dX10_read_17 : decode cX10_read 17 = .ok (.aload_n 3, 1) := by decide +kernel
theorem dX10_read_18 : decode cX10_read 18 = .ok (.invokevirtual 133, 3) := by decide +kernel
theorem dX10_read_21 : decode cX10_read 21 = .ok (.ifCond .eq 10, 3) := by decide +kernel
theorem dX10_read_24 : decode cX10_read 24 = .ok (.aload_n 0, 1) := by decide +kernel
theorem dX10_read_25 : decode cX10_read 25 = .ok (.iconst 2, 1) := by decide +kernel
theorem dX10_read_26 : decode cX10_read 26 = .ok (.invokevirtual 143, 3) := by decide +kernel
theorem dX10_read_29 : decode cX10_read 29 = .ok (.i2l, 1) := by decide +kernel
theorem dX10_read_30 : decode cX10_read 30 = .ok (.lreturn, 1) := by decide +kernel
theorem dX10_read_31 : decode cX10_read 31 = .ok (.aload_n 3, 1) := by decide +kernel
theorem dX10_read_32 : decode cX10_read 32 = .ok (.iload_n 2, 1) := by decide +kernel
theorem dX10_read_33 : decode cX10_read 33 = .ok (.invokevirtual 136, 3) := by decide +kernel
theorem dX10_read_36 : decode cX10_read 36 = .ok (.ifCond .ne 10, 3) := by decide +kernel
theorem dX10_read_39 : decode cX10_read 39 = .ok (.aload_n 0, 1) := by decide +kernel
theorem dX10_read_40 : decode cX10_read 40 = .ok (.iconst 3, 1) := by decide +kernel
theorem dX10_read_41 : decode cX10_read 41 = .ok (.invokevirtual 143, 3) := by decide +kernel
theorem dX10_read_44 : decode cX10_read 44 = .ok (.i2l, 1) := by decide +kernel
theorem dX10_read_45 : decode cX10_read 45 = .ok (.lreturn, 1) := by decide +kernel
theorem dX10_read_46 : decode cX10_read 46 = .ok (.aload_n 0, 1) := by decide +kernel
theorem dX10_read_47 : decode cX10_read 47 = .ok (.iconst 0, 1) := by decide +kernel
theorem dX10_read_48 : decode cX10_read 48 = .ok (.putfield 75, 3) := by decide +kernel
theorem dX10_read_51 : decode cX10_read 51 = .ok (.aload_n 3, 1) := by decide +kernel
theorem dX10_read_52 : decode cX10_read 52 = .ok (.iload_n 2, 1) := by decide +kernel
theorem dX10_read_53 : decode cX10_read 53 = .ok (.invokevirtual 147, 3) := by decide +kernel
theorem dX10_read_56 : decode cX10_read 56 = .ok (.lreturn, 1) := by decide +kernel
theorem dX10_pour_0 : decode cX10_pour 0 = .ok (.aload_n 0, 1) := by decide +kernel
theorem dX10_pour_1 : decode cX10_pour 1 = .ok (.iload_n 1, 1) := by decide +kernel
theorem dX10_pour_2 : decode cX10_pour 2 = .ok (.invokevirtual 113, 3) := by decide +kernel
theorem dX10_pour_5 : decode cX10_pour 5 = .ok (.astore 6, 2) := by decide +kernel
theorem dX10_pour_7 : decode cX10_pour 7 = .ok (.aload_n 0, 1) := by decide +kernel
theorem dX10_pour_8 : decode cX10_pour 8 = .ok (.iload_n 3, 1) := by decide +kernel
theorem dX10_pour_9 : decode cX10_pour 9 = .ok (.invokevirtual 113, 3) := by decide +kernel
theorem dX10_pour_12 : decode cX10_pour 12 = .ok (.astore 7, 2) := by decide +kernel
theorem dX10_pour_14 : decode cX10_pour 14 = .ok (.aload 6, 2) := by decide +kernel
theorem dX10_pour_16 : decode cX10_pour 16 = .ok (.ifnull 22, 3) := by decide +kernel
theorem dX10_pour_19 : decode cX10_pour 19 = .ok (.aload 7, 2) := by decide +kernel
theorem dX10_pour_21 : decode cX10_pour 21 = .ok (.ifnull 17, 3) := by decide +kernel
theorem dX10_pour_24 : decode cX10_pour 24 = .ok (.iload_n 2, 1) := by decide +kernel
theorem dX10_pour_25 : decode cX10_pour 25 = .ok (.ifCond .lt 13, 3) := by decide +kernel
theorem dX10_pour_28 : decode cX10_pour 28 = .ok (.iload 4, 2) := by decide +kernel
theorem dX10_pour_30 : decode cX10_pour 30 = .ok (.ifCond .lt 8, 3) := by decide +kernel
theorem dX10_pour_33 : decode cX10_pour 33 = .ok (.iload 5, 2) := by decide +kernel
theorem dX10_pour_35 : decode cX10_pour 35 = .ok (.ifCond .ge 9, 3) := by decide +kernel
theorem dX10_pour_38 : decode cX10_pour 38 = .ok (.aload_n 0, 1) := by decide +kernel
theorem dX10_pour_39 : decode cX10_pour 39 = .ok (.iconst 1, 1) := by decide +kernel
theorem dX10_pour_40 : decode cX10_pour 40 = .ok (.invokevirtual 121, 3) := by decide +kernel
theorem dX10_pour_43 : decode cX10_pour 43 = .ok (.ireturn, 1) := by decide +kernel
theorem dX10_pour_44 : decode cX10_pour 44 = .ok (.aload 6, 2) := by decide +kernel
theorem dX10_pour_46 : decode cX10_pour 46 = .ok (.invokevirtual 133, 3) := by decide +kernel
theorem dX10_pour_49 : decode cX10_pour 49 = .ok (.ifCond .ne 11, 3) := by decide +kernel
theorem dX10_pour_52 : decode cX10_pour 52 = .ok (.aload 7, 2) := by decide +kernel
theorem dX10_pour_54 : decode cX10_pour 54 = .ok (.invokevirtual 133, 3) := by decide +kernel
theorem dX10_pour_57 : decode cX10_pour 57 = .ok (.ifCond .eq 9, 3) := by decide +kernel
theorem dX10_pour_60 : decode cX10_pour 60 = .ok (.aload_n 0, 1) := by decide +kernel
theorem dX10_pour_61 : decode cX10_pour 61 = .ok (.iconst 2, 1) := by decide +kernel
theorem dX10_pour_62 : decode cX10_pour 62 = .ok (.invokevirtual 121, 3) := by decide +kernel
theorem dX10_pour_65 : decode cX10_pour 65 = .ok (.ireturn, 1) := by decide +kernel
theorem dX10_pour_66 : decode cX10_pour 66 = .ok (.aload 6, 2) := by decide +kernel
theorem dX10_pour_68 : decode cX10_pour 68 = .ok (.getfield 151, 3) := by decide +kernel
theorem dX10_pour_71 : decode cX10_pour 71 = .ok (.aload 7, 2) := by decide +kernel
theorem dX10_pour_73 : decode cX10_pour 73 = .ok (.getfield 151, 3) := by decide +kernel
theorem dX10_pour_76 : decode cX10_pour 76 = .ok (.if_icmp .eq 10, 3) := by decide +kernel
theorem dX10_pour_79 : decode cX10_pour 79 = .ok (.aload_n 0, 1) := by decide +kernel
theorem dX10_pour_80 : decode cX10_pour 80 = .ok (.bipush 8, 2) := by decide +kernel
theorem dX10_pour_82 : decode cX10_pour 82 = .ok (.invokevirtual 121, 3) := by decide +kernel
theorem dX10_pour_85 : decode cX10_pour 85 = .ok (.ireturn, 1) := by decide +kernel
theorem dX10_pour_86 : decode cX10_pour 86 = .ok (.aload 6, 2) := by decide +kernel
theorem dX10_pour_88 : decode cX10_pour 88 = .ok (.iload_n 2, 1) := by decide +kernel
theorem dX10_pour_89 : decode cX10_pour 89 = .ok (.iload 5, 2) := by decide +kernel
theorem dX10_pour_91 : decode cX10_pour 91 = .ok (.invokevirtual 154, 3) := by decide +kernel
theorem dX10_pour_94 : decode cX10_pour 94 = .ok (.ifCond .eq 15, 3) := by decide +kernel
theorem dX10_pour_97 : decode cX10_pour 97 = .ok (.aload 7, 2) := by decide +kernel
theorem dX10_pour_99 : decode cX10_pour 99 = .ok (.iload 4, 2) := by decide +kernel
theorem dX10_pour_101 : decode cX10_pour 101 = .ok (.iload 5, 2) := by decide +kernel
theorem dX10_pour_103 : decode cX10_pour 103 = .ok (.invokevirtual 154, 3) := by decide +kernel
theorem dX10_pour_106 : decode cX10_pour 106 = .ok (.ifCond .ne 9, 3) := by decide +kernel
theorem dX10_pour_109 : decode cX10_pour 109 = .ok (.aload_n 0, 1) := by decide +kernel
theorem dX10_pour_110 : decode cX10_pour 110 = .ok (.iconst 3, 1) := by decide +kernel
theorem dX10_pour_111 : decode cX10_pour 111 = .ok (.invokevirtual 121, 3) := by decide +kernel
theorem dX10_pour_114 : decode cX10_pour 114 = .ok (.ireturn, 1) := by decide +kernel
theorem dX10_pour_115 : decode cX10_pour 115 = .ok (.aload 6, 2) := by decide +kernel
theorem dX10_pour_117 : decode cX10_pour 117 = .ok (.getfield 158, 3) := by decide +kernel
theorem dX10_pour_120 : decode cX10_pour 120 = .ok (.iload_n 2, 1) := by decide +kernel
theorem dX10_pour_121 : decode cX10_pour 121 = .ok (.aload 7, 2) := by decide +kernel
theorem dX10_pour_123 : decode cX10_pour 123 = .ok (.getfield 158, 3) := by decide +kernel
theorem dX10_pour_126 : decode cX10_pour 126 = .ok (.iload 4, 2) := by decide +kernel
theorem dX10_pour_128 : decode cX10_pour 128 = .ok (.iload 5, 2) := by decide +kernel
theorem dX10_pour_130 : decode cX10_pour 130 = .ok (.invokestatic 162, 3) := by decide +kernel
theorem dX10_pour_133 : decode cX10_pour 133 = .ok (.aload_n 0, 1) := by decide +kernel
theorem dX10_pour_134 : decode cX10_pour 134 = .ok (.invokevirtual 129, 3) := by decide +kernel
theorem dX10_pour_137 : decode cX10_pour 137 = .ok (.ireturn, 1) := by decide +kernel
theorem dX10_feed_0 : decode cX10_feed 0 = .ok (.aload_n 0, 1) := by decide +kernel
theorem dX10_feed_1 : decode cX10_feed 1 = .ok (.getfield 168, 3) := by decide +kernel
theorem dX10_feed_4 : decode cX10_feed 4 = .ok (.bipush 20, 2) := by decide +kernel
theorem dX10_feed_6 : decode cX10_feed 6 = .ok (.iadd, 1) := by decide +kernel
theorem dX10_feed_7 : decode cX10_feed 7 = .ok (.sipush 900, 3) := by decide +kernel
theorem dX10_feed_10 : decode cX10_feed 10 = .ok (.if_icmp .le 5, 3) := by decide +kernel
theorem dX10_feed_13 : decode cX10_feed 13 = .ok (.iconst (-1), 1) := by decide +kernel
theorem dX10_feed_14 : decode cX10_feed 14 = .ok (.ireturn, 1) := by decide +kernel
theorem dX10_feed_15 : decode cX10_feed 15 = .ok (.aload_n 0, 1) := by decide +kernel
theorem dX10_feed_16 : decode cX10_feed 16 = .ok (.iload_n 1, 1) := by decide +kernel
theorem dX10_feed_17 : decode cX10_feed 17 = .ok (.invokevirtual 171, 3) := by decide +kernel
theorem dX10_feed_20 : decode cX10_feed 20 = .ok (.aload_n 0, 1) := by decide +kernel
theorem dX10_feed_21 : decode cX10_feed 21 = .ok (.iload_n 2, 1) := by decide +kernel
theorem dX10_feed_22 : decode cX10_feed 22 = .ok (.invokevirtual 171, 3) := by decide +kernel
theorem dX10_feed_25 : decode cX10_feed 25 = .ok (.aload_n 0, 1) := by decide +kernel
theorem dX10_feed_26 : decode cX10_feed 26 = .ok (.iload_n 3, 1) := by decide +kernel
theorem dX10_feed_27 : decode cX10_feed 27 = .ok (.invokevirtual 171, 3) := by decide +kernel
theorem dX10_feed_30 : decode cX10_feed 30 = .ok (.aload_n 0, 1) := by decide +kernel
theorem dX10_feed_31 : decode cX10_feed 31 = .ok (.iload 4, 2) := by decide +kernel
theorem dX10_feed_33 : decode cX10_feed 33 = .ok (.invokevirtual 171, 3) := by decide +kernel
theorem dX10_feed_36 : decode cX10_feed 36 = .ok (.aload_n 0, 1) := by decide +kernel
theorem dX10_feed_37 : decode cX10_feed 37 = .ok (.iload 5, 2) := by decide +kernel
theorem dX10_feed_39 : decode cX10_feed 39 = .ok (.invokevirtual 171, 3) := by decide +kernel
theorem dX10_feed_42 : decode cX10_feed 42 = .ok (.aload_n 0, 1) := by decide +kernel
theorem dX10_feed_43 : decode cX10_feed 43 = .ok (.getfield 168, 3) := by decide +kernel
theorem dX10_feed_46 : decode cX10_feed 46 = .ok (.ireturn, 1) := by decide +kernel
theorem dX10_putOnTape_0 : decode cX10_putOnTape 0 = .ok (.bipush 24, 2) := by decide +kernel
theorem dX10_putOnTape_2 : decode cX10_putOnTape 2 = .ok (.istore_n 2, 1) := by decide +kernel
theorem dX10_putOnTape_3 : decode cX10_putOnTape 3 = .ok (.iload_n 2, 1) := by decide +kernel
theorem dX10_putOnTape_4 : decode cX10_putOnTape 4 = .ok (.ifCond .lt 42, 3) := by decide +kernel
theorem dX10_putOnTape_7 : decode cX10_putOnTape 7 = .ok (.aload_n 0, 1) := by decide +kernel
theorem dX10_putOnTape_8 : decode cX10_putOnTape 8 = .ok (.getfield 168, 3) := by decide +kernel
theorem dX10_putOnTape_11 : decode cX10_putOnTape 11 = .ok (.sipush 900, 3) := by decide +kernel
theorem dX10_putOnTape_14 : decode cX10_putOnTape 14 = .ok (.if_icmp .ge 32, 3) := by decide +kernel
theorem dX10_putOnTape_17 : decode cX10_putOnTape 17 = .ok (.aload_n 0, 1) := by decide +kernel
theorem dX10_putOnTape_18 : decode cX10_putOnTape 18 = .ok (.getfield 71, 3) := by decide +kernel
theorem dX10_putOnTape_21 : decode cX10_putOnTape 21 = .ok (.aload_n 0, 1) := by decide +kernel
theorem dX10_putOnTape_22 : decode cX10_putOnTape 22 = .ok (.getfield 168, 3) := by decide +kernel
theorem dX10_putOnTape_25 : decode cX10_putOnTape 25 = .ok (.iload_n 1, 1) := by decide +kernel
theorem dX10_putOnTape_26 : decode cX10_putOnTape 26 = .ok (.iload_n 2, 1) := by decide +kernel
theorem dX10_putOnTape_27 : decode cX10_putOnTape 27 = .ok (.ishr, 1) := by decide +kernel
theorem dX10_putOnTape_28 : decode cX10_putOnTape 28 = .ok (.i2b, 1) := by decide +kernel
theorem dX10_putOnTape_29 : decode cX10_putOnTape 29 = .ok (.bastore, 1) := by decide +kernel
theorem dX10_putOnTape_30 : decode cX10_putOnTape 30 = .ok (.aload_n 0, 1) := by decide +kernel
theorem dX10_putOnTape_31 : decode cX10_putOnTape 31 = .ok (.dup, 1) := by decide +kernel
theorem dX10_putOnTape_32 : decode cX10_putOnTape 32 = .ok (.getfield 168, 3) := by decide +kernel
theorem dX10_putOnTape_35 : decode cX10_putOnTape 35 = .ok (.iconst 1, 1) := by decide +kernel
theorem dX10_putOnTape_36 : decode cX10_putOnTape 36 = .ok (.iadd, 1) := by decide +kernel
theorem dX10_putOnTape_37 : decode cX10_putOnTape 37 = .ok (.putfield 168, 3) := by decide +kernel
theorem dX10_putOnTape_40 : decode cX10_putOnTape 40 = .ok (.iinc 2 (-8), 3) := by decide +kernel
theorem dX10_putOnTape_43 : decode cX10_putOnTape 43 = .ok (.goto (-40), 3) := by decide +kernel
theorem dX10_putOnTape_46 : decode cX10_putOnTape 46 = .ok (.return_, 1) := by decide +kernel
theorem dX10_land_0 : decode cX10_land 0 = .ok (.iload_n 1, 1) := by decide +kernel
theorem dX10_land_1 : decode cX10_land 1 = .ok (.ifCond .lt 11, 3) := by decide +kernel
theorem dX10_land_4 : decode cX10_land 4 = .ok (.iload_n 1, 1) := by decide +kernel
theorem dX10_land_5 : decode cX10_land 5 = .ok (.aload_n 0, 1) := by decide +kernel
theorem dX10_land_6 : decode cX10_land 6 = .ok (.getfield 168, 3) := by decide +kernel
theorem dX10_land_9 : decode cX10_land 9 = .ok (.if_icmp .le 9, 3) := by decide +kernel
theorem dX10_land_12 : decode cX10_land 12 = .ok (.aload_n 0, 1) := by decide +kernel
theorem dX10_land_13 : decode cX10_land 13 = .ok (.iconst 1, 1) := by decide +kernel
theorem dX10_land_14 : decode cX10_land 14 = .ok (.invokevirtual 143, 3) := by decide +kernel
theorem dX10_land_17 : decode cX10_land 17 = .ok (.ireturn, 1) := by decide +kernel
theorem dX10_land_18 : decode cX10_land 18 = .ok (.aload_n 0, 1) := by decide +kernel
theorem dX10_land_19 : decode cX10_land 19 = .ok (.getfield 36, 3) := by decide +kernel
theorem dX10_land_22 : decode cX10_land 22 = .ok (.aload_n 0, 1) := by decide +kernel
theorem dX10_land_23 : decode cX10_land 23 = .ok (.getfield 71, 3) := by decide +kernel
theorem dX10_land_26 : decode cX10_land 26 = .ok (.iload_n 1, 1) := by decide +kernel
theorem dX10_land_27 : decode cX10_land 27 = .ok (.invokevirtual 175, 3) := by decide +kernel
theorem dX10_land_30 : decode cX10_land 30 = .ok (.istore_n 2, 1) := by decide +kernel
theorem dX10_land_31 : decode cX10_land 31 = .ok (.aload_n 0, 1) := by decide +kernel
theorem dX10_land_32 : decode cX10_land 32 = .ok (.aload_n 0, 1) := by decide +kernel
theorem dX10_land_33 : decode cX10_land 33 = .ok (.getfield 36, 3) := by decide +kernel
theorem dX10_land_36 : decode cX10_land 36 = .ok (.getfield 179, 3) := by decide +kernel
theorem dX10_land_39 : decode cX10_land 39 = .ok (.invokevirtual 183, 3) := by decide +kernel
theorem dX10_land_42 : decode cX10_land 42 = .ok (.iload_n 2, 1) := by decide +kernel
theorem dX10_land_43 : decode cX10_land 43 = .ok (.ifCond .ne 10, 3) := by decide +kernel
theorem dX10_land_46 : decode cX10_land 46 = .ok (.aload_n 0, 1) := by decide +kernel
theorem dX10_land_47 : decode cX10_land 47 = .ok (.bipush 9, 2) := by decide +kernel
theorem dX10_land_49 : decode cX10_land 49 = .ok (.invokevirtual 143, 3) := by decide +kernel
theorem dX10_land_52 : decode cX10_land 52 = .ok (.ireturn, 1) := by decide +kernel
theorem dX10_land_53 : decode cX10_land 53 = .ok (.aload_n 0, 1) := by decide +kernel
theorem dX10_land_54 : decode cX10_land 54 = .ok (.getfield 12, 3) := by decide +kernel
theorem dX10_land_57 : decode cX10_land 57 = .ok (.aload_n 0, 1) := by decide +kernel
theorem dX10_land_58 : decode cX10_land 58 = .ok (.getfield 36, 3) := by decide +kernel
theorem dX10_land_61 : decode cX10_land 61 = .ok (.getfield 187, 3) := by decide +kernel
theorem dX10_land_64 : decode cX10_land 64 = .ok (.invokevirtual 190, 3) := by decide +kernel
theorem dX10_land_67 : decode cX10_land 67 = .ok (.aload_n 0, 1) := by decide +kernel
theorem dX10_land_68 : decode cX10_land 68 = .ok (.getfield 19, 3) := by decide +kernel
theorem dX10_land_71 : decode cX10_land 71 = .ok (.invokevirtual 194, 3) := by decide +kernel
theorem dX10_land_74 : decode cX10_land 74 = .ok (.aload_n 0, 1) := by decide +kernel
theorem dX10_land_75 : decode cX10_land 75 = .ok (.aload_n 0, 1) := by decide +kernel
theorem dX10_land_76 : decode cX10_land 76 = .ok (.getfield 12, 3) := by decide +kernel
theorem dX10_land_79 : decode cX10_land 79 = .ok (.getfield 99, 3) := by decide +kernel
theorem dX10_land_82 : decode cX10_land 82 = .ok (.getfield 103, 3) := by decide +kernel
theorem dX10_land_85 : decode cX10_land 85 = .ok (.invokevirtual 197, 3) := by decide +kernel
theorem dX10_land_88 : decode cX10_land 88 = .ok (.ireturn, 1) := by decide +kernel
theorem dX10_nights_0 : decode cX10_nights 0 = .ok (.iload_n 1, 1) := by decide +kernel
theorem dX10_nights_1 : decode cX10_nights 1 = .ok (.ifCond .lt 18, 3) := by decide +kernel
theorem dX10_nights_4 : decode cX10_nights 4 = .ok (.iload_n 1, 1) := by decide +kernel
theorem dX10_nights_5 : decode cX10_nights 5 = .ok (.aload_n 0, 1) := by decide +kernel
theorem dX10_nights_6 : decode cX10_nights 6 = .ok (.getfield 168, 3) := by decide +kernel
theorem dX10_nights_9 : decode cX10_nights 9 = .ok (.if_icmp .gt 10, 3) := by decide +kernel
theorem dX10_nights_12 : decode cX10_nights 12 = .ok (.iload_n 1, 1) := by decide +kernel
theorem dX10_nights_13 : decode cX10_nights 13 = .ok (.sipush 300, 3) := by decide +kernel
theorem dX10_nights_16 : decode cX10_nights 16 = .ok (.if_icmp .le 9, 3) := by decide +kernel
theorem dX10_nights_19 : decode cX10_nights 19 = .ok (.aload_n 0, 1) := by decide +kernel
theorem dX10_nights_20 : decode cX10_nights 20 = .ok (.iconst 1, 1) := by decide +kernel
theorem dX10_nights_21 : decode cX10_nights 21 = .ok (.invokevirtual 143, 3) := by decide +kernel
theorem dX10_nights_24 : decode cX10_nights 24 = .ok (.ireturn, 1) := by decide +kernel
theorem dX10_nights_25 : decode cX10_nights 25 = .ok (.aload_n 0, 1) := by decide +kernel
theorem dX10_nights_26 : decode cX10_nights 26 = .ok (.getfield 43, 3) := by decide +kernel
theorem dX10_nights_29 : decode cX10_nights 29 = .ok (.aload_n 0, 1) := by decide +kernel
theorem dX10_nights_30 : decode cX10_nights 30 = .ok (.getfield 71, 3) := by decide +kernel
theorem dX10_nights_33 : decode cX10_nights 33 = .ok (.iload_n 1, 1) := by decide +kernel
theorem dX10_nights_34 : decode cX10_nights 34 = .ok (.aload_n 0, 1) := by decide +kernel
theorem dX10_nights_35 : decode cX10_nights 35 = .ok (.getfield 12, 3) := by decide +kernel
theorem dX10_nights_38 : decode cX10_nights 38 = .ok (.invokevirtual 200, 3) := by decide +kernel
theorem dX10_nights_41 : decode cX10_nights 41 = .ok (.istore_n 2, 1) := by decide +kernel
theorem dX10_nights_42 : decode cX10_nights 42 = .ok (.aload_n 0, 1) := by decide +kernel
theorem dX10_nights_43 : decode cX10_nights 43 = .ok (.aload_n 0, 1) := by decide +kernel
theorem dX10_nights_44 : decode cX10_nights 44 = .ok (.getfield 43, 3) := by decide +kernel
theorem dX10_nights_47 : decode cX10_nights 47 = .ok (.getfield 203, 3) := by decide +kernel
theorem dX10_nights_50 : decode cX10_nights 50 = .ok (.invokevirtual 183, 3) := by decide +kernel
theorem dX10_nights_53 : decode cX10_nights 53 = .ok (.iload_n 2, 1) := by decide +kernel
theorem dX10_nights_54 : decode cX10_nights 54 = .ok (.ifCond .ne 10, 3) := by decide +kernel
theorem dX10_nights_57 : decode cX10_nights 57 = .ok (.aload_n 0, 1) := by decide +kernel
theorem dX10_nights_58 : decode cX10_nights 58 = .ok (.bipush 9, 2) := by decide +kernel
theorem dX10_nights_60 : decode cX10_nights 60 = .ok (.invokevirtual 143, 3) := by decide +kernel
theorem dX10_nights_63 : decode cX10_nights 63 = .ok (.ireturn, 1) := by decide +kernel
theorem dX10_nights_64 : decode cX10_nights 64 = .ok (.aload_n 0, 1) := by decide +kernel
theorem dX10_nights_65 : decode cX10_nights 65 = .ok (.getfield 19, 3) := by decide +kernel
theorem dX10_nights_68 : decode cX10_nights 68 = .ok (.aload_n 0, 1) := by decide +kernel
theorem dX10_nights_69 : decode cX10_nights 69 = .ok (.getfield 43, 3) := by decide +kernel
theorem dX10_nights_72 : decode cX10_nights 72 = .ok (.getfield 204, 3) := by decide +kernel
theorem dX10_nights_75 : decode cX10_nights 75 = .ok (.invokevirtual 206, 3) := by decide +kernel
theorem dX10_nights_78 : decode cX10_nights 78 = .ok (.aload_n 0, 1) := by decide +kernel
theorem dX10_nights_79 : decode cX10_nights 79 = .ok (.aload_n 0, 1) := by decide +kernel
theorem dX10_nights_80 : decode cX10_nights 80 = .ok (.getfield 19, 3) := by decide +kernel
theorem dX10_nights_83 : decode cX10_nights 83 = .ok (.getfield 209, 3) := by decide +kernel
theorem dX10_nights_86 : decode cX10_nights 86 = .ok (.invokevirtual 197, 3) := by decide +kernel
theorem dX10_nights_89 : decode cX10_nights 89 = .ok (.ireturn, 1) := by decide +kernel
theorem dX10_emptyTape_0 : decode cX10_emptyTape 0 = .ok (.aload_n 0, 1) := by decide +kernel
theorem dX10_emptyTape_1 : decode cX10_emptyTape 1 = .ok (.iconst 0, 1) := by decide +kernel
theorem dX10_emptyTape_2 : decode cX10_emptyTape 2 = .ok (.putfield 168, 3) := by decide +kernel
theorem dX10_emptyTape_5 : decode cX10_emptyTape 5 = .ok (.aload_n 0, 1) := by decide +kernel
theorem dX10_emptyTape_6 : decode cX10_emptyTape 6 = .ok (.aload_n 1, 1) := by decide +kernel
theorem dX10_emptyTape_7 : decode cX10_emptyTape 7 = .ok (.getfield 212, 3) := by decide +kernel
theorem dX10_emptyTape_10 : decode cX10_emptyTape 10 = .ok (.putfield 83, 3) := by decide +kernel
theorem dX10_emptyTape_13 : decode cX10_emptyTape 13 = .ok (.aload_n 0, 1) := by decide +kernel
theorem dX10_emptyTape_14 : decode cX10_emptyTape 14 = .ok (.aload_n 1, 1) := by decide +kernel
theorem dX10_emptyTape_15 : decode cX10_emptyTape 15 = .ok (.getfield 217, 3) := by decide +kernel
theorem dX10_emptyTape_18 : decode cX10_emptyTape 18 = .ok (.putfield 86, 3) := by decide +kernel
theorem dX10_emptyTape_21 : decode cX10_emptyTape 21 = .ok (.return_, 1) := by decide +kernel
theorem dX10_fault_0 : decode cX10_fault 0 = .ok (.iload_n 1, 1) := by decide +kernel
theorem dX10_fault_1 : decode cX10_fault 1 = .ok (.ifCond .ne 8, 3) := by decide +kernel
theorem dX10_fault_4 : decode cX10_fault 4 = .ok (.aload_n 0, 1) := by decide +kernel
theorem dX10_fault_5 : decode cX10_fault 5 = .ok (.getfield 83, 3) := by decide +kernel
theorem dX10_fault_8 : decode cX10_fault 8 = .ok (.ireturn, 1) := by decide +kernel
theorem dX10_fault_9 : decode cX10_fault 9 = .ok (.iload_n 1, 1) := by decide +kernel
theorem dX10_fault_10 : decode cX10_fault 10 = .ok (.iconst 1, 1) := by decide +kernel
theorem dX10_fault_11 : decode cX10_fault 11 = .ok (.if_icmp .ne 10, 3) := by decide +kernel
theorem dX10_fault_14 : decode cX10_fault 14 = .ok (.aload_n 0, 1) := by decide +kernel
theorem dX10_fault_15 : decode cX10_fault 15 = .ok (.getfield 86, 3) := by decide +kernel
theorem dX10_fault_18 : decode cX10_fault 18 = .ok (.goto 4, 3) := by decide +kernel
theorem dX10_fault_21 : decode cX10_fault 21 = .ok (.iconst (-1), 1) := by decide +kernel
theorem dX10_fault_22 : decode cX10_fault 22 = .ok (.ireturn, 1) := by decide +kernel
theorem dX10_told_0 : decode cX10_told 0 = .ok (.iload_n 1, 1) := by decide +kernel
theorem dX10_told_1 : decode cX10_told 1 = .ok (.tableswitch 196 0 9 #[55, 70, 85, 97, 109, 124, 139, 154, 166, 181], 55) := by decide +kernel
theorem dX10_told_56 : decode cX10_told 56 = .ok (.aload_n 0, 1) := by decide +kernel
theorem dX10_told_57 : decode cX10_told 57 = .ok (.aload_n 0, 1) := by decide +kernel
theorem dX10_told_58 : decode cX10_told 58 = .ok (.getfield 12, 3) := by decide +kernel
theorem dX10_told_61 : decode cX10_told 61 = .ok (.getfield 90, 3) := by decide +kernel
theorem dX10_told_64 : decode cX10_told 64 = .ok (.getfield 94, 3) := by decide +kernel
theorem dX10_told_67 : decode cX10_told 67 = .ok (.invokevirtual 197, 3) := by decide +kernel
theorem dX10_told_70 : decode cX10_told 70 = .ok (.ireturn, 1) := by decide +kernel
theorem dX10_told_71 : decode cX10_told 71 = .ok (.aload_n 0, 1) := by decide +kernel
theorem dX10_told_72 : decode cX10_told 72 = .ok (.aload_n 0, 1) := by decide +kernel
theorem dX10_told_73 : decode cX10_told 73 = .ok (.getfield 12, 3) := by decide +kernel
theorem dX10_told_76 : decode cX10_told 76 = .ok (.getfield 99, 3) := by decide +kernel
theorem dX10_told_79 : decode cX10_told 79 = .ok (.getfield 103, 3) := by decide +kernel
theorem dX10_told_82 : decode cX10_told 82 = .ok (.invokevirtual 197, 3) := by decide +kernel
theorem dX10_told_85 : decode cX10_told 85 = .ok (.ireturn, 1) := by decide +kernel
theorem dX10_told_86 : decode cX10_told 86 = .ok (.aload_n 0, 1) := by decide +kernel
theorem dX10_told_87 : decode cX10_told 87 = .ok (.aload_n 0, 1) := by decide +kernel
theorem dX10_told_88 : decode cX10_told 88 = .ok (.getfield 12, 3) := by decide +kernel
theorem dX10_told_91 : decode cX10_told 91 = .ok (.getfield 218, 3) := by decide +kernel
theorem dX10_told_94 : decode cX10_told 94 = .ok (.invokevirtual 197, 3) := by decide +kernel
theorem dX10_told_97 : decode cX10_told 97 = .ok (.ireturn, 1) := by decide +kernel
theorem dX10_told_98 : decode cX10_told 98 = .ok (.aload_n 0, 1) := by decide +kernel
theorem dX10_told_99 : decode cX10_told 99 = .ok (.aload_n 0, 1) := by decide +kernel
theorem dX10_told_100 : decode cX10_told 100 = .ok (.getfield 12, 3) := by decide +kernel
theorem dX10_told_103 : decode cX10_told 103 = .ok (.getfield 221, 3) := by decide +kernel
theorem dX10_told_106 : decode cX10_told 106 = .ok (.invokevirtual 197, 3) := by decide +kernel
theorem dX10_told_109 : decode cX10_told 109 = .ok (.ireturn, 1) := by decide +kernel
theorem dX10_told_110 : decode cX10_told 110 = .ok (.aload_n 0, 1) := by decide +kernel
theorem dX10_told_111 : decode cX10_told 111 = .ok (.aload_n 0, 1) := by decide +kernel
theorem dX10_told_112 : decode cX10_told 112 = .ok (.getfield 12, 3) := by decide +kernel
theorem dX10_told_115 : decode cX10_told 115 = .ok (.getfield 90, 3) := by decide +kernel
theorem dX10_told_118 : decode cX10_told 118 = .ok (.invokevirtual 224, 3) := by decide +kernel
theorem dX10_told_121 : decode cX10_told 121 = .ok (.invokevirtual 197, 3) := by decide +kernel
theorem dX10_told_124 : decode cX10_told 124 = .ok (.ireturn, 1) := by decide +kernel
theorem dX10_told_125 : decode cX10_told 125 = .ok (.aload_n 0, 1) := by decide +kernel
theorem dX10_told_126 : decode cX10_told 126 = .ok (.aload_n 0, 1) := by decide +kernel
theorem dX10_told_127 : decode cX10_told 127 = .ok (.getfield 12, 3) := by decide +kernel
theorem dX10_told_130 : decode cX10_told 130 = .ok (.getfield 90, 3) := by decide +kernel
theorem dX10_told_133 : decode cX10_told 133 = .ok (.invokevirtual 228, 3) := by decide +kernel
theorem dX10_told_136 : decode cX10_told 136 = .ok (.invokevirtual 197, 3) := by decide +kernel
theorem dX10_told_139 : decode cX10_told 139 = .ok (.ireturn, 1) := by decide +kernel
theorem dX10_told_140 : decode cX10_told 140 = .ok (.aload_n 0, 1) := by decide +kernel
theorem dX10_told_141 : decode cX10_told 141 = .ok (.aload_n 0, 1) := by decide +kernel
theorem dX10_told_142 : decode cX10_told 142 = .ok (.getfield 12, 3) := by decide +kernel
theorem dX10_told_145 : decode cX10_told 145 = .ok (.getfield 90, 3) := by decide +kernel
theorem dX10_told_148 : decode cX10_told 148 = .ok (.getfield 231, 3) := by decide +kernel
theorem dX10_told_151 : decode cX10_told 151 = .ok (.invokevirtual 197, 3) := by decide +kernel
theorem dX10_told_154 : decode cX10_told 154 = .ok (.ireturn, 1) := by decide +kernel
theorem dX10_told_155 : decode cX10_told 155 = .ok (.aload_n 0, 1) := by decide +kernel
theorem dX10_told_156 : decode cX10_told 156 = .ok (.aload_n 0, 1) := by decide +kernel
theorem dX10_told_157 : decode cX10_told 157 = .ok (.getfield 12, 3) := by decide +kernel
theorem dX10_told_160 : decode cX10_told 160 = .ok (.invokevirtual 234, 3) := by decide +kernel
theorem dX10_told_163 : decode cX10_told 163 = .ok (.invokevirtual 197, 3) := by decide +kernel
theorem dX10_told_166 : decode cX10_told 166 = .ok (.ireturn, 1) := by decide +kernel
theorem dX10_told_167 : decode cX10_told 167 = .ok (.aload_n 0, 1) := by decide +kernel
theorem dX10_told_168 : decode cX10_told 168 = .ok (.aload_n 0, 1) := by decide +kernel
theorem dX10_told_169 : decode cX10_told 169 = .ok (.getfield 12, 3) := by decide +kernel
theorem dX10_told_172 : decode cX10_told 172 = .ok (.getfield 99, 3) := by decide +kernel
theorem dX10_told_175 : decode cX10_told 175 = .ok (.getfield 237, 3) := by decide +kernel
theorem dX10_told_178 : decode cX10_told 178 = .ok (.invokevirtual 197, 3) := by decide +kernel
theorem dX10_told_181 : decode cX10_told 181 = .ok (.ireturn, 1) := by decide +kernel
theorem dX10_told_182 : decode cX10_told 182 = .ok (.aload_n 0, 1) := by decide +kernel
theorem dX10_told_183 : decode cX10_told 183 = .ok (.aload_n 0, 1) := by decide +kernel
theorem dX10_told_184 : decode cX10_told 184 = .ok (.getfield 12, 3) := by decide +kernel
theorem dX10_told_187 : decode cX10_told 187 = .ok (.getfield 99, 3) := by decide +kernel
theorem dX10_told_190 : decode cX10_told 190 = .ok (.getfield 240, 3) := by decide +kernel
theorem dX10_told_193 : decode cX10_told 193 = .ok (.invokevirtual 197, 3) := by decide +kernel
theorem dX10_told_196 : decode cX10_told 196 = .ok (.ireturn, 1) := by decide +kernel
theorem dX10_told_197 : decode cX10_told 197 = .ok (.aload_n 0, 1) := by decide +kernel
theorem dX10_told_198 : decode cX10_told 198 = .ok (.iconst 1, 1) := by decide +kernel
theorem dX10_told_199 : decode cX10_told 199 = .ok (.invokevirtual 143, 3) := by decide +kernel
theorem dX10_told_202 : decode cX10_told 202 = .ok (.ireturn, 1) := by decide +kernel
theorem dX10_room_0 : decode cX10_room 0 = .ok (.aload_n 0, 1) := by decide +kernel
theorem dX10_room_1 : decode cX10_room 1 = .ok (.iload_n 1, 1) := by decide +kernel
theorem dX10_room_2 : decode cX10_room 2 = .ok (.invokevirtual 243, 3) := by decide +kernel
theorem dX10_room_5 : decode cX10_room 5 = .ok (.ifCond .ne 9, 3) := by decide +kernel
theorem dX10_room_8 : decode cX10_room 8 = .ok (.aload_n 0, 1) := by decide +kernel
theorem dX10_room_9 : decode cX10_room 9 = .ok (.iconst 1, 1) := by decide +kernel
theorem dX10_room_10 : decode cX10_room 10 = .ok (.invokevirtual 143, 3) := by decide +kernel
theorem dX10_room_13 : decode cX10_room 13 = .ok (.ireturn, 1) := by decide +kernel
theorem dX10_room_14 : decode cX10_room 14 = .ok (.aload_n 0, 1) := by decide +kernel
theorem dX10_room_15 : decode cX10_room 15 = .ok (.getfield 12, 3) := by decide +kernel
theorem dX10_room_18 : decode cX10_room 18 = .ok (.getfield 90, 3) := by decide +kernel
theorem dX10_room_21 : decode cX10_room 21 = .ok (.astore_n 3, 1) := by decide +kernel
theorem dX10_room_22 : decode cX10_room 22 = .ok (.iload_n 2, 1) := by decide +kernel
theorem dX10_room_23 : decode cX10_room 23 = .ok (.tableswitch 138 0 7 #[45, 56, 67, 78, 89, 100, 110, 127], 45) := by decide +kernel
theorem dX10_room_68 : decode cX10_room 68 = .ok (.aload_n 0, 1) := by decide +kernel
theorem dX10_room_69 : decode cX10_room 69 = .ok (.aload_n 3, 1) := by decide +kernel
theorem dX10_room_70 : decode cX10_room 70 = .ok (.getfield 246, 3) := by decide +kernel
theorem dX10_room_73 : decode cX10_room 73 = .ok (.iload_n 1, 1) := by decide +kernel
theorem dX10_room_74 : decode cX10_room 74 = .ok (.iaload, 1) := by decide +kernel
theorem dX10_room_75 : decode cX10_room 75 = .ok (.invokevirtual 197, 3) := by decide +kernel
theorem dX10_room_78 : decode cX10_room 78 = .ok (.ireturn, 1) := by decide +kernel
theorem dX10_room_79 : decode cX10_room 79 = .ok (.aload_n 0, 1) := by decide +kernel
theorem dX10_room_80 : decode cX10_room 80 = .ok (.aload_n 3, 1) := by decide +kernel
theorem dX10_room_81 : decode cX10_room 81 = .ok (.getfield 250, 3) := by decide +kernel
theorem dX10_room_84 : decode cX10_room 84 = .ok (.iload_n 1, 1) := by decide +kernel
theorem dX10_room_85 : decode cX10_room 85 = .ok (.iaload, 1) := by decide +kernel
theorem dX10_room_86 : decode cX10_room 86 = .ok (.invokevirtual 197, 3) := by decide +kernel
theorem dX10_room_89 : decode cX10_room 89 = .ok (.ireturn, 1) := by decide +kernel
theorem dX10_room_90 : decode cX10_room 90 = .ok (.aload_n 0, 1) := by decide +kernel
theorem dX10_room_91 : decode cX10_room 91 = .ok (.aload_n 3, 1) := by decide +kernel
theorem dX10_room_92 : decode cX10_room 92 = .ok (.getfield 253, 3) := by decide +kernel
theorem dX10_room_95 : decode cX10_room 95 = .ok (.iload_n 1, 1) := by decide +kernel
theorem dX10_room_96 : decode cX10_room 96 = .ok (.iaload, 1) := by decide +kernel
theorem dX10_room_97 : decode cX10_room 97 = .ok (.invokevirtual 197, 3) := by decide +kernel
theorem dX10_room_100 : decode cX10_room 100 = .ok (.ireturn, 1) := by decide +kernel
theorem dX10_room_101 : decode cX10_room 101 = .ok (.aload_n 0, 1) := by decide +kernel
theorem dX10_room_102 : decode cX10_room 102 = .ok (.aload_n 3, 1) := by decide +kernel
theorem dX10_room_103 : decode cX10_room 103 = .ok (.getfield 256, 3) := by decide +kernel
theorem dX10_room_106 : decode cX10_room 106 = .ok (.iload_n 1, 1) := by decide +kernel
theorem dX10_room_107 : decode cX10_room 107 = .ok (.iaload, 1) := by decide +kernel
theorem dX10_room_108 : decode cX10_room 108 = .ok (.invokevirtual 197, 3) := by decide +kernel
theorem dX10_room_111 : decode cX10_room 111 = .ok (.ireturn, 1) := by decide +kernel
theorem dX10_room_112 : decode cX10_room 112 = .ok (.aload_n 0, 1) := by decide +kernel
theorem dX10_room_113 : decode cX10_room 113 = .ok (.aload_n 3, 1) := by decide +kernel
theorem dX10_room_114 : decode cX10_room 114 = .ok (.getfield 259, 3) := by decide +kernel
theorem dX10_room_117 : decode cX10_room 117 = .ok (.iload_n 1, 1) := by decide +kernel
theorem dX10_room_118 : decode cX10_room 118 = .ok (.iaload, 1) := by decide +kernel
theorem dX10_room_119 : decode cX10_room 119 = .ok (.invokevirtual 197, 3) := by decide +kernel
theorem dX10_room_122 : decode cX10_room 122 = .ok (.ireturn, 1) := by decide +kernel
theorem dX10_room_123 : decode cX10_room 123 = .ok (.aload_n 0, 1) := by decide +kernel
theorem dX10_room_124 : decode cX10_room 124 = .ok (.aload_n 3, 1) := by decide +kernel
theorem dX10_room_125 : decode cX10_room 125 = .ok (.iload_n 1, 1) := by decide +kernel
theorem dX10_room_126 : decode cX10_room 126 = .ok (.invokevirtual 262, 3) := by decide +kernel
theorem dX10_room_129 : decode cX10_room 129 = .ok (.invokevirtual 197, 3) := by decide +kernel
theorem dX10_room_132 : decode cX10_room 132 = .ok (.ireturn, 1) := by decide +kernel
theorem dX10_room_133 : decode cX10_room 133 = .ok (.aload_n 0, 1) := by decide +kernel
theorem dX10_room_134 : decode cX10_room 134 = .ok (.aload_n 3, 1) := by decide +kernel
theorem dX10_room_135 : decode cX10_room 135 = .ok (.getfield 246, 3) := by decide +kernel
theorem dX10_room_138 : decode cX10_room 138 = .ok (.iload_n 1, 1) := by decide +kernel
theorem dX10_room_139 : decode cX10_room 139 = .ok (.iaload, 1) := by decide +kernel
theorem dX10_room_140 : decode cX10_room 140 = .ok (.aload_n 3, 1) := by decide +kernel
theorem dX10_room_141 : decode cX10_room 141 = .ok (.iload_n 1, 1) := by decide +kernel
theorem dX10_room_142 : decode cX10_room 142 = .ok (.invokevirtual 262, 3) := by decide +kernel
theorem dX10_room_145 : decode cX10_room 145 = .ok (.iadd, 1) := by decide +kernel
theorem dX10_room_146 : decode cX10_room 146 = .ok (.invokevirtual 197, 3) := by decide +kernel
theorem dX10_room_149 : decode cX10_room 149 = .ok (.ireturn, 1) := by decide +kernel
theorem dX10_room_150 : decode cX10_room 150 = .ok (.aload_n 0, 1) := by decide +kernel
theorem dX10_room_151 : decode cX10_room 151 = .ok (.aload_n 3, 1) := by decide +kernel
theorem dX10_room_152 : decode cX10_room 152 = .ok (.getfield 265, 3) := by decide +kernel
theorem dX10_room_155 : decode cX10_room 155 = .ok (.iload_n 1, 1) := by decide +kernel
theorem dX10_room_156 : decode cX10_room 156 = .ok (.iaload, 1) := by decide +kernel
theorem dX10_room_157 : decode cX10_room 157 = .ok (.invokevirtual 197, 3) := by decide +kernel
theorem dX10_room_160 : decode cX10_room 160 = .ok (.ireturn, 1) := by decide +kernel
theorem dX10_room_161 : decode cX10_room 161 = .ok (.aload_n 0, 1) := by decide +kernel
theorem dX10_room_162 : decode cX10_room 162 = .ok (.iconst 1, 1) := by decide +kernel
theorem dX10_room_163 : decode cX10_room 163 = .ok (.invokevirtual 143, 3) := by decide +kernel
theorem dX10_room_166 : decode cX10_room 166 = .ok (.ireturn, 1) := by decide +kernel
theorem dX10_door_0 : decode cX10_door 0 = .ok (.aload_n 0, 1) := by decide +kernel
theorem dX10_door_1 : decode cX10_door 1 = .ok (.iload_n 1, 1) := by decide +kernel
theorem dX10_door_2 : decode cX10_door 2 = .ok (.invokevirtual 268, 3) := by decide +kernel
theorem dX10_door_5 : decode cX10_door 5 = .ok (.ifCond .ne 9, 3) := by decide +kernel
theorem dX10_door_8 : decode cX10_door 8 = .ok (.aload_n 0, 1) := by decide +kernel
theorem dX10_door_9 : decode cX10_door 9 = .ok (.iconst 1, 1) := by decide +kernel
theorem dX10_door_10 : decode cX10_door 10 = .ok (.invokevirtual 143, 3) := by decide +kernel
theorem dX10_door_13 : decode cX10_door 13 = .ok (.ireturn, 1) := by decide +kernel
theorem dX10_door_14 : decode cX10_door 14 = .ok (.aload_n 0, 1) := by decide +kernel
theorem dX10_door_15 : decode cX10_door 15 = .ok (.getfield 12, 3) := by decide +kernel
theorem dX10_door_18 : decode cX10_door 18 = .ok (.getfield 99, 3) := by decide +kernel
theorem dX10_door_21 : decode cX10_door 21 = .ok (.astore_n 3, 1) := by decide +kernel
theorem dX10_door_22 : decode cX10_door 22 = .ok (.iload_n 2, 1) := by decide +kernel
theorem dX10_door_23 : decode cX10_door 23 = .ok (.tableswitch 108 0 5 #[37, 51, 65, 76, 87, 98], 37) := by decide +kernel
theorem dX10_door_60 : decode cX10_door 60 = .ok (.aload_n 0, 1) := by decide +kernel
theorem dX10_door_61 : decode cX10_door 61 = .ok (.aload_n 3, 1) := by decide +kernel
theorem dX10_door_62 : decode cX10_door 62 = .ok (.getfield 271, 3) := by decide +kernel
theorem dX10_door_65 : decode cX10_door 65 = .ok (.iload_n 1, 1) := by decide +kernel
theorem dX10_door_66 : decode cX10_door 66 = .ok (.iaload, 1) := by decide +kernel
theorem dX10_door_67 : decode cX10_door 67 = .ok (.invokestatic 274, 3) := by decide +kernel
theorem dX10_door_70 : decode cX10_door 70 = .ok (.invokevirtual 197, 3) := by decide +kernel
theorem dX10_door_73 : decode cX10_door 73 = .ok (.ireturn, 1) := by decide +kernel
theorem dX10_door_74 : decode cX10_door 74 = .ok (.aload_n 0, 1) := by decide +kernel
theorem dX10_door_75 : decode cX10_door 75 = .ok (.aload_n 3, 1) := by decide +kernel
theorem dX10_door_76 : decode cX10_door 76 = .ok (.getfield 277, 3) := by decide +kernel
theorem dX10_door_79 : decode cX10_door 79 = .ok (.iload_n 1, 1) := by decide +kernel
theorem dX10_door_80 : decode cX10_door 80 = .ok (.iaload, 1) := by decide +kernel
theorem dX10_door_81 : decode cX10_door 81 = .ok (.invokestatic 274, 3) := by decide +kernel
theorem dX10_door_84 : decode cX10_door 84 = .ok (.invokevirtual 197, 3) := by decide +kernel
theorem dX10_door_87 : decode cX10_door 87 = .ok (.ireturn, 1) := by decide +kernel
theorem dX10_door_88 : decode cX10_door 88 = .ok (.aload_n 0, 1) := by decide +kernel
theorem dX10_door_89 : decode cX10_door 89 = .ok (.aload_n 3, 1) := by decide +kernel
theorem dX10_door_90 : decode cX10_door 90 = .ok (.getfield 280, 3) := by decide +kernel
theorem dX10_door_93 : decode cX10_door 93 = .ok (.iload_n 1, 1) := by decide +kernel
theorem dX10_door_94 : decode cX10_door 94 = .ok (.iaload, 1) := by decide +kernel
theorem dX10_door_95 : decode cX10_door 95 = .ok (.invokevirtual 197, 3) := by decide +kernel
theorem dX10_door_98 : decode cX10_door 98 = .ok (.ireturn, 1) := by decide +kernel
theorem dX10_door_99 : decode cX10_door 99 = .ok (.aload_n 0, 1) := by decide +kernel
theorem dX10_door_100 : decode cX10_door 100 = .ok (.aload_n 3, 1) := by decide +kernel
theorem dX10_door_101 : decode cX10_door 101 = .ok (.getfield 283, 3) := by decide +kernel
theorem dX10_door_104 : decode cX10_door 104 = .ok (.iload_n 1, 1) := by decide +kernel
theorem dX10_door_105 : decode cX10_door 105 = .ok (.iaload, 1) := by decide +kernel
theorem dX10_door_106 : decode cX10_door 106 = .ok (.invokevirtual 197, 3) := by decide +kernel
theorem dX10_door_109 : decode cX10_door 109 = .ok (.ireturn, 1) := by decide +kernel
theorem dX10_door_110 : decode cX10_door 110 = .ok (.aload_n 0, 1) := by decide +kernel
theorem dX10_door_111 : decode cX10_door 111 = .ok (.aload_n 3, 1) := by decide +kernel
theorem dX10_door_112 : decode cX10_door 112 = .ok (.getfield 286, 3) := by decide +kernel
theorem dX10_door_115 : decode cX10_door 115 = .ok (.iload_n 1, 1) := by decide +kernel
theorem dX10_door_116 : decode cX10_door 116 = .ok (.iaload, 1) := by decide +kernel
theorem dX10_door_117 : decode cX10_door 117 = .ok (.invokevirtual 197, 3) := by decide +kernel
theorem dX10_door_120 : decode cX10_door 120 = .ok (.ireturn, 1) := by decide +kernel
theorem dX10_door_121 : decode cX10_door 121 = .ok (.aload_n 0, 1) := by decide +kernel
theorem dX10_door_122 : decode cX10_door 122 = .ok (.aload_n 3, 1) := by decide +kernel
theorem dX10_door_123 : decode cX10_door 123 = .ok (.iload_n 1, 1) := by decide +kernel
theorem dX10_door_124 : decode cX10_door 124 = .ok (.invokevirtual 289, 3) := by decide +kernel
theorem dX10_door_127 : decode cX10_door 127 = .ok (.invokevirtual 197, 3) := by decide +kernel
theorem dX10_door_130 : decode cX10_door 130 = .ok (.ireturn, 1) := by decide +kernel
theorem dX10_door_131 : decode cX10_door 131 = .ok (.aload_n 0, 1) := by decide +kernel
theorem dX10_door_132 : decode cX10_door 132 = .ok (.iconst 1, 1) := by decide +kernel
theorem dX10_door_133 : decode cX10_door 133 = .ok (.invokevirtual 143, 3) := by decide +kernel
theorem dX10_door_136 : decode cX10_door 136 = .ok (.ireturn, 1) := by decide +kernel
theorem dX10_endAsTold_0 : decode cX10_endAsTold 0 = .ok (.iload_n 0, 1) := by decide +kernel
theorem dX10_endAsTold_1 : decode cX10_endAsTold 1 = .ok (.bipush 7, 2) := by decide +kernel
theorem dX10_endAsTold_3 : decode cX10_endAsTold 3 = .ok (.if_icmp .ne 7, 3) := by decide +kernel
theorem dX10_endAsTold_6 : decode cX10_endAsTold 6 = .ok (.iconst (-1), 1) := by decide +kernel
theorem dX10_endAsTold_7 : decode cX10_endAsTold 7 = .ok (.goto 4, 3) := by decide +kernel
theorem dX10_endAsTold_10 : decode cX10_endAsTold 10 = .ok (.iload_n 0, 1) := by decide +kernel
theorem dX10_endAsTold_11 : decode cX10_endAsTold 11 = .ok (.ireturn, 1) := by decide +kernel
theorem dX10_errand_0 : decode cX10_errand 0 = .ok (.iload_n 1, 1) := by decide +kernel
theorem dX10_errand_1 : decode cX10_errand 1 = .ok (.ifCond .lt 14, 3) := by decide +kernel
theorem dX10_errand_4 : decode cX10_errand 4 = .ok (.iload_n 1, 1) := by decide +kernel
theorem dX10_errand_5 : decode cX10_errand 5 = .ok (.aload_n 0, 1) := by decide +kernel
theorem dX10_errand_6 : decode cX10_errand 6 = .ok (.getfield 12, 3) := by decide +kernel
theorem dX10_errand_9 : decode cX10_errand 9 = .ok (.getfield 218, 3) := by decide +kernel
theorem dX10_errand_12 : decode cX10_errand 12 = .ok (.if_icmp .lt 9, 3) := by decide +kernel
theorem dX10_errand_15 : decode cX10_errand 15 = .ok (.aload_n 0, 1) := by decide +kernel
theorem dX10_errand_16 : decode cX10_errand 16 = .ok (.iconst 1, 1) := by decide +kernel
theorem dX10_errand_17 : decode cX10_errand 17 = .ok (.invokevirtual 143, 3) := by decide +kernel
theorem dX10_errand_20 : decode cX10_errand 20 = .ok (.ireturn, 1) := by decide +kernel
theorem dX10_errand_21 : decode cX10_errand 21 = .ok (.iload_n 2, 1) := by decide +kernel
theorem dX10_errand_22 : decode cX10_errand 22 = .ok (.tableswitch 68 0 2 #[26, 40, 54], 26) := by decide +kernel
theorem dX10_errand_48 : decode cX10_errand 48 = .ok (.aload_n 0, 1) := by decide +kernel
theorem dX10_errand_49 : decode cX10_errand 49 = .ok (.aload_n 0, 1) := by decide +kernel
theorem dX10_errand_50 : decode cX10_errand 50 = .ok (.getfield 12, 3) := by decide +kernel
theorem dX10_errand_53 : decode cX10_errand 53 = .ok (.getfield 292, 3) := by decide +kernel
theorem dX10_errand_56 : decode cX10_errand 56 = .ok (.iload_n 1, 1) := by decide +kernel
theorem dX10_errand_57 : decode cX10_errand 57 = .ok (.iaload, 1) := by decide +kernel
theorem dX10_errand_58 : decode cX10_errand 58 = .ok (.invokevirtual 197, 3) := by decide +kernel
theorem dX10_errand_61 : decode cX10_errand 61 = .ok (.ireturn, 1) := by decide +kernel
theorem dX10_errand_62 : decode cX10_errand 62 = .ok (.aload_n 0, 1) := by decide +kernel
theorem dX10_errand_63 : decode cX10_errand 63 = .ok (.aload_n 0, 1) := by decide +kernel
theorem dX10_errand_64 : decode cX10_errand 64 = .ok (.getfield 12, 3) := by decide +kernel
theorem dX10_errand_67 : decode cX10_errand 67 = .ok (.getfield 295, 3) := by decide +kernel
theorem dX10_errand_70 : decode cX10_errand 70 = .ok (.iload_n 1, 1) := by decide +kernel
theorem dX10_errand_71 : decode cX10_errand 71 = .ok (.iaload, 1) := by decide +kernel
theorem dX10_errand_72 : decode cX10_errand 72 = .ok (.invokevirtual 197, 3) := by decide +kernel
theorem dX10_errand_75 : decode cX10_errand 75 = .ok (.ireturn, 1) := by decide +kernel
theorem dX10_errand_76 : decode cX10_errand 76 = .ok (.aload_n 0, 1) := by decide +kernel
theorem dX10_errand_77 : decode cX10_errand 77 = .ok (.aload_n 0, 1) := by decide +kernel
theorem dX10_errand_78 : decode cX10_errand 78 = .ok (.getfield 12, 3) := by decide +kernel
theorem dX10_errand_81 : decode cX10_errand 81 = .ok (.getfield 298, 3) := by decide +kernel
theorem dX10_errand_84 : decode cX10_errand 84 = .ok (.iload_n 1, 1) := by decide +kernel
theorem dX10_errand_85 : decode cX10_errand 85 = .ok (.iaload, 1) := by decide +kernel
theorem dX10_errand_86 : decode cX10_errand 86 = .ok (.invokevirtual 197, 3) := by decide +kernel
theorem dX10_errand_89 : decode cX10_errand 89 = .ok (.ireturn, 1) := by decide +kernel
theorem dX10_errand_90 : decode cX10_errand 90 = .ok (.aload_n 0, 1) := by decide +kernel
theorem dX10_errand_91 : decode cX10_errand 91 = .ok (.iconst 1, 1) := by decide +kernel
theorem dX10_errand_92 : decode cX10_errand 92 = .ok (.invokevirtual 143, 3) := by decide +kernel
theorem dX10_errand_95 : decode cX10_errand 95 = .ok (.ireturn, 1) := by decide +kernel
theorem dX10_tide_0 : decode cX10_tide 0 = .ok (.iload_n 1, 1) := by decide +kernel
theorem dX10_tide_1 : decode cX10_tide 1 = .ok (.invokestatic 301, 3) := by decide +kernel
theorem dX10_tide_4 : decode cX10_tide 4 = .ok (.ifCond .eq 19, 3) := by decide +kernel
theorem dX10_tide_7 : decode cX10_tide 7 = .ok (.aload_n 0, 1) := by decide +kernel
theorem dX10_tide_8 : decode cX10_tide 8 = .ok (.aload_n 0, 1) := by decide +kernel
theorem dX10_tide_9 : decode cX10_tide 9 = .ok (.getfield 12, 3) := by decide +kernel
theorem dX10_tide_12 : decode cX10_tide 12 = .ok (.getfield 304, 3) := by decide +kernel
theorem dX10_tide_15 : decode cX10_tide 15 = .ok (.iload_n 1, 1) := by decide +kernel
theorem dX10_tide_16 : decode cX10_tide 16 = .ok (.iaload, 1) := by decide +kernel
theorem dX10_tide_17 : decode cX10_tide 17 = .ok (.invokevirtual 197, 3) := by decide +kernel
theorem dX10_tide_20 : decode cX10_tide 20 = .ok (.goto 8, 3) := by decide +kernel
theorem dX10_tide_23 : decode cX10_tide 23 = .ok (.aload_n 0, 1) := by decide +kernel
theorem dX10_tide_24 : decode cX10_tide 24 = .ok (.iconst 1, 1) := by decide +kernel
theorem dX10_tide_25 : decode cX10_tide 25 = .ok (.invokevirtual 143, 3) := by decide +kernel
theorem dX10_tide_28 : decode cX10_tide 28 = .ok (.ireturn, 1) := by decide +kernel
theorem dX10_asItFlows_0 : decode cX10_asItFlows 0 = .ok (.aload_n 0, 1) := by decide +kernel
theorem dX10_asItFlows_1 : decode cX10_asItFlows 1 = .ok (.getfield 12, 3) := by decide +kernel
theorem dX10_asItFlows_4 : decode cX10_asItFlows 4 = .ok (.invokevirtual 307, 3) := by decide +kernel
theorem dX10_asItFlows_7 : decode cX10_asItFlows 7 = .ok (.aload_n 0, 1) := by decide +kernel
theorem dX10_asItFlows_8 : decode cX10_asItFlows 8 = .ok (.getfield 12, 3) := by decide +kernel
theorem dX10_asItFlows_11 : decode cX10_asItFlows 11 = .ok (.invokevirtual 310, 3) := by decide +kernel
theorem dX10_asItFlows_14 : decode cX10_asItFlows 14 = .ok (.aload_n 0, 1) := by decide +kernel
theorem dX10_asItFlows_15 : decode cX10_asItFlows 15 = .ok (.getfield 12, 3) := by decide +kernel
theorem dX10_asItFlows_18 : decode cX10_asItFlows 18 = .ok (.areturn, 1) := by decide +kernel
theorem dX10_drive_0 : decode cX10_drive 0 = .ok (.aload_n 0, 1) := by decide +kernel
theorem dX10_drive_1 : decode cX10_drive 1 = .ok (.iload_n 1, 1) := by decide +kernel
theorem dX10_drive_2 : decode cX10_drive 2 = .ok (.invokevirtual 268, 3) := by decide +kernel
theorem dX10_drive_5 : decode cX10_drive 5 = .ok (.ifCond .ne 9, 3) := by decide +kernel
theorem dX10_drive_8 : decode cX10_drive 8 = .ok (.aload_n 0, 1) := by decide +kernel
theorem dX10_drive_9 : decode cX10_drive 9 = .ok (.iconst 1, 1) := by decide +kernel
theorem dX10_drive_10 : decode cX10_drive 10 = .ok (.invokevirtual 143, 3) := by decide +kernel
theorem dX10_drive_13 : decode cX10_drive 13 = .ok (.ireturn, 1) := by decide +kernel
theorem dX10_drive_14 : decode cX10_drive 14 = .ok (.aload_n 0, 1) := by decide +kernel
theorem dX10_drive_15 : decode cX10_drive 15 = .ok (.aload_n 0, 1) := by decide +kernel
theorem dX10_drive_16 : decode cX10_drive 16 = .ok (.invokevirtual 313, 3) := by decide +kernel
theorem dX10_drive_19 : decode cX10_drive 19 = .ok (.getfield 317, 3) := by decide +kernel
theorem dX10_drive_22 : decode cX10_drive 22 = .ok (.iload_n 1, 1) := by decide +kernel
theorem dX10_drive_23 : decode cX10_drive 23 = .ok (.iaload, 1) := by decide +kernel
theorem dX10_drive_24 : decode cX10_drive 24 = .ok (.invokevirtual 197, 3) := by decide +kernel
theorem dX10_drive_27 : decode cX10_drive 27 = .ok (.ireturn, 1) := by decide +kernel
theorem dX10_flow_0 : decode cX10_flow 0 = .ok (.aload_n 0, 1) := by decide +kernel
theorem dX10_flow_1 : decode cX10_flow 1 = .ok (.iload_n 1, 1) := by decide +kernel
theorem dX10_flow_2 : decode cX10_flow 2 = .ok (.invokevirtual 268, 3) := by decide +kernel
theorem dX10_flow_5 : decode cX10_flow 5 = .ok (.ifCond .ne 9, 3) := by decide +kernel
theorem dX10_flow_8 : decode cX10_flow 8 = .ok (.aload_n 0, 1) := by decide +kernel
theorem dX10_flow_9 : decode cX10_flow 9 = .ok (.iconst 1, 1) := by decide +kernel
theorem dX10_flow_10 : decode cX10_flow 10 = .ok (.invokevirtual 143, 3) := by decide +kernel
theorem dX10_flow_13 : decode cX10_flow 13 = .ok (.ireturn, 1) := by decide +kernel
theorem dX10_flow_14 : decode cX10_flow 14 = .ok (.aload_n 0, 1) := by decide +kernel
theorem dX10_flow_15 : decode cX10_flow 15 = .ok (.aload_n 0, 1) := by decide +kernel
theorem dX10_flow_16 : decode cX10_flow 16 = .ok (.invokevirtual 313, 3) := by decide +kernel
theorem dX10_flow_19 : decode cX10_flow 19 = .ok (.getfield 320, 3) := by decide +kernel
theorem dX10_flow_22 : decode cX10_flow 22 = .ok (.iload_n 1, 1) := by decide +kernel
theorem dX10_flow_23 : decode cX10_flow 23 = .ok (.iaload, 1) := by decide +kernel
theorem dX10_flow_24 : decode cX10_flow 24 = .ok (.invokevirtual 197, 3) := by decide +kernel
theorem dX10_flow_27 : decode cX10_flow 27 = .ok (.ireturn, 1) := by decide +kernel
theorem dX10_flowOpen_0 : decode cX10_flowOpen 0 = .ok (.aload_n 0, 1) := by decide +kernel
theorem dX10_flowOpen_1 : decode cX10_flowOpen 1 = .ok (.iload_n 1, 1) := by decide +kernel
theorem dX10_flowOpen_2 : decode cX10_flowOpen 2 = .ok (.invokevirtual 268, 3) := by decide +kernel
theorem dX10_flowOpen_5 : decode cX10_flowOpen 5 = .ok (.ifCond .ne 9, 3) := by decide +kernel
theorem dX10_flowOpen_8 : decode cX10_flowOpen 8 = .ok (.aload_n 0, 1) := by decide +kernel
theorem dX10_flowOpen_9 : decode cX10_flowOpen 9 = .ok (.iconst 1, 1) := by decide +kernel
theorem dX10_flowOpen_10 : decode cX10_flowOpen 10 = .ok (.invokevirtual 143, 3) := by decide +kernel
theorem dX10_flowOpen_13 : decode cX10_flowOpen 13 = .ok (.ireturn, 1) := by decide +kernel
theorem dX10_flowOpen_14 : decode cX10_flowOpen 14 = .ok (.aload_n 0, 1) := by decide +kernel
theorem dX10_flowOpen_15 : decode cX10_flowOpen 15 = .ok (.aload_n 0, 1) := by decide +kernel
theorem dX10_flowOpen_16 : decode cX10_flowOpen 16 = .ok (.invokevirtual 313, 3) := by decide +kernel
theorem dX10_flowOpen_19 : decode cX10_flowOpen 19 = .ok (.getfield 323, 3) := by decide +kernel
theorem dX10_flowOpen_22 : decode cX10_flowOpen 22 = .ok (.iload_n 1, 1) := by decide +kernel
theorem dX10_flowOpen_23 : decode cX10_flowOpen 23 = .ok (.iaload, 1) := by decide +kernel
theorem dX10_flowOpen_24 : decode cX10_flowOpen 24 = .ok (.invokevirtual 197, 3) := by decide +kernel
theorem dX10_flowOpen_27 : decode cX10_flowOpen 27 = .ok (.ireturn, 1) := by decide +kernel
theorem dX10_deepest_0 : decode cX10_deepest 0 = .ok (.iconst (-1), 1) := by decide +kernel
theorem dX10_deepest_1 : decode cX10_deepest 1 = .ok (.istore_n 1, 1) := by decide +kernel
theorem dX10_deepest_2 : decode cX10_deepest 2 = .ok (.iconst 0, 1) := by decide +kernel
theorem dX10_deepest_3 : decode cX10_deepest 3 = .ok (.istore_n 2, 1) := by decide +kernel
theorem dX10_deepest_4 : decode cX10_deepest 4 = .ok (.iconst 0, 1) := by decide +kernel
theorem dX10_deepest_5 : decode cX10_deepest 5 = .ok (.istore_n 3, 1) := by decide +kernel
theorem dX10_deepest_6 : decode cX10_deepest 6 = .ok (.iload_n 3, 1) := by decide +kernel
theorem dX10_deepest_7 : decode cX10_deepest 7 = .ok (.aload_n 0, 1) := by decide +kernel
theorem dX10_deepest_8 : decode cX10_deepest 8 = .ok (.getfield 12, 3) := by decide +kernel
theorem dX10_deepest_11 : decode cX10_deepest 11 = .ok (.getfield 90, 3) := by decide +kernel
theorem dX10_deepest_14 : decode cX10_deepest 14 = .ok (.getfield 94, 3) := by decide +kernel
theorem dX10_deepest_17 : decode cX10_deepest 17 = .ok (.if_icmp .ge 38, 3) := by decide +kernel
theorem dX10_deepest_20 : decode cX10_deepest 20 = .ok (.aload_n 0, 1) := by decide +kernel
theorem dX10_deepest_21 : decode cX10_deepest 21 = .ok (.getfield 12, 3) := by decide +kernel
theorem dX10_deepest_24 : decode cX10_deepest 24 = .ok (.getfield 90, 3) := by decide +kernel
theorem dX10_deepest_27 : decode cX10_deepest 27 = .ok (.iload_n 3, 1) := by decide +kernel
theorem dX10_deepest_28 : decode cX10_deepest 28 = .ok (.invokevirtual 262, 3) := by decide +kernel
theorem dX10_deepest_31 : decode cX10_deepest 31 = .ok (.iload_n 2, 1) := by decide +kernel
theorem dX10_deepest_32 : decode cX10_deepest 32 = .ok (.if_icmp .le 17, 3) := by decide +kernel
theorem dX10_deepest_35 : decode cX10_deepest 35 = .ok (.aload_n 0, 1) := by decide +kernel
theorem dX10_deepest_36 : decode cX10_deepest 36 = .ok (.getfield 12, 3) := by decide +kernel
theorem dX10_deepest_39 : decode cX10_deepest 39 = .ok (.getfield 90, 3) := by decide +kernel
theorem dX10_deepest_42 : decode cX10_deepest 42 = .ok (.iload_n 3, 1) := by decide +kernel
theorem dX10_deepest_43 : decode cX10_deepest 43 = .ok (.invokevirtual 262, 3) := by decide +kernel
theorem dX10_deepest_46 : decode cX10_deepest 46 = .ok (.istore_n 2, 1) := by decide +kernel
theorem dX10_deepest_47 : decode cX10_deepest 47 = .ok (.iload_n 3, 1) := by decide +kernel
theorem dX10_deepest_48 : decode cX10_deepest 48 = .ok (.istore_n 1, 1) := by decide +kernel
theorem dX10_deepest_49 : decode cX10_deepest 49 = .ok (.iinc 3 1, 3) := by decide +kernel
theorem dX10_deepest_52 : decode cX10_deepest 52 = .ok (.goto (-46), 3) := by decide +kernel
theorem dX10_deepest_55 : decode cX10_deepest 55 = .ok (.iload_n 1, 1) := by decide +kernel
theorem dX10_deepest_56 : decode cX10_deepest 56 = .ok (.iconst (-1), 1) := by decide +kernel
theorem dX10_deepest_57 : decode cX10_deepest 57 = .ok (.if_icmp .ne 12, 3) := by decide +kernel
theorem dX10_deepest_60 : decode cX10_deepest 60 = .ok (.aload_n 0, 1) := by decide +kernel
theorem dX10_deepest_61 : decode cX10_deepest 61 = .ok (.bipush 6, 2) := by decide +kernel
theorem dX10_deepest_63 : decode cX10_deepest 63 = .ok (.invokevirtual 143, 3) := by decide +kernel
theorem dX10_deepest_66 : decode cX10_deepest 66 = .ok (.goto 8, 3) := by decide +kernel
theorem dX10_deepest_69 : decode cX10_deepest 69 = .ok (.aload_n 0, 1) := by decide +kernel
theorem dX10_deepest_70 : decode cX10_deepest 70 = .ok (.iload_n 1, 1) := by decide +kernel
theorem dX10_deepest_71 : decode cX10_deepest 71 = .ok (.invokevirtual 197, 3) := by decide +kernel
theorem dX10_deepest_74 : decode cX10_deepest 74 = .ok (.ireturn, 1) := by decide +kernel
theorem dX10_busiest_0 : decode cX10_busiest 0 = .ok (.aload_n 0, 1) := by decide +kernel
theorem dX10_busiest_1 : decode cX10_busiest 1 = .ok (.invokevirtual 313, 3) := by decide +kernel
theorem dX10_busiest_4 : decode cX10_busiest 4 = .ok (.getfield 320, 3) := by decide +kernel
theorem dX10_busiest_7 : decode cX10_busiest 7 = .ok (.astore_n 1, 1) := by decide +kernel
theorem dX10_busiest_8 : decode cX10_busiest 8 = .ok (.iconst (-1), 1) := by decide +kernel
theorem dX10_busiest_9 : decode cX10_busiest 9 = .ok (.istore_n 2, 1) := by decide +kernel
theorem dX10_busiest_10 : decode cX10_busiest 10 = .ok (.iconst 0, 1) := by decide +kernel
theorem dX10_busiest_11 : decode cX10_busiest 11 = .ok (.istore_n 3, 1) := by decide +kernel
theorem dX10_busiest_12 : decode cX10_busiest 12 = .ok (.iconst 0, 1) := by decide +kernel
theorem dX10_busiest_13 : decode cX10_busiest 13 = .ok (.istore 4, 2) := by decide +kernel
theorem dX10_busiest_15 : decode cX10_busiest 15 = .ok (.iload 4, 2) := by decide +kernel
theorem dX10_busiest_17 : decode cX10_busiest 17 = .ok (.aload_n 0, 1) := by decide +kernel
theorem dX10_busiest_18 : decode cX10_busiest 18 = .ok (.getfield 12, 3) := by decide +kernel
theorem dX10_busiest_21 : decode cX10_busiest 21 = .ok (.getfield 99, 3) := by decide +kernel
theorem dX10_busiest_24 : decode cX10_busiest 24 = .ok (.getfield 103, 3) := by decide +kernel
theorem dX10_busiest_27 : decode cX10_busiest 27 = .ok (.if_icmp .ge 31, 3) := by decide +kernel
theorem dX10_busiest_30 : decode cX10_busiest 30 = .ok (.aload_n 1, 1) := by decide +kernel
theorem dX10_busiest_31 : decode cX10_busiest 31 = .ok (.iload 4, 2) := by decide +kernel
theorem dX10_busiest_33 : decode cX10_busiest 33 = .ok (.iaload, 1) := by decide +kernel
theorem dX10_busiest_34 : decode cX10_busiest 34 = .ok (.invokestatic 326, 3) := by decide +kernel
theorem dX10_busiest_37 : decode cX10_busiest 37 = .ok (.iload_n 3, 1) := by decide +kernel
theorem dX10_busiest_38 : decode cX10_busiest 38 = .ok (.if_icmp .le 14, 3) := by decide +kernel
theorem dX10_busiest_41 : decode cX10_busiest 41 = .ok (.aload_n 1, 1) := by decide +kernel
theorem dX10_busiest_42 : decode cX10_busiest 42 = .ok (.iload 4, 2) := by decide +kernel
theorem dX10_busiest_44 : decode cX10_busiest 44 = .ok (.iaload, 1) := by decide +kernel
theorem dX10_busiest_45 : decode cX10_busiest 45 = .ok (.invokestatic 326, 3) := by decide +kernel
theorem dX10_busiest_48 : decode cX10_busiest 48 = .ok (.istore_n 3, 1) := by decide +kernel
theorem dX10_busiest_49 : decode cX10_busiest 49 = .ok (.iload 4, 2) := by decide +kernel
theorem dX10_busiest_51 : decode cX10_busiest 51 = .ok (.istore_n 2, 1) := by decide +kernel
theorem dX10_busiest_52 : decode cX10_busiest 52 = .ok (.iinc 4 1, 3) := by decide +kernel
theorem dX10_busiest_55 : decode cX10_busiest 55 = .ok (.goto (-40), 3) := by decide +kernel
theorem dX10_busiest_58 : decode cX10_busiest 58 = .ok (.iload_n 2, 1) := by decide +kernel
theorem dX10_busiest_59 : decode cX10_busiest 59 = .ok (.iconst (-1), 1) := by decide +kernel
theorem dX10_busiest_60 : decode cX10_busiest 60 = .ok (.if_icmp .ne 12, 3) := by decide +kernel
theorem dX10_busiest_63 : decode cX10_busiest 63 = .ok (.aload_n 0, 1) := by decide +kernel
theorem dX10_busiest_64 : decode cX10_busiest 64 = .ok (.bipush 6, 2) := by decide +kernel
theorem dX10_busiest_66 : decode cX10_busiest 66 = .ok (.invokevirtual 143, 3) := by decide +kernel
theorem dX10_busiest_69 : decode cX10_busiest 69 = .ok (.goto 8, 3) := by decide +kernel
theorem dX10_busiest_72 : decode cX10_busiest 72 = .ok (.aload_n 0, 1) := by decide +kernel
theorem dX10_busiest_73 : decode cX10_busiest 73 = .ok (.iload_n 2, 1) := by decide +kernel
theorem dX10_busiest_74 : decode cX10_busiest 74 = .ok (.invokevirtual 197, 3) := by decide +kernel
theorem dX10_busiest_77 : decode cX10_busiest 77 = .ok (.ireturn, 1) := by decide +kernel
theorem dX10_spare_0 : decode cX10_spare 0 = .ok (.aload_n 0, 1) := by decide +kernel
theorem dX10_spare_1 : decode cX10_spare 1 = .ok (.iload_n 1, 1) := by decide +kernel
theorem dX10_spare_2 : decode cX10_spare 2 = .ok (.invokevirtual 243, 3) := by decide +kernel
theorem dX10_spare_5 : decode cX10_spare 5 = .ok (.ifCond .ne 9, 3) := by decide +kernel
theorem dX10_spare_8 : decode cX10_spare 8 = .ok (.aload_n 0, 1) := by decide +kernel
theorem dX10_spare_9 : decode cX10_spare 9 = .ok (.iconst 1, 1) := by decide +kernel
theorem dX10_spare_10 : decode cX10_spare 10 = .ok (.invokevirtual 143, 3) := by decide +kernel
theorem dX10_spare_13 : decode cX10_spare 13 = .ok (.ireturn, 1) := by decide +kernel
theorem dX10_spare_14 : decode cX10_spare 14 = .ok (.aload_n 0, 1) := by decide +kernel
theorem dX10_spare_15 : decode cX10_spare 15 = .ok (.getfield 12, 3) := by decide +kernel
theorem dX10_spare_18 : decode cX10_spare 18 = .ok (.getfield 90, 3) := by decide +kernel
theorem dX10_spare_21 : decode cX10_spare 21 = .ok (.astore_n 2, 1) := by decide +kernel
theorem dX10_spare_22 : decode cX10_spare 22 = .ok (.aload_n 2, 1) := by decide +kernel
theorem dX10_spare_23 : decode cX10_spare 23 = .ok (.getfield 250, 3) := by decide +kernel
theorem dX10_spare_26 : decode cX10_spare 26 = .ok (.iload_n 1, 1) := by decide +kernel
theorem dX10_spare_27 : decode cX10_spare 27 = .ok (.iaload, 1) := by decide +kernel
theorem dX10_spare_28 : decode cX10_spare 28 = .ok (.aload_n 2, 1) := by decide +kernel
theorem dX10_spare_29 : decode cX10_spare 29 = .ok (.getfield 253, 3) := by decide +kernel
theorem dX10_spare_32 : decode cX10_spare 32 = .ok (.iload_n 1, 1) := by decide +kernel
theorem dX10_spare_33 : decode cX10_spare 33 = .ok (.iaload, 1) := by decide +kernel
theorem dX10_spare_34 : decode cX10_spare 34 = .ok (.iconst 1, 1) := by decide +kernel
theorem dX10_spare_35 : decode cX10_spare 35 = .ok (.iadd, 1) := by decide +kernel
theorem dX10_spare_36 : decode cX10_spare 36 = .ok (.imul, 1) := by decide +kernel
theorem dX10_spare_37 : decode cX10_spare 37 = .ok (.iconst 1, 1) := by decide +kernel
theorem dX10_spare_38 : decode cX10_spare 38 = .ok (.isub, 1) := by decide +kernel
theorem dX10_spare_39 : decode cX10_spare 39 = .ok (.istore_n 3, 1) := by decide +kernel
theorem dX10_spare_40 : decode cX10_spare 40 = .ok (.aload_n 0, 1) := by decide +kernel
theorem dX10_spare_41 : decode cX10_spare 41 = .ok (.iconst 0, 1) := by decide +kernel
theorem dX10_spare_42 : decode cX10_spare 42 = .ok (.iload_n 3, 1) := by decide +kernel
theorem dX10_spare_43 : decode cX10_spare 43 = .ok (.aload_n 2, 1) := by decide +kernel
theorem dX10_spare_44 : decode cX10_spare 44 = .ok (.getfield 259, 3) := by decide +kernel
theorem dX10_spare_47 : decode cX10_spare 47 = .ok (.iload_n 1, 1) := by decide +kernel
theorem dX10_spare_48 : decode cX10_spare 48 = .ok (.iaload, 1) := by decide +kernel
theorem dX10_spare_49 : decode cX10_spare 49 = .ok (.isub, 1) := by decide +kernel
theorem dX10_spare_50 : decode cX10_spare 50 = .ok (.invokestatic 331, 3) := by decide +kernel
theorem dX10_spare_53 : decode cX10_spare 53 = .ok (.invokevirtual 197, 3) := by decide +kernel
theorem dX10_spare_56 : decode cX10_spare 56 = .ok (.ireturn, 1) := by decide +kernel
theorem dX10_low_0 : decode cX10_low 0 = .ok (.iconst 0, 1) := by decide +kernel
theorem dX10_low_1 : decode cX10_low 1 = .ok (.istore_n 1, 1) := by decide +kernel
theorem dX10_low_2 : decode cX10_low 2 = .ok (.iconst 1, 1) := by decide +kernel
theorem dX10_low_3 : decode cX10_low 3 = .ok (.istore_n 2, 1) := by decide +kernel
theorem dX10_low_4 : decode cX10_low 4 = .ok (.iload_n 2, 1) := by decide +kernel
theorem dX10_low_5 : decode cX10_low 5 = .ok (.bipush 12, 2) := by decide +kernel
theorem dX10_low_7 : decode cX10_low 7 = .ok (.if_icmp .ge 32, 3) := by decide +kernel
theorem dX10_low_10 : decode cX10_low 10 = .ok (.aload_n 0, 1) := by decide +kernel
theorem dX10_low_11 : decode cX10_low 11 = .ok (.getfield 12, 3) := by decide +kernel
theorem dX10_low_14 : decode cX10_low 14 = .ok (.getfield 304, 3) := by decide +kernel
theorem dX10_low_17 : decode cX10_low 17 = .ok (.iload_n 2, 1) := by decide +kernel
theorem dX10_low_18 : decode cX10_low 18 = .ok (.iaload, 1) := by decide +kernel
theorem dX10_low_19 : decode cX10_low 19 = .ok (.aload_n 0, 1) := by decide +kernel
theorem dX10_low_20 : decode cX10_low 20 = .ok (.getfield 12, 3) := by decide +kernel
theorem dX10_low_23 : decode cX10_low 23 = .ok (.getfield 304, 3) := by decide +kernel
theorem dX10_low_26 : decode cX10_low 26 = .ok (.iload_n 1, 1) := by decide +kernel
theorem dX10_low_27 : decode cX10_low 27 = .ok (.iaload, 1) := by decide +kernel
theorem dX10_low_28 : decode cX10_low 28 = .ok (.if_icmp .ge 5, 3) := by decide +kernel
theorem dX10_low_31 : decode cX10_low 31 = .ok (.iload_n 2, 1) := by decide +kernel
theorem dX10_low_32 : decode cX10_low 32 = .ok (.istore_n 1, 1) := by decide +kernel
theorem dX10_low_33 : decode cX10_low 33 = .ok (.iinc 2 1, 3) := by decide +kernel
theorem dX10_low_36 : decode cX10_low 36 = .ok (.goto (-32), 3) := by decide +kernel
theorem dX10_low_39 : decode cX10_low 39 = .ok (.aload_n 0, 1) := by decide +kernel
theorem dX10_low_40 : decode cX10_low 40 = .ok (.iload_n 1, 1) := by decide +kernel
theorem dX10_low_41 : decode cX10_low 41 = .ok (.invokevirtual 197, 3) := by decide +kernel
theorem dX10_low_44 : decode cX10_low 44 = .ok (.ireturn, 1) := by decide +kernel
theorem dX10_high_0 : decode cX10_high 0 = .ok (.aload_n 0, 1) := by decide +kernel
theorem dX10_high_1 : decode cX10_high 1 = .ok (.iload_n 1, 1) := by decide +kernel
theorem dX10_high_2 : decode cX10_high 2 = .ok (.invokevirtual 268, 3) := by decide +kernel
theorem dX10_high_5 : decode cX10_high 5 = .ok (.ifCond .ne 9, 3) := by decide +kernel
theorem dX10_high_8 : decode cX10_high 8 = .ok (.aload_n 0, 1) := by decide +kernel
theorem dX10_high_9 : decode cX10_high 9 = .ok (.iconst 1, 1) := by decide +kernel
theorem dX10_high_10 : decode cX10_high 10 = .ok (.invokevirtual 143, 3) := by decide +kernel
theorem dX10_high_13 : decode cX10_high 13 = .ok (.ireturn, 1) := by decide +kernel
theorem dX10_high_14 : decode cX10_high 14 = .ok (.iconst 0, 1) := by decide +kernel
theorem dX10_high_15 : decode cX10_high 15 = .ok (.istore_n 2, 1) := by decide +kernel
theorem dX10_high_16 : decode cX10_high 16 = .ok (.iconst 0, 1) := by decide +kernel
theorem dX10_high_17 : decode cX10_high 17 = .ok (.istore_n 3, 1) := by decide +kernel
theorem dX10_high_18 : decode cX10_high 18 = .ok (.iload_n 3, 1) := by decide +kernel
theorem dX10_high_19 : decode cX10_high 19 = .ok (.bipush 12, 2) := by decide +kernel
theorem dX10_high_21 : decode cX10_high 21 = .ok (.if_icmp .ge 39, 3) := by decide +kernel
theorem dX10_high_24 : decode cX10_high 24 = .ok (.aload_n 0, 1) := by decide +kernel
theorem dX10_high_25 : decode cX10_high 25 = .ok (.getfield 12, 3) := by decide +kernel
theorem dX10_high_28 : decode cX10_high 28 = .ok (.getfield 304, 3) := by decide +kernel
theorem dX10_high_31 : decode cX10_high 31 = .ok (.iload_n 3, 1) := by decide +kernel
theorem dX10_high_32 : decode cX10_high 32 = .ok (.iaload, 1) := by decide +kernel
theorem dX10_high_33 : decode cX10_high 33 = .ok (.aload_n 0, 1) := by decide +kernel
theorem dX10_high_34 : decode cX10_high 34 = .ok (.getfield 12, 3) := by decide +kernel
theorem dX10_high_37 : decode cX10_high 37 = .ok (.getfield 99, 3) := by decide +kernel
theorem dX10_high_40 : decode cX10_high 40 = .ok (.getfield 280, 3) := by decide +kernel
theorem dX10_high_43 : decode cX10_high 43 = .ok (.iload_n 1, 1) := by decide +kernel
theorem dX10_high_44 : decode cX10_high 44 = .ok (.iaload, 1) := by decide +kernel
theorem dX10_high_45 : decode cX10_high 45 = .ok (.if_icmp .le 9, 3) := by decide +kernel
theorem dX10_high_48 : decode cX10_high 48 = .ok (.iload_n 2, 1) := by decide +kernel
theorem dX10_high_49 : decode cX10_high 49 = .ok (.iconst 1, 1) := by decide +kernel
theorem dX10_high_50 : decode cX10_high 50 = .ok (.iload_n 3, 1) := by decide +kernel
theorem dX10_high_51 : decode cX10_high 51 = .ok (.ishl, 1) := by decide +kernel
theorem dX10_high_52 : decode cX10_high 52 = .ok (.ior, 1) := by decide +kernel
theorem dX10_high_53 : decode cX10_high 53 = .ok (.istore_n 2, 1) := by decide +kernel
theorem dX10_high_54 : decode cX10_high 54 = .ok (.iinc 3 1, 3) := by decide +kernel
theorem dX10_high_57 : decode cX10_high 57 = .ok (.goto (-39), 3) := by decide +kernel
theorem dX10_high_60 : decode cX10_high 60 = .ok (.aload_n 0, 1) := by decide +kernel
theorem dX10_high_61 : decode cX10_high 61 = .ok (.iload_n 2, 1) := by decide +kernel
theorem dX10_high_62 : decode cX10_high 62 = .ok (.invokevirtual 197, 3) := by decide +kernel
theorem dX10_high_65 : decode cX10_high 65 = .ok (.ireturn, 1) := by decide +kernel
theorem dX10_linked_0 : decode cX10_linked 0 = .ok (.aload_n 0, 1) := by decide +kernel
theorem dX10_linked_1 : decode cX10_linked 1 = .ok (.iload_n 1, 1) := by decide +kernel
theorem dX10_linked_2 : decode cX10_linked 2 = .ok (.invokevirtual 243, 3) := by decide +kernel
theorem dX10_linked_5 : decode cX10_linked 5 = .ok (.ifCond .ne 9, 3) := by decide +kernel
theorem dX10_linked_8 : decode cX10_linked 8 = .ok (.aload_n 0, 1) := by decide +kernel
theorem dX10_linked_9 : decode cX10_linked 9 = .ok (.iconst 1, 1) := by decide +kernel
theorem dX10_linked_10 : decode cX10_linked 10 = .ok (.invokevirtual 143, 3) := by decide +kernel
theorem dX10_linked_13 : decode cX10_linked 13 = .ok (.ireturn, 1) := by decide +kernel
theorem dX10_linked_14 : decode cX10_linked 14 = .ok (.aload_n 0, 1) := by decide +kernel
theorem dX10_linked_15 : decode cX10_linked 15 = .ok (.getfield 12, 3) := by decide +kernel
theorem dX10_linked_18 : decode cX10_linked 18 = .ok (.getfield 99, 3) := by decide +kernel
theorem dX10_linked_21 : decode cX10_linked 21 = .ok (.astore_n 2, 1) := by decide +kernel
theorem dX10_linked_22 : decode cX10_linked 22 = .ok (.aload_n 2, 1) := by decide +kernel
theorem dX10_linked_23 : decode cX10_linked 23 = .ok (.invokevirtual 335, 3) := by decide +kernel
theorem dX10_linked_26 : decode cX10_linked 26 = .ok (.aload_n 2, 1) := by decide +kernel
theorem dX10_linked_27 : decode cX10_linked 27 = .ok (.getfield 240, 3) := by decide +kernel
theorem dX10_linked_30 : decode cX10_linked 30 = .ok (.iconst (-1), 1) := by decide +kernel
theorem dX10_linked_31 : decode cX10_linked 31 = .ok (.ixor, 1) := by decide +kernel
theorem dX10_linked_32 : decode cX10_linked 32 = .ok (.iand, 1) := by decide +kernel
theorem dX10_linked_33 : decode cX10_linked 33 = .ok (.aload_n 2, 1) := by decide +kernel
theorem dX10_linked_34 : decode cX10_linked 34 = .ok (.invokevirtual 338, 3) := by decide +kernel
theorem dX10_linked_37 : decode cX10_linked 37 = .ok (.iconst (-1), 1) := by decide +kernel
theorem dX10_linked_38 : decode cX10_linked 38 = .ok (.ixor, 1) := by decide +kernel
theorem dX10_linked_39 : decode cX10_linked 39 = .ok (.iand, 1) := by decide +kernel
theorem dX10_linked_40 : decode cX10_linked 40 = .ok (.istore_n 3, 1) := by decide +kernel
theorem dX10_linked_41 : decode cX10_linked 41 = .ok (.aload_n 0, 1) := by decide +kernel
theorem dX10_linked_42 : decode cX10_linked 42 = .ok (.aload_n 2, 1) := by decide +kernel
theorem dX10_linked_43 : decode cX10_linked 43 = .ok (.iconst 1, 1) := by decide +kernel
theorem dX10_linked_44 : decode cX10_linked 44 = .ok (.iload_n 1, 1) := by decide +kernel
theorem dX10_linked_45 : decode cX10_linked 45 = .ok (.ishl, 1) := by decide +kernel
theorem dX10_linked_46 : decode cX10_linked 46 = .ok (.iload_n 3, 1) := by decide +kernel
theorem dX10_linked_47 : decode cX10_linked 47 = .ok (.invokevirtual 341, 3) := by decide +kernel
theorem dX10_linked_50 : decode cX10_linked 50 = .ok (.invokevirtual 197, 3) := by decide +kernel
theorem dX10_linked_53 : decode cX10_linked 53 = .ok (.ireturn, 1) := by decide +kernel
theorem dX10_hour_0 : decode cX10_hour 0 = .ok (.iload_n 1, 1) := by decide +kernel
theorem dX10_hour_1 : decode cX10_hour 1 = .ok (.iconst 1, 1) := by decide +kernel
theorem dX10_hour_2 : decode cX10_hour 2 = .ok (.bipush 99, 2) := by decide +kernel
theorem dX10_hour_4 : decode cX10_hour 4 = .ok (.invokestatic 117, 3) := by decide +kernel
theorem dX10_hour_7 : decode cX10_hour 7 = .ok (.ifCond .ne 9, 3) := by decide +kernel
theorem dX10_hour_10 : decode cX10_hour 10 = .ok (.aload_n 0, 1) := by decide +kernel
theorem dX10_hour_11 : decode cX10_hour 11 = .ok (.iconst 1, 1) := by decide +kernel
theorem dX10_hour_12 : decode cX10_hour 12 = .ok (.invokevirtual 143, 3) := by decide +kernel
theorem dX10_hour_15 : decode cX10_hour 15 = .ok (.ireturn, 1) := by decide +kernel
theorem dX10_hour_16 : decode cX10_hour 16 = .ok (.aload_n 0, 1) := by decide +kernel
theorem dX10_hour_17 : decode cX10_hour 17 = .ok (.getfield 12, 3) := by decide +kernel
theorem dX10_hour_20 : decode cX10_hour 20 = .ok (.getfield 221, 3) := by decide +kernel
theorem dX10_hour_23 : decode cX10_hour 23 = .ok (.iload_n 1, 1) := by decide +kernel
theorem dX10_hour_24 : decode cX10_hour 24 = .ok (.iadd, 1) := by decide +kernel
theorem dX10_hour_25 : decode cX10_hour 25 = .ok (.sipush 9999, 3) := by decide +kernel
theorem dX10_hour_28 : decode cX10_hour 28 = .ok (.if_icmp .le 9, 3) := by decide +kernel
theorem dX10_hour_31 : decode cX10_hour 31 = .ok (.aload_n 0, 1) := by decide +kernel
theorem dX10_hour_32 : decode cX10_hour 32 = .ok (.iconst 4, 1) := by decide +kernel
theorem dX10_hour_33 : decode cX10_hour 33 = .ok (.invokevirtual 143, 3) := by decide +kernel
theorem dX10_hour_36 : decode cX10_hour 36 = .ok (.ireturn, 1) := by decide +kernel
theorem dX10_hour_37 : decode cX10_hour 37 = .ok (.aload_n 0, 1) := by decide +kernel
theorem dX10_hour_38 : decode cX10_hour 38 = .ok (.getfield 12, 3) := by decide +kernel
theorem dX10_hour_41 : decode cX10_hour 41 = .ok (.getfield 90, 3) := by decide +kernel
theorem dX10_hour_44 : decode cX10_hour 44 = .ok (.getfield 231, 3) := by decide +kernel
theorem dX10_hour_47 : decode cX10_hour 47 = .ok (.istore_n 2, 1) := by decide +kernel
theorem dX10_hour_48 : decode cX10_hour 48 = .ok (.aload_n 0, 1) := by decide +kernel
theorem dX10_hour_49 : decode cX10_hour 49 = .ok (.getfield 12, 3) := by decide +kernel
theorem dX10_hour_52 : decode cX10_hour 52 = .ok (.iload_n 1, 1) := by decide +kernel
theorem dX10_hour_53 : decode cX10_hour 53 = .ok (.invokevirtual 344, 3) := by decide +kernel
theorem dX10_hour_56 : decode cX10_hour 56 = .ok (.aload_n 0, 1) := by decide +kernel
theorem dX10_hour_57 : decode cX10_hour 57 = .ok (.aload_n 0, 1) := by decide +kernel
theorem dX10_hour_58 : decode cX10_hour 58 = .ok (.getfield 12, 3) := by decide +kernel
theorem dX10_hour_61 : decode cX10_hour 61 = .ok (.getfield 90, 3) := by decide +kernel
theorem dX10_hour_64 : decode cX10_hour 64 = .ok (.getfield 231, 3) := by decide +kernel
theorem dX10_hour_67 : decode cX10_hour 67 = .ok (.iload_n 2, 1) := by decide +kernel
theorem dX10_hour_68 : decode cX10_hour 68 = .ok (.iconst (-1), 1) := by decide +kernel
theorem dX10_hour_69 : decode cX10_hour 69 = .ok (.ixor, 1) := by decide +kernel
theorem dX10_hour_70 : decode cX10_hour 70 = .ok (.iand, 1) := by decide +kernel
theorem dX10_hour_71 : decode cX10_hour 71 = .ok (.invokevirtual 197, 3) := by decide +kernel
theorem dX10_hour_74 : decode cX10_hour 74 = .ok (.ireturn, 1) := by decide +kernel
theorem dX10_hold_0 : decode cX10_hold 0 = .ok (.aload_n 0, 1) := by decide +kernel
theorem dX10_hold_1 : decode cX10_hold 1 = .ok (.iload_n 1, 1) := by decide +kernel
theorem dX10_hold_2 : decode cX10_hold 2 = .ok (.invokevirtual 268, 3) := by decide +kernel
theorem dX10_hold_5 : decode cX10_hold 5 = .ok (.ifCond .ne 9, 3) := by decide +kernel
theorem dX10_hold_8 : decode cX10_hold 8 = .ok (.aload_n 0, 1) := by decide +kernel
theorem dX10_hold_9 : decode cX10_hold 9 = .ok (.iconst 1, 1) := by decide +kernel
theorem dX10_hold_10 : decode cX10_hold 10 = .ok (.invokevirtual 121, 3) := by decide +kernel
theorem dX10_hold_13 : decode cX10_hold 13 = .ok (.ireturn, 1) := by decide +kernel
theorem dX10_hold_14 : decode cX10_hold 14 = .ok (.aload_n 0, 1) := by decide +kernel
theorem dX10_hold_15 : decode cX10_hold 15 = .ok (.getfield 12, 3) := by decide +kernel
theorem dX10_hold_18 : decode cX10_hold 18 = .ok (.getfield 99, 3) := by decide +kernel
theorem dX10_hold_21 : decode cX10_hold 21 = .ok (.iload_n 1, 1) := by decide +kernel
theorem dX10_hold_22 : decode cX10_hold 22 = .ok (.invokevirtual 347, 3) := by decide +kernel
theorem dX10_hold_25 : decode cX10_hold 25 = .ok (.iload_n 2, 1) := by decide +kernel
theorem dX10_hold_26 : decode cX10_hold 26 = .ok (.if_icmp .ne 10, 3) := by decide +kernel
theorem dX10_hold_29 : decode cX10_hold 29 = .ok (.aload_n 0, 1) := by decide +kernel
theorem dX10_hold_30 : decode cX10_hold 30 = .ok (.bipush 7, 2) := by decide +kernel
theorem dX10_hold_32 : decode cX10_hold 32 = .ok (.invokevirtual 121, 3) := by decide +kernel
theorem dX10_hold_35 : decode cX10_hold 35 = .ok (.ireturn, 1) := by decide +kernel
theorem dX10_hold_36 : decode cX10_hold 36 = .ok (.aload_n 0, 1) := by decide +kernel
theorem dX10_hold_37 : decode cX10_hold 37 = .ok (.getfield 12, 3) := by decide +kernel
theorem dX10_hold_40 : decode cX10_hold 40 = .ok (.getfield 99, 3) := by decide +kernel
theorem dX10_hold_43 : decode cX10_hold 43 = .ok (.dup, 1) := by decide +kernel
theorem dX10_hold_44 : decode cX10_hold 44 = .ok (.getfield 237, 3) := by decide +kernel
theorem dX10_hold_47 : decode cX10_hold 47 = .ok (.iconst 1, 1) := by decide +kernel
theorem dX10_hold_48 : decode cX10_hold 48 = .ok (.iload_n 1, 1) := by decide +kernel
theorem dX10_hold_49 : decode cX10_hold 49 = .ok (.ishl, 1) := by decide +kernel
theorem dX10_hold_50 : decode cX10_hold 50 = .ok (.ixor, 1) := by decide +kernel
theorem dX10_hold_51 : decode cX10_hold 51 = .ok (.putfield 237, 3) := by decide +kernel
theorem dX10_hold_54 : decode cX10_hold 54 = .ok (.aload_n 0, 1) := by decide +kernel
theorem dX10_hold_55 : decode cX10_hold 55 = .ok (.invokevirtual 129, 3) := by decide +kernel
theorem dX10_hold_58 : decode cX10_hold 58 = .ok (.ireturn, 1) := by decide +kernel
theorem dX10_wall_0 : decode cX10_wall 0 = .ok (.aload_n 0, 1) := by decide +kernel
theorem dX10_wall_1 : decode cX10_wall 1 = .ok (.iload_n 1, 1) := by decide +kernel
theorem dX10_wall_2 : decode cX10_wall 2 = .ok (.invokevirtual 268, 3) := by decide +kernel
theorem dX10_wall_5 : decode cX10_wall 5 = .ok (.ifCond .ne 9, 3) := by decide +kernel
theorem dX10_wall_8 : decode cX10_wall 8 = .ok (.aload_n 0, 1) := by decide +kernel
theorem dX10_wall_9 : decode cX10_wall 9 = .ok (.iconst 1, 1) := by decide +kernel
theorem dX10_wall_10 : decode cX10_wall 10 = .ok (.invokevirtual 121, 3) := by decide +kernel
theorem dX10_wall_13 : decode cX10_wall 13 = .ok (.ireturn, 1) := by decide +kernel
theorem dX10_wall_14 : decode cX10_wall 14 = .ok (.aload_n 0, 1) := by decide +kernel
theorem dX10_wall_15 : decode cX10_wall 15 = .ok (.getfield 12, 3) := by decide +kernel
theorem dX10_wall_18 : decode cX10_wall 18 = .ok (.getfield 99, 3) := by decide +kernel
theorem dX10_wall_21 : decode cX10_wall 21 = .ok (.iload_n 1, 1) := by decide +kernel
theorem dX10_wall_22 : decode cX10_wall 22 = .ok (.invokevirtual 350, 3) := by decide +kernel
theorem dX10_wall_25 : decode cX10_wall 25 = .ok (.iload_n 2, 1) := by decide +kernel
theorem dX10_wall_26 : decode cX10_wall 26 = .ok (.if_icmp .ne 10, 3) := by decide +kernel
theorem dX10_wall_29 : decode cX10_wall 29 = .ok (.aload_n 0, 1) := by decide +kernel
theorem dX10_wall_30 : decode cX10_wall 30 = .ok (.bipush 7, 2) := by decide +kernel
theorem dX10_wall_32 : decode cX10_wall 32 = .ok (.invokevirtual 121, 3) := by decide +kernel
theorem dX10_wall_35 : decode cX10_wall 35 = .ok (.ireturn, 1) := by decide +kernel
theorem dX10_wall_36 : decode cX10_wall 36 = .ok (.aload_n 0, 1) := by decide +kernel
theorem dX10_wall_37 : decode cX10_wall 37 = .ok (.getfield 12, 3) := by decide +kernel
theorem dX10_wall_40 : decode cX10_wall 40 = .ok (.getfield 99, 3) := by decide +kernel
theorem dX10_wall_43 : decode cX10_wall 43 = .ok (.dup, 1) := by decide +kernel
theorem dX10_wall_44 : decode cX10_wall 44 = .ok (.getfield 240, 3) := by decide +kernel
theorem dX10_wall_47 : decode cX10_wall 47 = .ok (.iconst 1, 1) := by decide +kernel
theorem dX10_wall_48 : decode cX10_wall 48 = .ok (.iload_n 1, 1) := by decide +kernel
theorem dX10_wall_49 : decode cX10_wall 49 = .ok (.ishl, 1) := by decide +kernel
theorem dX10_wall_50 : decode cX10_wall 50 = .ok (.ixor, 1) := by decide +kernel
theorem dX10_wall_51 : decode cX10_wall 51 = .ok (.putfield 240, 3) := by decide +kernel
theorem dX10_wall_54 : decode cX10_wall 54 = .ok (.aload_n 0, 1) := by decide +kernel
theorem dX10_wall_55 : decode cX10_wall 55 = .ok (.invokevirtual 129, 3) := by decide +kernel
theorem dX10_wall_58 : decode cX10_wall 58 = .ok (.ireturn, 1) := by decide +kernel
theorem dX10_bail_0 : decode cX10_bail 0 = .ok (.aload_n 0, 1) := by decide +kernel
theorem dX10_bail_1 : decode cX10_bail 1 = .ok (.iload_n 1, 1) := by decide +kernel
theorem dX10_bail_2 : decode cX10_bail 2 = .ok (.invokevirtual 243, 3) := by decide +kernel
theorem dX10_bail_5 : decode cX10_bail 5 = .ok (.ifCond .eq 14, 3) := by decide +kernel
theorem dX10_bail_8 : decode cX10_bail 8 = .ok (.iload_n 2, 1) := by decide +kernel
theorem dX10_bail_9 : decode cX10_bail 9 = .ok (.iconst 1, 1) := by decide +kernel
theorem dX10_bail_10 : decode cX10_bail 10 = .ok (.sipush 999, 3) := by decide +kernel
theorem dX10_bail_13 : decode cX10_bail 13 = .ok (.invokestatic 117, 3) := by decide +kernel
theorem dX10_bail_16 : decode cX10_bail 16 = .ok (.ifCond .ne 9, 3) := by decide +kernel
theorem dX10_bail_19 : decode cX10_bail 19 = .ok (.aload_n 0, 1) := by decide +kernel
theorem dX10_bail_20 : decode cX10_bail 20 = .ok (.iconst 1, 1) := by decide +kernel
theorem dX10_bail_21 : decode cX10_bail 21 = .ok (.invokevirtual 143, 3) := by decide +kernel
theorem dX10_bail_24 : decode cX10_bail 24 = .ok (.ireturn, 1) := by decide +kernel
theorem dX10_bail_25 : decode cX10_bail 25 = .ok (.aload_n 0, 1) := by decide +kernel
theorem dX10_bail_26 : decode cX10_bail 26 = .ok (.getfield 12, 3) := by decide +kernel
theorem dX10_bail_29 : decode cX10_bail 29 = .ok (.getfield 90, 3) := by decide +kernel
theorem dX10_bail_32 : decode cX10_bail 32 = .ok (.getfield 259, 3) := by decide +kernel
theorem dX10_bail_35 : decode cX10_bail 35 = .ok (.iload_n 1, 1) := by decide +kernel
theorem dX10_bail_36 : decode cX10_bail 36 = .ok (.iaload, 1) := by decide +kernel
theorem dX10_bail_37 : decode cX10_bail 37 = .ok (.iload_n 2, 1) := by decide +kernel
theorem dX10_bail_38 : decode cX10_bail 38 = .ok (.if_icmp .ge 10, 3) := by decide +kernel
theorem dX10_bail_41 : decode cX10_bail 41 = .ok (.aload_n 0, 1) := by decide +kernel
theorem dX10_bail_42 : decode cX10_bail 42 = .ok (.bipush 7, 2) := by decide +kernel
theorem dX10_bail_44 : decode cX10_bail 44 = .ok (.invokevirtual 143, 3) := by decide +kernel
theorem dX10_bail_47 : decode cX10_bail 47 = .ok (.ireturn, 1) := by decide +kernel
theorem dX10_bail_48 : decode cX10_bail 48 = .ok (.aload_n 0, 1) := by decide +kernel
theorem dX10_bail_49 : decode cX10_bail 49 = .ok (.getfield 12, 3) := by decide +kernel
theorem dX10_bail_52 : decode cX10_bail 52 = .ok (.getfield 90, 3) := by decide +kernel
theorem dX10_bail_55 : decode cX10_bail 55 = .ok (.getfield 259, 3) := by decide +kernel
theorem dX10_bail_58 : decode cX10_bail 58 = .ok (.iload_n 1, 1) := by decide +kernel
theorem dX10_bail_59 : decode cX10_bail 59 = .ok (.dup2, 1) := by decide +kernel
theorem dX10_bail_60 : decode cX10_bail 60 = .ok (.iaload, 1) := by decide +kernel
theorem dX10_bail_61 : decode cX10_bail 61 = .ok (.iload_n 2, 1) := by decide +kernel
theorem dX10_bail_62 : decode cX10_bail 62 = .ok (.isub, 1) := by decide +kernel
theorem dX10_bail_63 : decode cX10_bail 63 = .ok (.iastore, 1) := by decide +kernel
theorem dX10_bail_64 : decode cX10_bail 64 = .ok (.aload_n 0, 1) := by decide +kernel
theorem dX10_bail_65 : decode cX10_bail 65 = .ok (.aload_n 0, 1) := by decide +kernel
theorem dX10_bail_66 : decode cX10_bail 66 = .ok (.getfield 12, 3) := by decide +kernel
theorem dX10_bail_69 : decode cX10_bail 69 = .ok (.getfield 90, 3) := by decide +kernel
theorem dX10_bail_72 : decode cX10_bail 72 = .ok (.getfield 259, 3) := by decide +kernel
theorem dX10_bail_75 : decode cX10_bail 75 = .ok (.iload_n 1, 1) := by decide +kernel
theorem dX10_bail_76 : decode cX10_bail 76 = .ok (.iaload, 1) := by decide +kernel
theorem dX10_bail_77 : decode cX10_bail 77 = .ok (.invokevirtual 197, 3) := by decide +kernel
theorem dX10_bail_80 : decode cX10_bail 80 = .ok (.ireturn, 1) := by decide +kernel
theorem dX10_wipe_0 : decode cX10_wipe 0 = .ok (.aload_n 0, 1) := by decide +kernel
theorem dX10_wipe_1 : decode cX10_wipe 1 = .ok (.aload_n 0, 1) := by decide +kernel
theorem dX10_wipe_2 : decode cX10_wipe 2 = .ok (.getfield 12, 3) := by decide +kernel
theorem dX10_wipe_5 : decode cX10_wipe 5 = .ok (.getfield 90, 3) := by decide +kernel
theorem dX10_wipe_8 : decode cX10_wipe 8 = .ok (.invokevirtual 353, 3) := by decide +kernel
theorem dX10_wipe_11 : decode cX10_wipe 11 = .ok (.invokevirtual 197, 3) := by decide +kernel
theorem dX10_wipe_14 : decode cX10_wipe 14 = .ok (.ireturn, 1) := by decide +kernel
theorem dX10_rota_0 : decode cX10_rota 0 = .ok (.iload_n 1, 1) := by decide +kernel
theorem dX10_rota_1 : decode cX10_rota 1 = .ok (.invokestatic 301, 3) := by decide +kernel
theorem dX10_rota_4 : decode cX10_rota 4 = .ok (.ifCond .eq 11, 3) := by decide +kernel
theorem dX10_rota_7 : decode cX10_rota 7 = .ok (.aload_n 0, 1) := by decide +kernel
theorem dX10_rota_8 : decode cX10_rota 8 = .ok (.iload_n 2, 1) := by decide +kernel
theorem dX10_rota_9 : decode cX10_rota 9 = .ok (.invokevirtual 268, 3) := by decide +kernel
theorem dX10_rota_12 : decode cX10_rota 12 = .ok (.ifCond .ne 9, 3) := by decide +kernel
theorem dX10_rota_15 : decode cX10_rota 15 = .ok (.aload_n 0, 1) := by decide +kernel
theorem dX10_rota_16 : decode cX10_rota 16 = .ok (.iconst 1, 1) := by decide +kernel
theorem dX10_rota_17 : decode cX10_rota 17 = .ok (.invokevirtual 121, 3) := by decide +kernel
theorem dX10_rota_20 : decode cX10_rota 20 = .ok (.ireturn, 1) := by decide +kernel
theorem dX10_rota_21 : decode cX10_rota 21 = .ok (.aload_n 0, 1) := by decide +kernel
theorem dX10_rota_22 : decode cX10_rota 22 = .ok (.getfield 12, 3) := by decide +kernel
theorem dX10_rota_25 : decode cX10_rota 25 = .ok (.getfield 99, 3) := by decide +kernel
theorem dX10_rota_28 : decode cX10_rota 28 = .ok (.getfield 356, 3) := by decide +kernel
theorem dX10_rota_31 : decode cX10_rota 31 = .ok (.iload_n 1, 1) := by decide +kernel
theorem dX10_rota_32 : decode cX10_rota 32 = .ok (.iaload, 1) := by decide +kernel
theorem dX10_rota_33 : decode cX10_rota 33 = .ok (.iload_n 2, 1) := by decide +kernel
theorem dX10_rota_34 : decode cX10_rota 34 = .ok (.ishr, 1) := by decide +kernel
theorem dX10_rota_35 : decode cX10_rota 35 = .ok (.iconst 1, 1) := by decide +kernel
theorem dX10_rota_36 : decode cX10_rota 36 = .ok (.iand, 1) := by decide +kernel
theorem dX10_rota_37 : decode cX10_rota 37 = .ok (.iconst 1, 1) := by decide +kernel
theorem dX10_rota_38 : decode cX10_rota 38 = .ok (.if_icmp .ne 7, 3) := by decide +kernel
theorem dX10_rota_41 : decode cX10_rota 41 = .ok (.iconst 1, 1) := by decide +kernel
theorem dX10_rota_42 : decode cX10_rota 42 = .ok (.goto 4, 3) := by decide +kernel
theorem dX10_rota_45 : decode cX10_rota 45 = .ok (.iconst 0, 1) := by decide +kernel
theorem dX10_rota_46 : decode cX10_rota 46 = .ok (.istore 4, 2) := by decide +kernel
theorem dX10_rota_48 : decode cX10_rota 48 = .ok (.iload 4, 2) := by decide +kernel
theorem dX10_rota_50 : decode cX10_rota 50 = .ok (.iload_n 3, 1) := by decide +kernel
theorem dX10_rota_51 : decode cX10_rota 51 = .ok (.if_icmp .ne 10, 3) := by decide +kernel
theorem dX10_rota_54 : decode cX10_rota 54 = .ok (.aload_n 0, 1) := by decide +kernel
theorem dX10_rota_55 : decode cX10_rota 55 = .ok (.bipush 7, 2) := by decide +kernel
theorem dX10_rota_57 : decode cX10_rota 57 = .ok (.invokevirtual 121, 3) := by decide +kernel
theorem dX10_rota_60 : decode cX10_rota 60 = .ok (.ireturn, 1) := by decide +kernel
theorem dX10_rota_61 : decode cX10_rota 61 = .ok (.aload_n 0, 1) := by decide +kernel
theorem dX10_rota_62 : decode cX10_rota 62 = .ok (.getfield 12, 3) := by decide +kernel
theorem dX10_rota_65 : decode cX10_rota 65 = .ok (.getfield 99, 3) := by decide +kernel
theorem dX10_rota_68 : decode cX10_rota 68 = .ok (.getfield 356, 3) := by decide +kernel
theorem dX10_rota_71 : decode cX10_rota 71 = .ok (.iload_n 1, 1) := by decide +kernel
theorem dX10_rota_72 : decode cX10_rota 72 = .ok (.dup2, 1) := by decide +kernel
theorem dX10_rota_73 : decode cX10_rota 73 = .ok (.iaload, 1) := by decide +kernel
theorem dX10_rota_74 : decode cX10_rota 74 = .ok (.iconst 1, 1) := by decide +kernel
theorem dX10_rota_75 : decode cX10_rota 75 = .ok (.iload_n 2, 1) := by decide +kernel
theorem dX10_rota_76 : decode cX10_rota 76 = .ok (.ishl, 1) := by decide +kernel
theorem dX10_rota_77 : decode cX10_rota 77 = .ok (.ixor, 1) := by decide +kernel
theorem dX10_rota_78 : decode cX10_rota 78 = .ok (.iastore, 1) := by decide +kernel
theorem dX10_rota_79 : decode cX10_rota 79 = .ok (.aload_n 0, 1) := by decide +kernel
theorem dX10_rota_80 : decode cX10_rota 80 = .ok (.invokevirtual 129, 3) := by decide +kernel
theorem dX10_rota_83 : decode cX10_rota 83 = .ok (.ireturn, 1) := by decide +kernel
theorem dX10_moon_0 : decode cX10_moon 0 = .ok (.iload_n 1, 1) := by decide +kernel
theorem dX10_moon_1 : decode cX10_moon 1 = .ok (.invokestatic 301, 3) := by decide +kernel
theorem dX10_moon_4 : decode cX10_moon 4 = .ok (.ifCond .eq 13, 3) := by decide +kernel
theorem dX10_moon_7 : decode cX10_moon 7 = .ok (.iload_n 2, 1) := by decide +kernel
theorem dX10_moon_8 : decode cX10_moon 8 = .ok (.iconst 0, 1) := by decide +kernel
theorem dX10_moon_9 : decode cX10_moon 9 = .ok (.bipush 99, 2) := by decide +kernel
theorem dX10_moon_11 : decode cX10_moon 11 = .ok (.invokestatic 117, 3) := by decide +kernel
theorem dX10_moon_14 : decode cX10_moon 14 = .ok (.ifCond .ne 9, 3) := by decide +kernel
theorem dX10_moon_17 : decode cX10_moon 17 = .ok (.aload_n 0, 1) := by decide +kernel
theorem dX10_moon_18 : decode cX10_moon 18 = .ok (.iconst 1, 1) := by decide +kernel
theorem dX10_moon_19 : decode cX10_moon 19 = .ok (.invokevirtual 121, 3) := by decide +kernel
theorem dX10_moon_22 : decode cX10_moon 22 = .ok (.ireturn, 1) := by decide +kernel
theorem dX10_moon_23 : decode cX10_moon 23 = .ok (.aload_n 0, 1) := by decide +kernel
theorem dX10_moon_24 : decode cX10_moon 24 = .ok (.getfield 12, 3) := by decide +kernel
theorem dX10_moon_27 : decode cX10_moon 27 = .ok (.getfield 304, 3) := by decide +kernel
theorem dX10_moon_30 : decode cX10_moon 30 = .ok (.iload_n 1, 1) := by decide +kernel
theorem dX10_moon_31 : decode cX10_moon 31 = .ok (.iload_n 2, 1) := by decide +kernel
theorem dX10_moon_32 : decode cX10_moon 32 = .ok (.iastore, 1) := by decide +kernel
theorem dX10_moon_33 : decode cX10_moon 33 = .ok (.aload_n 0, 1) := by decide +kernel
theorem dX10_moon_34 : decode cX10_moon 34 = .ok (.invokevirtual 129, 3) := by decide +kernel
theorem dX10_moon_37 : decode cX10_moon 37 = .ok (.ireturn, 1) := by decide +kernel
theorem dX10_pump_0 : decode cX10_pump 0 = .ok (.aload_n 0, 1) := by decide +kernel
theorem dX10_pump_1 : decode cX10_pump 1 = .ok (.iload_n 1, 1) := by decide +kernel
theorem dX10_pump_2 : decode cX10_pump 2 = .ok (.invokevirtual 243, 3) := by decide +kernel
theorem dX10_pump_5 : decode cX10_pump 5 = .ok (.ifCond .eq 13, 3) := by decide +kernel
theorem dX10_pump_8 : decode cX10_pump 8 = .ok (.iload_n 2, 1) := by decide +kernel
theorem dX10_pump_9 : decode cX10_pump 9 = .ok (.iconst 0, 1) := by decide +kernel
theorem dX10_pump_10 : decode cX10_pump 10 = .ok (.bipush 99, 2) := by decide +kernel
theorem dX10_pump_12 : decode cX10_pump 12 = .ok (.invokestatic 117, 3) := by decide +kernel
theorem dX10_pump_15 : decode cX10_pump 15 = .ok (.ifCond .ne 9, 3) := by decide +kernel
theorem dX10_pump_18 : decode cX10_pump 18 = .ok (.aload_n 0, 1) := by decide +kernel
theorem dX10_pump_19 : decode cX10_pump 19 = .ok (.iconst 1, 1) := by decide +kernel
theorem dX10_pump_20 : decode cX10_pump 20 = .ok (.invokevirtual 121, 3) := by decide +kernel
theorem dX10_pump_23 : decode cX10_pump 23 = .ok (.ireturn, 1) := by decide +kernel
theorem dX10_pump_24 : decode cX10_pump 24 = .ok (.aload_n 0, 1) := by decide +kernel
theorem dX10_pump_25 : decode cX10_pump 25 = .ok (.getfield 12, 3) := by decide +kernel
theorem dX10_pump_28 : decode cX10_pump 28 = .ok (.getfield 90, 3) := by decide +kernel
theorem dX10_pump_31 : decode cX10_pump 31 = .ok (.getfield 256, 3) := by decide +kernel
theorem dX10_pump_34 : decode cX10_pump 34 = .ok (.iload_n 1, 1) := by decide +kernel
theorem dX10_pump_35 : decode cX10_pump 35 = .ok (.iload_n 2, 1) := by decide +kernel
theorem dX10_pump_36 : decode cX10_pump 36 = .ok (.iastore, 1) := by decide +kernel
theorem dX10_pump_37 : decode cX10_pump 37 = .ok (.aload_n 0, 1) := by decide +kernel
theorem dX10_pump_38 : decode cX10_pump 38 = .ok (.invokevirtual 129, 3) := by decide +kernel
theorem dX10_pump_41 : decode cX10_pump 41 = .ok (.ireturn, 1) := by decide +kernel
theorem dX10_raise_0 : decode cX10_raise 0 = .ok (.aload_n 0, 1) := by decide +kernel
theorem dX10_raise_1 : decode cX10_raise 1 = .ok (.iload_n 1, 1) := by decide +kernel
theorem dX10_raise_2 : decode cX10_raise 2 = .ok (.invokevirtual 268, 3) := by decide +kernel
theorem dX10_raise_5 : decode cX10_raise 5 = .ok (.ifCond .eq 14, 3) := by decide +kernel
theorem dX10_raise_8 : decode cX10_raise 8 = .ok (.iload_n 2, 1) := by decide +kernel
theorem dX10_raise_9 : decode cX10_raise 9 = .ok (.bipush (-99), 2) := by decide +kernel
theorem dX10_raise_11 : decode cX10_raise 11 = .ok (.bipush 99, 2) := by decide +kernel
theorem dX10_raise_13 : decode cX10_raise 13 = .ok (.invokestatic 117, 3) := by decide +kernel
theorem dX10_raise_16 : decode cX10_raise 16 = .ok (.ifCond .ne 9, 3) := by decide +kernel
theorem dX10_raise_19 : decode cX10_raise 19 = .ok (.aload_n 0, 1) := by decide +kernel
theorem dX10_raise_20 : decode cX10_raise 20 = .ok (.iconst 1, 1) := by decide +kernel
theorem dX10_raise_21 : decode cX10_raise 21 = .ok (.invokevirtual 143, 3) := by decide +kernel
theorem dX10_raise_24 : decode cX10_raise 24 = .ok (.ireturn, 1) := by decide +kernel
theorem dX10_raise_25 : decode cX10_raise 25 = .ok (.aload_n 0, 1) := by decide +kernel
theorem dX10_raise_26 : decode cX10_raise 26 = .ok (.getfield 12, 3) := by decide +kernel
theorem dX10_raise_29 : decode cX10_raise 29 = .ok (.getfield 99, 3) := by decide +kernel
theorem dX10_raise_32 : decode cX10_raise 32 = .ok (.getfield 280, 3) := by decide +kernel
theorem dX10_raise_35 : decode cX10_raise 35 = .ok (.iload_n 1, 1) := by decide +kernel
theorem dX10_raise_36 : decode cX10_raise 36 = .ok (.iaload, 1) := by decide +kernel
theorem dX10_raise_37 : decode cX10_raise 37 = .ok (.iload_n 2, 1) := by decide +kernel
theorem dX10_raise_38 : decode cX10_raise 38 = .ok (.iadd, 1) := by decide +kernel
theorem dX10_raise_39 : decode cX10_raise 39 = .ok (.istore_n 3, 1) := by decide +kernel
theorem dX10_raise_40 : decode cX10_raise 40 = .ok (.iload_n 3, 1) := by decide +kernel
theorem dX10_raise_41 : decode cX10_raise 41 = .ok (.iconst 0, 1) := by decide +kernel
theorem dX10_raise_42 : decode cX10_raise 42 = .ok (.bipush 99, 2) := by decide +kernel
theorem dX10_raise_44 : decode cX10_raise 44 = .ok (.invokestatic 117, 3) := by decide +kernel
theorem dX10_raise_47 : decode cX10_raise 47 = .ok (.ifCond .ne 10, 3) := by decide +kernel
theorem dX10_raise_50 : decode cX10_raise 50 = .ok (.aload_n 0, 1) := by decide +kernel
theorem dX10_raise_51 : decode cX10_raise 51 = .ok (.bipush 7, 2) := by decide +kernel
theorem dX10_raise_53 : decode cX10_raise 53 = .ok (.invokevirtual 143, 3) := by decide +kernel
theorem dX10_raise_56 : decode cX10_raise 56 = .ok (.ireturn, 1) := by decide +kernel
theorem dX10_raise_57 : decode cX10_raise 57 = .ok (.aload_n 0, 1) := by decide +kernel
theorem dX10_raise_58 : decode cX10_raise 58 = .ok (.getfield 12, 3) := by decide +kernel
theorem dX10_raise_61 : decode cX10_raise 61 = .ok (.getfield 99, 3) := by decide +kernel
theorem dX10_raise_64 : decode cX10_raise 64 = .ok (.getfield 280, 3) := by decide +kernel
theorem dX10_raise_67 : decode cX10_raise 67 = .ok (.iload_n 1, 1) := by decide +kernel
theorem dX10_raise_68 : decode cX10_raise 68 = .ok (.iload_n 3, 1) := by decide +kernel
theorem dX10_raise_69 : decode cX10_raise 69 = .ok (.iastore, 1) := by decide +kernel
theorem dX10_raise_70 : decode cX10_raise 70 = .ok (.aload_n 0, 1) := by decide +kernel
theorem dX10_raise_71 : decode cX10_raise 71 = .ok (.iload_n 3, 1) := by decide +kernel
theorem dX10_raise_72 : decode cX10_raise 72 = .ok (.invokevirtual 197, 3) := by decide +kernel
theorem dX10_raise_75 : decode cX10_raise 75 = .ok (.ireturn, 1) := by decide +kernel
theorem dX10_build_0 : decode cX10_build 0 = .ok (.aload_n 0, 1) := by decide +kernel
theorem dX10_build_1 : decode cX10_build 1 = .ok (.iload_n 1, 1) := by decide +kernel
theorem dX10_build_2 : decode cX10_build 2 = .ok (.invokevirtual 243, 3) := by decide +kernel
theorem dX10_build_5 : decode cX10_build 5 = .ok (.ifCond .ne 9, 3) := by decide +kernel
theorem dX10_build_8 : decode cX10_build 8 = .ok (.aload_n 0, 1) := by decide +kernel
theorem dX10_build_9 : decode cX10_build 9 = .ok (.iconst 1, 1) := by decide +kernel
theorem dX10_build_10 : decode cX10_build 10 = .ok (.invokevirtual 143, 3) := by decide +kernel
theorem dX10_build_13 : decode cX10_build 13 = .ok (.ireturn, 1) := by decide +kernel
theorem dX10_build_14 : decode cX10_build 14 = .ok (.aload_n 0, 1) := by decide +kernel
theorem dX10_build_15 : decode cX10_build 15 = .ok (.getfield 12, 3) := by decide +kernel
theorem dX10_build_18 : decode cX10_build 18 = .ok (.getfield 90, 3) := by decide +kernel
theorem dX10_build_21 : decode cX10_build 21 = .ok (.iload_n 1, 1) := by decide +kernel
theorem dX10_build_22 : decode cX10_build 22 = .ok (.invokevirtual 359, 3) := by decide +kernel
theorem dX10_build_25 : decode cX10_build 25 = .ok (.ifCond .ne 10, 3) := by decide +kernel
theorem dX10_build_28 : decode cX10_build 28 = .ok (.aload_n 0, 1) := by decide +kernel
theorem dX10_build_29 : decode cX10_build 29 = .ok (.bipush 7, 2) := by decide +kernel
theorem dX10_build_31 : decode cX10_build 31 = .ok (.invokevirtual 143, 3) := by decide +kernel
theorem dX10_build_34 : decode cX10_build 34 = .ok (.ireturn, 1) := by decide +kernel
theorem dX10_build_35 : decode cX10_build 35 = .ok (.aload_n 0, 1) := by decide +kernel
theorem dX10_build_36 : decode cX10_build 36 = .ok (.getfield 12, 3) := by decide +kernel
theorem dX10_build_39 : decode cX10_build 39 = .ok (.getfield 90, 3) := by decide +kernel
theorem dX10_build_42 : decode cX10_build 42 = .ok (.dup, 1) := by decide +kernel
theorem dX10_build_43 : decode cX10_build 43 = .ok (.getfield 231, 3) := by decide +kernel
theorem dX10_build_46 : decode cX10_build 46 = .ok (.iconst 1, 1) := by decide +kernel
theorem dX10_build_47 : decode cX10_build 47 = .ok (.iload_n 1, 1) := by decide +kernel
theorem dX10_build_48 : decode cX10_build 48 = .ok (.ishl, 1) := by decide +kernel
theorem dX10_build_49 : decode cX10_build 49 = .ok (.iconst (-1), 1) := by decide +kernel
theorem dX10_build_50 : decode cX10_build 50 = .ok (.ixor, 1) := by decide +kernel
theorem dX10_build_51 : decode cX10_build 51 = .ok (.iand, 1) := by decide +kernel
theorem dX10_build_52 : decode cX10_build 52 = .ok (.putfield 231, 3) := by decide +kernel
theorem dX10_build_55 : decode cX10_build 55 = .ok (.aload_n 0, 1) := by decide +kernel
theorem dX10_build_56 : decode cX10_build 56 = .ok (.aload_n 0, 1) := by decide +kernel
theorem dX10_build_57 : decode cX10_build 57 = .ok (.getfield 12, 3) := by decide +kernel
theorem dX10_build_60 : decode cX10_build 60 = .ok (.getfield 90, 3) := by decide +kernel
theorem dX10_build_63 : decode cX10_build 63 = .ok (.getfield 231, 3) := by decide +kernel
theorem dX10_build_66 : decode cX10_build 66 = .ok (.invokestatic 362, 3) := by decide +kernel
theorem dX10_build_69 : decode cX10_build 69 = .ok (.invokevirtual 197, 3) := by decide +kernel
theorem dX10_build_72 : decode cX10_build 72 = .ok (.ireturn, 1) := by decide +kernel
theorem dX10_asItIs_0 : decode cX10_asItIs 0 = .ok (.aload_n 0, 1) := by decide +kernel
theorem dX10_asItIs_1 : decode cX10_asItIs 1 = .ok (.getfield 23, 3) := by decide +kernel
theorem dX10_asItIs_4 : decode cX10_asItIs 4 = .ok (.aload_n 0, 1) := by decide +kernel
theorem dX10_asItIs_5 : decode cX10_asItIs 5 = .ok (.getfield 12, 3) := by decide +kernel
theorem dX10_asItIs_8 : decode cX10_asItIs 8 = .ok (.invokevirtual 190, 3) := by decide +kernel
theorem dX10_asItIs_11 : decode cX10_asItIs 11 = .ok (.aload_n 0, 1) := by decide +kernel
theorem dX10_asItIs_12 : decode cX10_asItIs 12 = .ok (.getfield 23, 3) := by decide +kernel
theorem dX10_asItIs_15 : decode cX10_asItIs 15 = .ok (.areturn, 1) := by decide +kernel
theorem dX10_drownedMore_0 : decode cX10_drownedMore 0 = .ok (.aload_n 1, 1) := by decide +kernel
theorem dX10_drownedMore_1 : decode cX10_drownedMore 1 = .ok (.getfield 90, 3) := by decide +kernel
theorem dX10_drownedMore_4 : decode cX10_drownedMore 4 = .ok (.getfield 231, 3) := by decide +kernel
theorem dX10_drownedMore_7 : decode cX10_drownedMore 7 = .ok (.aload_n 0, 1) := by decide +kernel
theorem dX10_drownedMore_8 : decode cX10_drownedMore 8 = .ok (.getfield 12, 3) := by decide +kernel
theorem dX10_drownedMore_11 : decode cX10_drownedMore 11 = .ok (.getfield 90, 3) := by decide +kernel
theorem dX10_drownedMore_14 : decode cX10_drownedMore 14 = .ok (.getfield 231, 3) := by decide +kernel
theorem dX10_drownedMore_17 : decode cX10_drownedMore 17 = .ok (.iconst (-1), 1) := by decide +kernel
theorem dX10_drownedMore_18 : decode cX10_drownedMore 18 = .ok (.ixor, 1) := by decide +kernel
theorem dX10_drownedMore_19 : decode cX10_drownedMore 19 = .ok (.iand, 1) := by decide +kernel
theorem dX10_drownedMore_20 : decode cX10_drownedMore 20 = .ok (.ireturn, 1) := by decide +kernel
theorem dX10_later_0 : decode cX10_later 0 = .ok (.aload_n 0, 1) := by decide +kernel
theorem dX10_later_1 : decode cX10_later 1 = .ok (.iload_n 1, 1) := by decide +kernel
theorem dX10_later_2 : decode cX10_later 2 = .ok (.invokevirtual 243, 3) := by decide +kernel
theorem dX10_later_5 : decode cX10_later 5 = .ok (.ifCond .eq 13, 3) := by decide +kernel
theorem dX10_later_8 : decode cX10_later 8 = .ok (.iload_n 2, 1) := by decide +kernel
theorem dX10_later_9 : decode cX10_later 9 = .ok (.iconst 0, 1) := by decide +kernel
theorem dX10_later_10 : decode cX10_later 10 = .ok (.bipush 99, 2) := by decide +kernel
theorem dX10_later_12 : decode cX10_later 12 = .ok (.invokestatic 117, 3) := by decide +kernel
theorem dX10_later_15 : decode cX10_later 15 = .ok (.ifCond .ne 9, 3) := by decide +kernel
theorem dX10_later_18 : decode cX10_later 18 = .ok (.aload_n 0, 1) := by decide +kernel
theorem dX10_later_19 : decode cX10_later 19 = .ok (.iconst 1, 1) := by decide +kernel
theorem dX10_later_20 : decode cX10_later 20 = .ok (.invokevirtual 143, 3) := by decide +kernel
theorem dX10_later_23 : decode cX10_later 23 = .ok (.ireturn, 1) := by decide +kernel
theorem dX10_later_24 : decode cX10_later 24 = .ok (.aload_n 0, 1) := by decide +kernel
theorem dX10_later_25 : decode cX10_later 25 = .ok (.invokevirtual 367, 3) := by decide +kernel
theorem dX10_later_28 : decode cX10_later 28 = .ok (.astore_n 3, 1) := by decide +kernel
theorem dX10_later_29 : decode cX10_later 29 = .ok (.aload_n 3, 1) := by decide +kernel
theorem dX10_later_30 : decode cX10_later 30 = .ok (.iload_n 2, 1) := by decide +kernel
theorem dX10_later_31 : decode cX10_later 31 = .ok (.invokevirtual 344, 3) := by decide +kernel
theorem dX10_later_34 : decode cX10_later 34 = .ok (.aload_n 0, 1) := by decide +kernel
theorem dX10_later_35 : decode cX10_later 35 = .ok (.aload_n 3, 1) := by decide +kernel
theorem dX10_later_36 : decode cX10_later 36 = .ok (.getfield 90, 3) := by decide +kernel
theorem dX10_later_39 : decode cX10_later 39 = .ok (.getfield 259, 3) := by decide +kernel
theorem dX10_later_42 : decode cX10_later 42 = .ok (.iload_n 1, 1) := by decide +kernel
theorem dX10_later_43 : decode cX10_later 43 = .ok (.iaload, 1) := by decide +kernel
theorem dX10_later_44 : decode cX10_later 44 = .ok (.invokevirtual 197, 3) := by decide +kernel
theorem dX10_later_47 : decode cX10_later 47 = .ok (.ireturn, 1) := by decide +kernel
theorem dX10_allLater_0 : decode cX10_allLater 0 = .ok (.iload_n 1, 1) := by decide +kernel
theorem dX10_allLater_1 : decode cX10_allLater 1 = .ok (.iconst 0, 1) := by decide +kernel
theorem dX10_allLater_2 : decode cX10_allLater 2 = .ok (.bipush 99, 2) := by decide +kernel
theorem dX10_allLater_4 : decode cX10_allLater 4 = .ok (.invokestatic 117, 3) := by decide +kernel
theorem dX10_allLater_7 : decode cX10_allLater 7 = .ok (.ifCond .ne 9, 3) := by decide +kernel
theorem dX10_allLater_10 : decode cX10_allLater 10 = .ok (.aload_n 0, 1) := by decide +kernel
theorem dX10_allLater_11 : decode cX10_allLater 11 = .ok (.iconst 1, 1) := by decide +kernel
theorem dX10_allLater_12 : decode cX10_allLater 12 = .ok (.invokevirtual 143, 3) := by decide +kernel
theorem dX10_allLater_15 : decode cX10_allLater 15 = .ok (.ireturn, 1) := by decide +kernel
theorem dX10_allLater_16 : decode cX10_allLater 16 = .ok (.aload_n 0, 1) := by decide +kernel
theorem dX10_allLater_17 : decode cX10_allLater 17 = .ok (.aload_n 0, 1) := by decide +kernel
theorem dX10_allLater_18 : decode cX10_allLater 18 = .ok (.invokevirtual 367, 3) := by decide +kernel
theorem dX10_allLater_21 : decode cX10_allLater 21 = .ok (.iload_n 1, 1) := by decide +kernel
theorem dX10_allLater_22 : decode cX10_allLater 22 = .ok (.invokevirtual 370, 3) := by decide +kernel
theorem dX10_allLater_25 : decode cX10_allLater 25 = .ok (.invokevirtual 197, 3) := by decide +kernel
theorem dX10_allLater_28 : decode cX10_allLater 28 = .ok (.ireturn, 1) := by decide +kernel
theorem dX10_wetIn_0 : decode cX10_wetIn 0 = .ok (.aload_n 0, 1) := by decide +kernel
theorem dX10_wetIn_1 : decode cX10_wetIn 1 = .ok (.iload_n 1, 1) := by decide +kernel
theorem dX10_wetIn_2 : decode cX10_wetIn 2 = .ok (.invokevirtual 243, 3) := by decide +kernel
theorem dX10_wetIn_5 : decode cX10_wetIn 5 = .ok (.ifCond .ne 9, 3) := by decide +kernel
theorem dX10_wetIn_8 : decode cX10_wetIn 8 = .ok (.aload_n 0, 1) := by decide +kernel
theorem dX10_wetIn_9 : decode cX10_wetIn 9 = .ok (.iconst 1, 1) := by decide +kernel
theorem dX10_wetIn_10 : decode cX10_wetIn 10 = .ok (.invokevirtual 143, 3) := by decide +kernel
theorem dX10_wetIn_13 : decode cX10_wetIn 13 = .ok (.ireturn, 1) := by decide +kernel
theorem dX10_wetIn_14 : decode cX10_wetIn 14 = .ok (.aload_n 0, 1) := by decide +kernel
theorem dX10_wetIn_15 : decode cX10_wetIn 15 = .ok (.invokevirtual 367, 3) := by decide +kernel
theorem dX10_wetIn_18 : decode cX10_wetIn 18 = .ok (.astore_n 2, 1) := by decide +kernel
theorem dX10_wetIn_19 : decode cX10_wetIn 19 = .ok (.iconst 0, 1) := by decide +kernel
theorem dX10_wetIn_20 : decode cX10_wetIn 20 = .ok (.istore_n 3, 1) := by decide +kernel
theorem dX10_wetIn_21 : decode cX10_wetIn 21 = .ok (.iload_n 3, 1) := by decide +kernel
theorem dX10_wetIn_22 : decode cX10_wetIn 22 = .ok (.bipush 99, 2) := by decide +kernel
theorem dX10_wetIn_24 : decode cX10_wetIn 24 = .ok (.if_icmp .gt 30, 3) := by decide +kernel
theorem dX10_wetIn_27 : decode cX10_wetIn 27 = .ok (.aload_n 2, 1) := by decide +kernel
theorem dX10_wetIn_28 : decode cX10_wetIn 28 = .ok (.getfield 90, 3) := by decide +kernel
theorem dX10_wetIn_31 : decode cX10_wetIn 31 = .ok (.iload_n 1, 1) := by decide +kernel
theorem dX10_wetIn_32 : decode cX10_wetIn 32 = .ok (.invokevirtual 262, 3) := by decide +kernel
theorem dX10_wetIn_35 : decode cX10_wetIn 35 = .ok (.ifCond .le 9, 3) := by decide +kernel
theorem dX10_wetIn_38 : decode cX10_wetIn 38 = .ok (.aload_n 0, 1) := by decide +kernel
theorem dX10_wetIn_39 : decode cX10_wetIn 39 = .ok (.iload_n 3, 1) := by decide +kernel
theorem dX10_wetIn_40 : decode cX10_wetIn 40 = .ok (.invokevirtual 197, 3) := by decide +kernel
theorem dX10_wetIn_43 : decode cX10_wetIn 43 = .ok (.ireturn, 1) := by decide +kernel
theorem dX10_wetIn_44 : decode cX10_wetIn 44 = .ok (.aload_n 2, 1) := by decide +kernel
theorem dX10_wetIn_45 : decode cX10_wetIn 45 = .ok (.invokevirtual 373, 3) := by decide +kernel
theorem dX10_wetIn_48 : decode cX10_wetIn 48 = .ok (.iinc 3 1, 3) := by decide +kernel
theorem dX10_wetIn_51 : decode cX10_wetIn 51 = .ok (.goto (-30), 3) := by decide +kernel
theorem dX10_wetIn_54 : decode cX10_wetIn 54 = .ok (.aload_n 0, 1) := by decide +kernel
theorem dX10_wetIn_55 : decode cX10_wetIn 55 = .ok (.bipush 6, 2) := by decide +kernel
theorem dX10_wetIn_57 : decode cX10_wetIn 57 = .ok (.invokevirtual 143, 3) := by decide +kernel
theorem dX10_wetIn_60 : decode cX10_wetIn 60 = .ok (.ireturn, 1) := by decide +kernel
theorem dX10_drownsIn_0 : decode cX10_drownsIn 0 = .ok (.aload_n 0, 1) := by decide +kernel
theorem dX10_drownsIn_1 : decode cX10_drownsIn 1 = .ok (.iload_n 1, 1) := by decide +kernel
theorem dX10_drownsIn_2 : decode cX10_drownsIn 2 = .ok (.invokevirtual 243, 3) := by decide +kernel
theorem dX10_drownsIn_5 : decode cX10_drownsIn 5 = .ok (.ifCond .ne 9, 3) := by decide +kernel
theorem dX10_drownsIn_8 : decode cX10_drownsIn 8 = .ok (.aload_n 0, 1) := by decide +kernel
theorem dX10_drownsIn_9 : decode cX10_drownsIn 9 = .ok (.iconst 1, 1) := by decide +kernel
theorem dX10_drownsIn_10 : decode cX10_drownsIn 10 = .ok (.invokevirtual 143, 3) := by decide +kernel
theorem dX10_drownsIn_13 : decode cX10_drownsIn 13 = .ok (.ireturn, 1) := by decide +kernel
theorem dX10_drownsIn_14 : decode cX10_drownsIn 14 = .ok (.aload_n 0, 1) := by decide +kernel
theorem dX10_drownsIn_15 : decode cX10_drownsIn 15 = .ok (.invokevirtual 367, 3) := by decide +kernel
theorem dX10_drownsIn_18 : decode cX10_drownsIn 18 = .ok (.astore_n 2, 1) := by decide +kernel
theorem dX10_drownsIn_19 : decode cX10_drownsIn 19 = .ok (.iconst 0, 1) := by decide +kernel
theorem dX10_drownsIn_20 : decode cX10_drownsIn 20 = .ok (.istore_n 3, 1) := by decide +kernel
theorem dX10_drownsIn_21 : decode cX10_drownsIn 21 = .ok (.iload_n 3, 1) := by decide +kernel
theorem dX10_drownsIn_22 : decode cX10_drownsIn 22 = .ok (.bipush 99, 2) := by decide +kernel
theorem dX10_drownsIn_24 : decode cX10_drownsIn 24 = .ok (.if_icmp .gt 30, 3) := by decide +kernel
theorem dX10_drownsIn_27 : decode cX10_drownsIn 27 = .ok (.aload_n 2, 1) := by decide +kernel
theorem dX10_drownsIn_28 : decode cX10_drownsIn 28 = .ok (.getfield 90, 3) := by decide +kernel
theorem dX10_drownsIn_31 : decode cX10_drownsIn 31 = .ok (.iload_n 1, 1) := by decide +kernel
theorem dX10_drownsIn_32 : decode cX10_drownsIn 32 = .ok (.invokevirtual 359, 3) := by decide +kernel
theorem dX10_drownsIn_35 : decode cX10_drownsIn 35 = .ok (.ifCond .eq 9, 3) := by decide +kernel
theorem dX10_drownsIn_38 : decode cX10_drownsIn 38 = .ok (.aload_n 0, 1) := by decide +kernel
theorem dX10_drownsIn_39 : decode cX10_drownsIn 39 = .ok (.iload_n 3, 1) := by decide +kernel
theorem dX10_drownsIn_40 : decode cX10_drownsIn 40 = .ok (.invokevirtual 197, 3) := by decide +kernel
theorem dX10_drownsIn_43 : decode cX10_drownsIn 43 = .ok (.ireturn, 1) := by decide +kernel
theorem dX10_drownsIn_44 : decode cX10_drownsIn 44 = .ok (.aload_n 2, 1) := by decide +kernel
theorem dX10_drownsIn_45 : decode cX10_drownsIn 45 = .ok (.invokevirtual 373, 3) := by decide +kernel
theorem dX10_drownsIn_48 : decode cX10_drownsIn 48 = .ok (.iinc 3 1, 3) := by decide +kernel
theorem dX10_drownsIn_51 : decode cX10_drownsIn 51 = .ok (.goto (-30), 3) := by decide +kernel
theorem dX10_drownsIn_54 : decode cX10_drownsIn 54 = .ok (.aload_n 0, 1) := by decide +kernel
theorem dX10_drownsIn_55 : decode cX10_drownsIn 55 = .ok (.bipush 6, 2) := by decide +kernel
theorem dX10_drownsIn_57 : decode cX10_drownsIn 57 = .ok (.invokevirtual 143, 3) := by decide +kernel
theorem dX10_drownsIn_60 : decode cX10_drownsIn 60 = .ok (.ireturn, 1) := by decide +kernel
theorem dX10_dryIn_0 : decode cX10_dryIn 0 = .ok (.aload_n 0, 1) := by decide +kernel
theorem dX10_dryIn_1 : decode cX10_dryIn 1 = .ok (.invokevirtual 367, 3) := by decide +kernel
theorem dX10_dryIn_4 : decode cX10_dryIn 4 = .ok (.astore_n 1, 1) := by decide +kernel
theorem dX10_dryIn_5 : decode cX10_dryIn 5 = .ok (.iconst 0, 1) := by decide +kernel
theorem dX10_dryIn_6 : decode cX10_dryIn 6 = .ok (.istore_n 2, 1) := by decide +kernel
theorem dX10_dryIn_7 : decode cX10_dryIn 7 = .ok (.iload_n 2, 1) := by decide +kernel
theorem dX10_dryIn_8 : decode cX10_dryIn 8 = .ok (.bipush 99, 2) := by decide +kernel
theorem dX10_dryIn_10 : decode cX10_dryIn 10 = .ok (.if_icmp .gt 29, 3) := by decide +kernel
theorem dX10_dryIn_13 : decode cX10_dryIn 13 = .ok (.aload_n 1, 1) := by decide +kernel
theorem dX10_dryIn_14 : decode cX10_dryIn 14 = .ok (.getfield 90, 3) := by decide +kernel
theorem dX10_dryIn_17 : decode cX10_dryIn 17 = .ok (.invokevirtual 228, 3) := by decide +kernel
theorem dX10_dryIn_20 : decode cX10_dryIn 20 = .ok (.ifCond .ne 9, 3) := by decide +kernel
theorem dX10_dryIn_23 : decode cX10_dryIn 23 = .ok (.aload_n 0, 1) := by decide +kernel
theorem dX10_dryIn_24 : decode cX10_dryIn 24 = .ok (.iload_n 2, 1) := by decide +kernel
theorem dX10_dryIn_25 : decode cX10_dryIn 25 = .ok (.invokevirtual 197, 3) := by decide +kernel
theorem dX10_dryIn_28 : decode cX10_dryIn 28 = .ok (.ireturn, 1) := by decide +kernel
theorem dX10_dryIn_29 : decode cX10_dryIn 29 = .ok (.aload_n 1, 1) := by decide +kernel
theorem dX10_dryIn_30 : decode cX10_dryIn 30 = .ok (.invokevirtual 373, 3) := by decide +kernel
theorem dX10_dryIn_33 : decode cX10_dryIn 33 = .ok (.iinc 2 1, 3) := by decide +kernel
theorem dX10_dryIn_36 : decode cX10_dryIn 36 = .ok (.goto (-29), 3) := by decide +kernel
theorem dX10_dryIn_39 : decode cX10_dryIn 39 = .ok (.aload_n 0, 1) := by decide +kernel
theorem dX10_dryIn_40 : decode cX10_dryIn 40 = .ok (.bipush 6, 2) := by decide +kernel
theorem dX10_dryIn_42 : decode cX10_dryIn 42 = .ok (.invokevirtual 143, 3) := by decide +kernel
theorem dX10_dryIn_45 : decode cX10_dryIn 45 = .ok (.ireturn, 1) := by decide +kernel
theorem dX10_fails_0 : decode cX10_fails 0 = .ok (.aload_n 0, 1) := by decide +kernel
theorem dX10_fails_1 : decode cX10_fails 1 = .ok (.iload_n 1, 1) := by decide +kernel
theorem dX10_fails_2 : decode cX10_fails 2 = .ok (.invokevirtual 268, 3) := by decide +kernel
theorem dX10_fails_5 : decode cX10_fails 5 = .ok (.ifCond .ne 9, 3) := by decide +kernel
theorem dX10_fails_8 : decode cX10_fails 8 = .ok (.aload_n 0, 1) := by decide +kernel
theorem dX10_fails_9 : decode cX10_fails 9 = .ok (.iconst 1, 1) := by decide +kernel
theorem dX10_fails_10 : decode cX10_fails 10 = .ok (.invokevirtual 143, 3) := by decide +kernel
theorem dX10_fails_13 : decode cX10_fails 13 = .ok (.ireturn, 1) := by decide +kernel
theorem dX10_fails_14 : decode cX10_fails 14 = .ok (.aload_n 0, 1) := by decide +kernel
theorem dX10_fails_15 : decode cX10_fails 15 = .ok (.invokevirtual 367, 3) := by decide +kernel
theorem dX10_fails_18 : decode cX10_fails 18 = .ok (.astore_n 2, 1) := by decide +kernel
theorem dX10_fails_19 : decode cX10_fails 19 = .ok (.aload_n 2, 1) := by decide +kernel
theorem dX10_fails_20 : decode cX10_fails 20 = .ok (.getfield 99, 3) := by decide +kernel
theorem dX10_fails_23 : decode cX10_fails 23 = .ok (.dup, 1) := by decide +kernel
theorem dX10_fails_24 : decode cX10_fails 24 = .ok (.getfield 237, 3) := by decide +kernel
theorem dX10_fails_27 : decode cX10_fails 27 = .ok (.iconst 1, 1) := by decide +kernel
theorem dX10_fails_28 : decode cX10_fails 28 = .ok (.iload_n 1, 1) := by decide +kernel
theorem dX10_fails_29 : decode cX10_fails 29 = .ok (.ishl, 1) := by decide +kernel
theorem dX10_fails_30 : decode cX10_fails 30 = .ok (.ior, 1) := by decide +kernel
theorem dX10_fails_31 : decode cX10_fails 31 = .ok (.putfield 237, 3) := by decide +kernel
theorem dX10_fails_34 : decode cX10_fails 34 = .ok (.aload_n 2, 1) := by decide +kernel
theorem dX10_fails_35 : decode cX10_fails 35 = .ok (.bipush 12, 2) := by decide +kernel
theorem dX10_fails_37 : decode cX10_fails 37 = .ok (.invokevirtual 344, 3) := by decide +kernel
theorem dX10_fails_40 : decode cX10_fails 40 = .ok (.aload_n 0, 1) := by decide +kernel
theorem dX10_fails_41 : decode cX10_fails 41 = .ok (.aload_n 2, 1) := by decide +kernel
theorem dX10_fails_42 : decode cX10_fails 42 = .ok (.getfield 90, 3) := by decide +kernel
theorem dX10_fails_45 : decode cX10_fails 45 = .ok (.getfield 231, 3) := by decide +kernel
theorem dX10_fails_48 : decode cX10_fails 48 = .ok (.invokevirtual 197, 3) := by decide +kernel
theorem dX10_fails_51 : decode cX10_fails 51 = .ok (.ireturn, 1) := by decide +kernel
theorem dX10_worst_0 : decode cX10_worst 0 = .ok (.iconst (-1), 1) := by decide +kernel
theorem dX10_worst_1 : decode cX10_worst 1 = .ok (.istore_n 1, 1) := by decide +kernel
theorem dX10_worst_2 : decode cX10_worst 2 = .ok (.iconst (-1), 1) := by decide +kernel
theorem dX10_worst_3 : decode cX10_worst 3 = .ok (.istore_n 2, 1) := by decide +kernel
theorem dX10_worst_4 : decode cX10_worst 4 = .ok (.iconst 0, 1) := by decide +kernel
theorem dX10_worst_5 : decode cX10_worst 5 = .ok (.istore_n 3, 1) := by decide +kernel
theorem dX10_worst_6 : decode cX10_worst 6 = .ok (.iload_n 3, 1) := by decide +kernel
theorem dX10_worst_7 : decode cX10_worst 7 = .ok (.aload_n 0, 1) := by decide +kernel
theorem dX10_worst_8 : decode cX10_worst 8 = .ok (.getfield 12, 3) := by decide +kernel
theorem dX10_worst_11 : decode cX10_worst 11 = .ok (.getfield 99, 3) := by decide +kernel
theorem dX10_worst_14 : decode cX10_worst 14 = .ok (.getfield 103, 3) := by decide +kernel
theorem dX10_worst_17 : decode cX10_worst 17 = .ok (.if_icmp .ge 51, 3) := by decide +kernel
theorem dX10_worst_20 : decode cX10_worst 20 = .ok (.aload_n 0, 1) := by decide +kernel
theorem dX10_worst_21 : decode cX10_worst 21 = .ok (.invokevirtual 367, 3) := by decide +kernel
theorem dX10_worst_24 : decode cX10_worst 24 = .ok (.astore 4, 2) := by decide +kernel
theorem dX10_worst_26 : decode cX10_worst 26 = .ok (.aload 4, 2) := by decide +kernel
theorem dX10_worst_28 : decode cX10_worst 28 = .ok (.getfield 99, 3) := by decide +kernel
theorem dX10_worst_31 : decode cX10_worst 31 = .ok (.dup, 1) := by decide +kernel
theorem dX10_worst_32 : decode cX10_worst 32 = .ok (.getfield 237, 3) := by decide +kernel
theorem dX10_worst_35 : decode cX10_worst 35 = .ok (.iconst 1, 1) := by decide +kernel
theorem dX10_worst_36 : decode cX10_worst 36 = .ok (.iload_n 3, 1) := by decide +kernel
theorem dX10_worst_37 : decode cX10_worst 37 = .ok (.ishl, 1) := by decide +kernel
theorem dX10_worst_38 : decode cX10_worst 38 = .ok (.ior, 1) := by decide +kernel
theorem dX10_worst_39 : decode cX10_worst 39 = .ok (.putfield 237, 3) := by decide +kernel
theorem dX10_worst_42 : decode cX10_worst 42 = .ok (.aload 4, 2) := by decide +kernel
theorem dX10_worst_44 : decode cX10_worst 44 = .ok (.bipush 12, 2) := by decide +kernel
theorem dX10_worst_46 : decode cX10_worst 46 = .ok (.invokevirtual 370, 3) := by decide +kernel
theorem dX10_worst_49 : decode cX10_worst 49 = .ok (.istore 5, 2) := by decide +kernel
theorem dX10_worst_51 : decode cX10_worst 51 = .ok (.iload 5, 2) := by decide +kernel
theorem dX10_worst_53 : decode cX10_worst 53 = .ok (.iload_n 2, 1) := by decide +kernel
theorem dX10_worst_54 : decode cX10_worst 54 = .ok (.if_icmp .le 8, 3) := by decide +kernel
theorem dX10_worst_57 : decode cX10_worst 57 = .ok (.iload 5, 2) := by decide +kernel
theorem dX10_worst_59 : decode cX10_worst 59 = .ok (.istore_n 2, 1) := by decide +kernel
theorem dX10_worst_60 : decode cX10_worst 60 = .ok (.iload_n 3, 1) := by decide +kernel
theorem dX10_worst_61 : decode cX10_worst 61 = .ok (.istore_n 1, 1) := by decide +kernel
theorem dX10_worst_62 : decode cX10_worst 62 = .ok (.iinc 3 1, 3) := by decide +kernel
theorem dX10_worst_65 : decode cX10_worst 65 = .ok (.goto (-59), 3) := by decide +kernel
theorem dX10_worst_68 : decode cX10_worst 68 = .ok (.iload_n 1, 1) := by decide +kernel
theorem dX10_worst_69 : decode cX10_worst 69 = .ok (.iconst (-1), 1) := by decide +kernel
theorem dX10_worst_70 : decode cX10_worst 70 = .ok (.if_icmp .ne 12, 3) := by decide +kernel
theorem dX10_worst_73 : decode cX10_worst 73 = .ok (.aload_n 0, 1) := by decide +kernel
theorem dX10_worst_74 : decode cX10_worst 74 = .ok (.bipush 6, 2) := by decide +kernel
theorem dX10_worst_76 : decode cX10_worst 76 = .ok (.invokevirtual 143, 3) := by decide +kernel
theorem dX10_worst_79 : decode cX10_worst 79 = .ok (.goto 8, 3) := by decide +kernel
theorem dX10_worst_82 : decode cX10_worst 82 = .ok (.aload_n 0, 1) := by decide +kernel
theorem dX10_worst_83 : decode cX10_worst 83 = .ok (.iload_n 1, 1) := by decide +kernel
theorem dX10_worst_84 : decode cX10_worst 84 = .ok (.invokevirtual 197, 3) := by decide +kernel
theorem dX10_worst_87 : decode cX10_worst 87 = .ok (.ireturn, 1) := by decide +kernel
theorem dX10_sillFor_0 : decode cX10_sillFor 0 = .ok (.aload_n 0, 1) := by decide +kernel
theorem dX10_sillFor_1 : decode cX10_sillFor 1 = .ok (.iload_n 1, 1) := by decide +kernel
theorem dX10_sillFor_2 : decode cX10_sillFor 2 = .ok (.invokevirtual 268, 3) := by decide +kernel
theorem dX10_sillFor_5 : decode cX10_sillFor 5 = .ok (.ifCond .ne 9, 3) := by decide +kernel
theorem dX10_sillFor_8 : decode cX10_sillFor 8 = .ok (.aload_n 0, 1) := by decide +kernel
theorem dX10_sillFor_9 : decode cX10_sillFor 9 = .ok (.iconst 1, 1) := by decide +kernel
theorem dX10_sillFor_10 : decode cX10_sillFor 10 = .ok (.invokevirtual 143, 3) := by decide +kernel
theorem dX10_sillFor_13 : decode cX10_sillFor 13 = .ok (.ireturn, 1) := by decide +kernel
theorem dX10_sillFor_14 : decode cX10_sillFor 14 = .ok (.iconst 0, 1) := by decide +kernel
theorem dX10_sillFor_15 : decode cX10_sillFor 15 = .ok (.istore_n 2, 1) := by decide +kernel
theorem dX10_sillFor_16 : decode cX10_sillFor 16 = .ok (.aload_n 0, 1) := by decide +kernel
theorem dX10_sillFor_17 : decode cX10_sillFor 17 = .ok (.getfield 12, 3) := by decide +kernel
theorem dX10_sillFor_20 : decode cX10_sillFor 20 = .ok (.getfield 99, 3) := by decide +kernel
theorem dX10_sillFor_23 : decode cX10_sillFor 23 = .ok (.getfield 280, 3) := by decide +kernel
theorem dX10_sillFor_26 : decode cX10_sillFor 26 = .ok (.iload_n 1, 1) := by decide +kernel
theorem dX10_sillFor_27 : decode cX10_sillFor 27 = .ok (.iaload, 1) := by decide +kernel
theorem dX10_sillFor_28 : decode cX10_sillFor 28 = .ok (.iload_n 2, 1) := by decide +kernel
theorem dX10_sillFor_29 : decode cX10_sillFor 29 = .ok (.iadd, 1) := by decide +kernel
theorem dX10_sillFor_30 : decode cX10_sillFor 30 = .ok (.bipush 99, 2) := by decide +kernel
theorem dX10_sillFor_32 : decode cX10_sillFor 32 = .ok (.if_icmp .gt 62, 3) := by decide +kernel
theorem dX10_sillFor_35 : decode cX10_sillFor 35 = .ok (.aload_n 0, 1) := by decide +kernel
theorem dX10_sillFor_36 : decode cX10_sillFor 36 = .ok (.invokevirtual 367, 3) := by decide +kernel
theorem dX10_sillFor_39 : decode cX10_sillFor 39 = .ok (.astore_n 3, 1) := by decide +kernel
theorem dX10_sillFor_40 : decode cX10_sillFor 40 = .ok (.aload_n 3, 1) := by decide +kernel
theorem dX10_sillFor_41 : decode cX10_sillFor 41 = .ok (.getfield 99, 3) := by decide +kernel
theorem dX10_sillFor_44 : decode cX10_sillFor 44 = .ok (.dup, 1) := by decide +kernel
theorem dX10_sillFor_45 : decode cX10_sillFor 45 = .ok (.getfield 237, 3) := by decide +kernel
theorem dX10_sillFor_48 : decode cX10_sillFor 48 = .ok (.iconst 1, 1) := by decide +kernel
theorem dX10_sillFor_49 : decode cX10_sillFor 49 = .ok (.iload_n 1, 1) := by decide +kernel
theorem dX10_sillFor_50 : decode cX10_sillFor 50 = .ok (.ishl, 1) := by decide +kernel
theorem dX10_sillFor_51 : decode cX10_sillFor 51 = .ok (.ior, 1) := by decide +kernel
theorem dX10_sillFor_52 : decode cX10_sillFor 52 = .ok (.putfield 237, 3) := by decide +kernel
theorem dX10_sillFor_55 : decode cX10_sillFor 55 = .ok (.aload_n 3, 1) := by decide +kernel
theorem dX10_sillFor_56 : decode cX10_sillFor 56 = .ok (.getfield 99, 3) := by decide +kernel
theorem dX10_sillFor_59 : decode cX10_sillFor 59 = .ok (.getfield 280, 3) := by decide +kernel
theorem dX10_sillFor_62 : decode cX10_sillFor 62 = .ok (.iload_n 1, 1) := by decide +kernel
theorem dX10_sillFor_63 : decode cX10_sillFor 63 = .ok (.dup2, 1) := by decide +kernel
theorem dX10_sillFor_64 : decode cX10_sillFor 64 = .ok (.iaload, 1) := by decide +kernel
theorem dX10_sillFor_65 : decode cX10_sillFor 65 = .ok (.iload_n 2, 1) := by decide +kernel
theorem dX10_sillFor_66 : decode cX10_sillFor 66 = .ok (.iadd, 1) := by decide +kernel
theorem dX10_sillFor_67 : decode cX10_sillFor 67 = .ok (.iastore, 1) := by decide +kernel
theorem dX10_sillFor_68 : decode cX10_sillFor 68 = .ok (.aload_n 3, 1) := by decide +kernel
theorem dX10_sillFor_69 : decode cX10_sillFor 69 = .ok (.bipush 12, 2) := by decide +kernel
theorem dX10_sillFor_71 : decode cX10_sillFor 71 = .ok (.invokevirtual 344, 3) := by decide +kernel
theorem dX10_sillFor_74 : decode cX10_sillFor 74 = .ok (.aload_n 0, 1) := by decide +kernel
theorem dX10_sillFor_75 : decode cX10_sillFor 75 = .ok (.aload_n 3, 1) := by decide +kernel
theorem dX10_sillFor_76 : decode cX10_sillFor 76 = .ok (.invokevirtual 376, 3) := by decide +kernel
theorem dX10_sillFor_79 : decode cX10_sillFor 79 = .ok (.ifCond .ne 9, 3) := by decide +kernel
theorem dX10_sillFor_82 : decode cX10_sillFor 82 = .ok (.aload_n 0, 1) := by decide +kernel
theorem dX10_sillFor_83 : decode cX10_sillFor 83 = .ok (.iload_n 2, 1) := by decide +kernel
theorem dX10_sillFor_84 : decode cX10_sillFor 84 = .ok (.invokevirtual 197, 3) := by decide +kernel
theorem dX10_sillFor_87 : decode cX10_sillFor 87 = .ok (.ireturn, 1) := by decide +kernel
theorem dX10_sillFor_88 : decode cX10_sillFor 88 = .ok (.iinc 2 1, 3) := by decide +kernel
theorem dX10_sillFor_91 : decode cX10_sillFor 91 = .ok (.goto (-75), 3) := by decide +kernel
theorem dX10_sillFor_94 : decode cX10_sillFor 94 = .ok (.aload_n 0, 1) := by decide +kernel
theorem dX10_sillFor_95 : decode cX10_sillFor 95 = .ok (.bipush 6, 2) := by decide +kernel
theorem dX10_sillFor_97 : decode cX10_sillFor 97 = .ok (.invokevirtual 143, 3) := by decide +kernel
theorem dX10_sillFor_100 : decode cX10_sillFor 100 = .ok (.ireturn, 1) := by decide +kernel
theorem dX10_through_0 : decode cX10_through 0 = .ok (.aload_n 0, 1) := by decide +kernel
theorem dX10_through_1 : decode cX10_through 1 = .ok (.iload_n 1, 1) := by decide +kernel
theorem dX10_through_2 : decode cX10_through 2 = .ok (.invokevirtual 268, 3) := by decide +kernel
theorem dX10_through_5 : decode cX10_through 5 = .ok (.ifCond .eq 13, 3) := by decide +kernel
theorem dX10_through_8 : decode cX10_through 8 = .ok (.iload_n 2, 1) := by decide +kernel
theorem dX10_through_9 : decode cX10_through 9 = .ok (.iconst 0, 1) := by decide +kernel
theorem dX10_through_10 : decode cX10_through 10 = .ok (.bipush 99, 2) := by decide +kernel
theorem dX10_through_12 : decode cX10_through 12 = .ok (.invokestatic 117, 3) := by decide +kernel
theorem dX10_through_15 : decode cX10_through 15 = .ok (.ifCond .ne 9, 3) := by decide +kernel
theorem dX10_through_18 : decode cX10_through 18 = .ok (.aload_n 0, 1) := by decide +kernel
theorem dX10_through_19 : decode cX10_through 19 = .ok (.iconst 1, 1) := by decide +kernel
theorem dX10_through_20 : decode cX10_through 20 = .ok (.invokevirtual 143, 3) := by decide +kernel
theorem dX10_through_23 : decode cX10_through 23 = .ok (.ireturn, 1) := by decide +kernel
theorem dX10_through_24 : decode cX10_through 24 = .ok (.aload_n 0, 1) := by decide +kernel
theorem dX10_through_25 : decode cX10_through 25 = .ok (.invokevirtual 367, 3) := by decide +kernel
theorem dX10_through_28 : decode cX10_through 28 = .ok (.astore_n 3, 1) := by decide +kernel
theorem dX10_through_29 : decode cX10_through 29 = .ok (.iconst 0, 1) := by decide +kernel
theorem dX10_through_30 : decode cX10_through 30 = .ok (.istore 4, 2) := by decide +kernel
theorem dX10_through_32 : decode cX10_through 32 = .ok (.iconst 0, 1) := by decide +kernel
theorem dX10_through_33 : decode cX10_through 33 = .ok (.istore 5, 2) := by decide +kernel
theorem dX10_through_35 : decode cX10_through 35 = .ok (.iload 5, 2) := by decide +kernel
theorem dX10_through_37 : decode cX10_through 37 = .ok (.iload_n 2, 1) := by decide +kernel
theorem dX10_through_38 : decode cX10_through 38 = .ok (.if_icmp .ge 24, 3) := by decide +kernel
theorem dX10_through_41 : decode cX10_through 41 = .ok (.aload_n 3, 1) := by decide +kernel
theorem dX10_through_42 : decode cX10_through 42 = .ok (.invokevirtual 373, 3) := by decide +kernel
theorem dX10_through_45 : decode cX10_through 45 = .ok (.iload 4, 2) := by decide +kernel
theorem dX10_through_47 : decode cX10_through 47 = .ok (.aload_n 3, 1) := by decide +kernel
theorem dX10_through_48 : decode cX10_through 48 = .ok (.getfield 380, 3) := by decide +kernel
theorem dX10_through_51 : decode cX10_through 51 = .ok (.iload_n 1, 1) := by decide +kernel
theorem dX10_through_52 : decode cX10_through 52 = .ok (.iaload, 1) := by decide +kernel
theorem dX10_through_53 : decode cX10_through 53 = .ok (.iadd, 1) := by decide +kernel
theorem dX10_through_54 : decode cX10_through 54 = .ok (.istore 4, 2) := by decide +kernel
theorem dX10_through_56 : decode cX10_through 56 = .ok (.iinc 5 1, 3) := by decide +kernel
theorem dX10_through_59 : decode cX10_through 59 = .ok (.goto (-24), 3) := by decide +kernel
theorem dX10_through_62 : decode cX10_through 62 = .ok (.aload_n 0, 1) := by decide +kernel
theorem dX10_through_63 : decode cX10_through 63 = .ok (.iload 4, 2) := by decide +kernel
theorem dX10_through_65 : decode cX10_through 65 = .ok (.invokevirtual 197, 3) := by decide +kernel
theorem dX10_through_68 : decode cX10_through 68 = .ok (.ireturn, 1) := by decide +kernel
theorem dX10_greatest_0 : decode cX10_greatest 0 = .ok (.aload_n 0, 1) := by decide +kernel
theorem dX10_greatest_1 : decode cX10_greatest 1 = .ok (.iload_n 1, 1) := by decide +kernel
theorem dX10_greatest_2 : decode cX10_greatest 2 = .ok (.invokevirtual 243, 3) := by decide +kernel
theorem dX10_greatest_5 : decode cX10_greatest 5 = .ok (.ifCond .eq 13, 3) := by decide +kernel
theorem dX10_greatest_8 : decode cX10_greatest 8 = .ok (.iload_n 2, 1) := by decide +kernel
theorem dX10_greatest_9 : decode cX10_greatest 9 = .ok (.iconst 0, 1) := by decide +kernel
theorem dX10_greatest_10 : decode cX10_greatest 10 = .ok (.bipush 99, 2) := by decide +kernel
theorem dX10_greatest_12 : decode cX10_greatest 12 = .ok (.invokestatic 117, 3) := by decide +kernel
theorem dX10_greatest_15 : decode cX10_greatest 15 = .ok (.ifCond .ne 9, 3) := by decide +kernel
theorem dX10_greatest_18 : decode cX10_greatest 18 = .ok (.aload_n 0, 1) := by decide +kernel
theorem dX10_greatest_19 : decode cX10_greatest 19 = .ok (.iconst 1, 1) := by decide +kernel
theorem dX10_greatest_20 : decode cX10_greatest 20 = .ok (.invokevirtual 143, 3) := by decide +kernel
theorem dX10_greatest_23 : decode cX10_greatest 23 = .ok (.ireturn, 1) := by decide +kernel
theorem dX10_greatest_24 : decode cX10_greatest 24 = .ok (.aload_n 0, 1) := by decide +kernel
theorem dX10_greatest_25 : decode cX10_greatest 25 = .ok (.invokevirtual 367, 3) := by decide +kernel
theorem dX10_greatest_28 : decode cX10_greatest 28 = .ok (.astore_n 3, 1) := by decide +kernel
theorem dX10_greatest_29 : decode cX10_greatest 29 = .ok (.aload_n 3, 1) := by decide +kernel
theorem dX10_greatest_30 : decode cX10_greatest 30 = .ok (.getfield 90, 3) := by decide +kernel
theorem dX10_greatest_33 : decode cX10_greatest 33 = .ok (.iload_n 1, 1) := by decide +kernel
theorem dX10_greatest_34 : decode cX10_greatest 34 = .ok (.invokevirtual 262, 3) := by decide +kernel
theorem dX10_greatest_37 : decode cX10_greatest 37 = .ok (.istore 4, 2) := by decide +kernel
theorem dX10_greatest_39 : decode cX10_greatest 39 = .ok (.iconst 0, 1) := by decide +kernel
theorem dX10_greatest_40 : decode cX10_greatest 40 = .ok (.istore 5, 2) := by decide +kernel
theorem dX10_greatest_42 : decode cX10_greatest 42 = .ok (.iload 5, 2) := by decide +kernel
theorem dX10_greatest_44 : decode cX10_greatest 44 = .ok (.iload_n 2, 1) := by decide +kernel
theorem dX10_greatest_45 : decode cX10_greatest 45 = .ok (.if_icmp .ge 28, 3) := by decide +kernel
theorem dX10_greatest_48 : decode cX10_greatest 48 = .ok (.aload_n 3, 1) := by decide +kernel
theorem dX10_greatest_49 : decode cX10_greatest 49 = .ok (.invokevirtual 373, 3) := by decide +kernel
theorem dX10_greatest_52 : decode cX10_greatest 52 = .ok (.iload 4, 2) := by decide +kernel
theorem dX10_greatest_54 : decode cX10_greatest 54 = .ok (.aload_n 3, 1) := by decide +kernel
theorem dX10_greatest_55 : decode cX10_greatest 55 = .ok (.getfield 90, 3) := by decide +kernel
theorem dX10_greatest_58 : decode cX10_greatest 58 = .ok (.iload_n 1, 1) := by decide +kernel
theorem dX10_greatest_59 : decode cX10_greatest 59 = .ok (.invokevirtual 262, 3) := by decide +kernel
theorem dX10_greatest_62 : decode cX10_greatest 62 = .ok (.invokestatic 331, 3) := by decide +kernel
theorem dX10_greatest_65 : decode cX10_greatest 65 = .ok (.istore 4, 2) := by decide +kernel
theorem dX10_greatest_67 : decode cX10_greatest 67 = .ok (.iinc 5 1, 3) := by decide +kernel
theorem dX10_greatest_70 : decode cX10_greatest 70 = .ok (.goto (-28), 3) := by decide +kernel
theorem dX10_greatest_73 : decode cX10_greatest 73 = .ok (.aload_n 0, 1) := by decide +kernel
theorem dX10_greatest_74 : decode cX10_greatest 74 = .ok (.iload 4, 2) := by decide +kernel
theorem dX10_greatest_76 : decode cX10_greatest 76 = .ok (.invokevirtual 197, 3) := by decide +kernel
theorem dX10_greatest_79 : decode cX10_greatest 79 = .ok (.ireturn, 1) := by decide +kernel
theorem dX10_firstDrowned_0 : decode cX10_firstDrowned 0 = .ok (.aload_n 0, 1) := by decide +kernel
theorem dX10_firstDrowned_1 : decode cX10_firstDrowned 1 = .ok (.invokevirtual 367, 3) := by decide +kernel
theorem dX10_firstDrowned_4 : decode cX10_firstDrowned 4 = .ok (.astore_n 1, 1) := by decide +kernel
theorem dX10_firstDrowned_5 : decode cX10_firstDrowned 5 = .ok (.iconst 0, 1) := by decide +kernel
theorem dX10_firstDrowned_6 : decode cX10_firstDrowned 6 = .ok (.istore_n 2, 1) := by decide +kernel
theorem dX10_firstDrowned_7 : decode cX10_firstDrowned 7 = .ok (.iload_n 2, 1) := by decide +kernel
theorem dX10_firstDrowned_8 : decode cX10_firstDrowned 8 = .ok (.bipush 99, 2) := by decide +kernel
theorem dX10_firstDrowned_10 : decode cX10_firstDrowned 10 = .ok (.if_icmp .ge 32, 3) := by decide +kernel
theorem dX10_firstDrowned_13 : decode cX10_firstDrowned 13 = .ok (.aload_n 1, 1) := by decide +kernel
theorem dX10_firstDrowned_14 : decode cX10_firstDrowned 14 = .ok (.invokevirtual 373, 3) := by decide +kernel
theorem dX10_firstDrowned_17 : decode cX10_firstDrowned 17 = .ok (.aload_n 0, 1) := by decide +kernel
theorem dX10_firstDrowned_18 : decode cX10_firstDrowned 18 = .ok (.aload_n 1, 1) := by decide +kernel
theorem dX10_firstDrowned_19 : decode cX10_firstDrowned 19 = .ok (.invokevirtual 376, 3) := by decide +kernel
theorem dX10_firstDrowned_22 : decode cX10_firstDrowned 22 = .ok (.istore_n 3, 1) := by decide +kernel
theorem dX10_firstDrowned_23 : decode cX10_firstDrowned 23 = .ok (.iload_n 3, 1) := by decide +kernel
theorem dX10_firstDrowned_24 : decode cX10_firstDrowned 24 = .ok (.ifCond .eq 12, 3) := by decide +kernel
theorem dX10_firstDrowned_27 : decode cX10_firstDrowned 27 = .ok (.aload_n 0, 1) := by decide +kernel
theorem dX10_firstDrowned_28 : decode cX10_firstDrowned 28 = .ok (.iload_n 3, 1) := by decide +kernel
theorem dX10_firstDrowned_29 : decode cX10_firstDrowned 29 = .ok (.invokestatic 383, 3) := by decide +kernel
theorem dX10_firstDrowned_32 : decode cX10_firstDrowned 32 = .ok (.invokevirtual 197, 3) := by decide +kernel
theorem dX10_firstDrowned_35 : decode cX10_firstDrowned 35 = .ok (.ireturn, 1) := by decide +kernel
theorem dX10_firstDrowned_36 : decode cX10_firstDrowned 36 = .ok (.iinc 2 1, 3) := by decide +kernel
theorem dX10_firstDrowned_39 : decode cX10_firstDrowned 39 = .ok (.goto (-32), 3) := by decide +kernel
theorem dX10_firstDrowned_42 : decode cX10_firstDrowned 42 = .ok (.aload_n 0, 1) := by decide +kernel
theorem dX10_firstDrowned_43 : decode cX10_firstDrowned 43 = .ok (.bipush 6, 2) := by decide +kernel
theorem dX10_firstDrowned_45 : decode cX10_firstDrowned 45 = .ok (.invokevirtual 143, 3) := by decide +kernel
theorem dX10_firstDrowned_48 : decode cX10_firstDrowned 48 = .ok (.ireturn, 1) := by decide +kernel
theorem dX10_bestHour_0 : decode cX10_bestHour 0 = .ok (.aload_n 0, 1) := by decide +kernel
theorem dX10_bestHour_1 : decode cX10_bestHour 1 = .ok (.iload_n 1, 1) := by decide +kernel
theorem dX10_bestHour_2 : decode cX10_bestHour 2 = .ok (.invokevirtual 268, 3) := by decide +kernel
theorem dX10_bestHour_5 : decode cX10_bestHour 5 = .ok (.ifCond .ne 9, 3) := by decide +kernel
theorem dX10_bestHour_8 : decode cX10_bestHour 8 = .ok (.aload_n 0, 1) := by decide +kernel
theorem dX10_bestHour_9 : decode cX10_bestHour 9 = .ok (.iconst 1, 1) := by decide +kernel
theorem dX10_bestHour_10 : decode cX10_bestHour 10 = .ok (.invokevirtual 143, 3) := by decide +kernel
theorem dX10_bestHour_13 : decode cX10_bestHour 13 = .ok (.ireturn, 1) := by decide +kernel
theorem dX10_bestHour_14 : decode cX10_bestHour 14 = .ok (.iconst 0, 1) := by decide +kernel
theorem dX10_bestHour_15 : decode cX10_bestHour 15 = .ok (.istore_n 2, 1) := by decide +kernel
theorem dX10_bestHour_16 : decode cX10_bestHour 16 = .ok (.ldc_w 386, 3) := by decide +kernel
theorem dX10_bestHour_19 : decode cX10_bestHour 19 = .ok (.istore_n 3, 1) := by decide +kernel
theorem dX10_bestHour_20 : decode cX10_bestHour 20 = .ok (.iconst 0, 1) := by decide +kernel
theorem dX10_bestHour_21 : decode cX10_bestHour 21 = .ok (.istore 4, 2) := by decide +kernel
theorem dX10_bestHour_23 : decode cX10_bestHour 23 = .ok (.iload 4, 2) := by decide +kernel
theorem dX10_bestHour_25 : decode cX10_bestHour 25 = .ok (.bipush 12, 2) := by decide +kernel
theorem dX10_bestHour_27 : decode cX10_bestHour 27 = .ok (.if_icmp .ge 71, 3) := by decide +kernel
theorem dX10_bestHour_30 : decode cX10_bestHour 30 = .ok (.aload_n 0, 1) := by decide +kernel
theorem dX10_bestHour_31 : decode cX10_bestHour 31 = .ok (.invokevirtual 367, 3) := by decide +kernel
theorem dX10_bestHour_34 : decode cX10_bestHour 34 = .ok (.astore 5, 2) := by decide +kernel
theorem dX10_bestHour_36 : decode cX10_bestHour 36 = .ok (.aload 5, 2) := by decide +kernel
theorem dX10_bestHour_38 : decode cX10_bestHour 38 = .ok (.getfield 99, 3) := by decide +kernel
theorem dX10_bestHour_41 : decode cX10_bestHour 41 = .ok (.dup, 1) := by decide +kernel
theorem dX10_bestHour_42 : decode cX10_bestHour 42 = .ok (.getfield 237, 3) := by decide +kernel
theorem dX10_bestHour_45 : decode cX10_bestHour 45 = .ok (.iconst 1, 1) := by decide +kernel
theorem dX10_bestHour_46 : decode cX10_bestHour 46 = .ok (.iload_n 1, 1) := by decide +kernel
theorem dX10_bestHour_47 : decode cX10_bestHour 47 = .ok (.ishl, 1) := by decide +kernel
theorem dX10_bestHour_48 : decode cX10_bestHour 48 = .ok (.iconst (-1), 1) := by decide +kernel
theorem dX10_bestHour_49 : decode cX10_bestHour 49 = .ok (.ixor, 1) := by decide +kernel
theorem dX10_bestHour_50 : decode cX10_bestHour 50 = .ok (.iand, 1) := by decide +kernel
theorem dX10_bestHour_51 : decode cX10_bestHour 51 = .ok (.putfield 237, 3) := by decide +kernel
theorem dX10_bestHour_54 : decode cX10_bestHour 54 = .ok (.aload 5, 2) := by decide +kernel
theorem dX10_bestHour_56 : decode cX10_bestHour 56 = .ok (.getfield 99, 3) := by decide +kernel
theorem dX10_bestHour_59 : decode cX10_bestHour 59 = .ok (.getfield 356, 3) := by decide +kernel
theorem dX10_bestHour_62 : decode cX10_bestHour 62 = .ok (.iload 4, 2) := by decide +kernel
theorem dX10_bestHour_64 : decode cX10_bestHour 64 = .ok (.dup2, 1) := by decide +kernel
theorem dX10_bestHour_65 : decode cX10_bestHour 65 = .ok (.iaload, 1) := by decide +kernel
theorem dX10_bestHour_66 : decode cX10_bestHour 66 = .ok (.iconst 1, 1) := by decide +kernel
theorem dX10_bestHour_67 : decode cX10_bestHour 67 = .ok (.iload_n 1, 1) := by decide +kernel
theorem dX10_bestHour_68 : decode cX10_bestHour 68 = .ok (.ishl, 1) := by decide +kernel
theorem dX10_bestHour_69 : decode cX10_bestHour 69 = .ok (.ior, 1) := by decide +kernel
theorem dX10_bestHour_70 : decode cX10_bestHour 70 = .ok (.iastore, 1) := by decide +kernel
theorem dX10_bestHour_71 : decode cX10_bestHour 71 = .ok (.aload 5, 2) := by decide +kernel
theorem dX10_bestHour_73 : decode cX10_bestHour 73 = .ok (.bipush 12, 2) := by decide +kernel
theorem dX10_bestHour_75 : decode cX10_bestHour 75 = .ok (.invokevirtual 370, 3) := by decide +kernel
theorem dX10_bestHour_78 : decode cX10_bestHour 78 = .ok (.istore 6, 2) := by decide +kernel
theorem dX10_bestHour_80 : decode cX10_bestHour 80 = .ok (.iload 6, 2) := by decide +kernel
theorem dX10_bestHour_82 : decode cX10_bestHour 82 = .ok (.iload_n 3, 1) := by decide +kernel
theorem dX10_bestHour_83 : decode cX10_bestHour 83 = .ok (.if_icmp .ge 9, 3) := by decide +kernel
theorem dX10_bestHour_86 : decode cX10_bestHour 86 = .ok (.iload 6, 2) := by decide +kernel
theorem dX10_bestHour_88 : decode cX10_bestHour 88 = .ok (.istore_n 3, 1) := by decide +kernel
theorem dX10_bestHour_89 : decode cX10_bestHour 89 = .ok (.iload 4, 2) := by decide +kernel
theorem dX10_bestHour_91 : decode cX10_bestHour 91 = .ok (.istore_n 2, 1) := by decide +kernel
theorem dX10_bestHour_92 : decode cX10_bestHour 92 = .ok (.iinc 4 1, 3) := by decide +kernel
theorem dX10_bestHour_95 : decode cX10_bestHour 95 = .ok (.goto (-72), 3) := by decide +kernel
theorem dX10_bestHour_98 : decode cX10_bestHour 98 = .ok (.aload_n 0, 1) := by decide +kernel
theorem dX10_bestHour_99 : decode cX10_bestHour 99 = .ok (.iload_n 2, 1) := by decide +kernel
theorem dX10_bestHour_100 : decode cX10_bestHour 100 = .ok (.invokevirtual 197, 3) := by decide +kernel
theorem dX10_bestHour_103 : decode cX10_bestHour 103 = .ok (.ireturn, 1) := by decide +kernel
theorem dX10_pumpFor_0 : decode cX10_pumpFor 0 = .ok (.aload_n 0, 1) := by decide +kernel
theorem dX10_pumpFor_1 : decode cX10_pumpFor 1 = .ok (.iload_n 1, 1) := by decide +kernel
theorem dX10_pumpFor_2 : decode cX10_pumpFor 2 = .ok (.invokevirtual 243, 3) := by decide +kernel
theorem dX10_pumpFor_5 : decode cX10_pumpFor 5 = .ok (.ifCond .ne 9, 3) := by decide +kernel
theorem dX10_pumpFor_8 : decode cX10_pumpFor 8 = .ok (.aload_n 0, 1) := by decide +kernel
theorem dX10_pumpFor_9 : decode cX10_pumpFor 9 = .ok (.iconst 1, 1) := by decide +kernel
theorem dX10_pumpFor_10 : decode cX10_pumpFor 10 = .ok (.invokevirtual 143, 3) := by decide +kernel
theorem dX10_pumpFor_13 : decode cX10_pumpFor 13 = .ok (.ireturn, 1) := by decide +kernel
theorem dX10_pumpFor_14 : decode cX10_pumpFor 14 = .ok (.iconst 0, 1) := by decide +kernel
theorem dX10_pumpFor_15 : decode cX10_pumpFor 15 = .ok (.istore_n 2, 1) := by decide +kernel
theorem dX10_pumpFor_16 : decode cX10_pumpFor 16 = .ok (.iload_n 2, 1) := by decide +kernel
theorem dX10_pumpFor_17 : decode cX10_pumpFor 17 = .ok (.bipush 99, 2) := by decide +kernel
theorem dX10_pumpFor_19 : decode cX10_pumpFor 19 = .ok (.if_icmp .gt 47, 3) := by decide +kernel
theorem dX10_pumpFor_22 : decode cX10_pumpFor 22 = .ok (.aload_n 0, 1) := by decide +kernel
theorem dX10_pumpFor_23 : decode cX10_pumpFor 23 = .ok (.invokevirtual 367, 3) := by decide +kernel
theorem dX10_pumpFor_26 : decode cX10_pumpFor 26 = .ok (.astore_n 3, 1) := by decide +kernel
theorem dX10_pumpFor_27 : decode cX10_pumpFor 27 = .ok (.aload_n 3, 1) := by decide +kernel
theorem dX10_pumpFor_28 : decode cX10_pumpFor 28 = .ok (.getfield 90, 3) := by decide +kernel
theorem dX10_pumpFor_31 : decode cX10_pumpFor 31 = .ok (.getfield 256, 3) := by decide +kernel
theorem dX10_pumpFor_34 : decode cX10_pumpFor 34 = .ok (.iload_n 1, 1) := by decide +kernel
theorem dX10_pumpFor_35 : decode cX10_pumpFor 35 = .ok (.iload_n 2, 1) := by decide +kernel
theorem dX10_pumpFor_36 : decode cX10_pumpFor 36 = .ok (.iastore, 1) := by decide +kernel
theorem dX10_pumpFor_37 : decode cX10_pumpFor 37 = .ok (.aload_n 3, 1) := by decide +kernel
theorem dX10_pumpFor_38 : decode cX10_pumpFor 38 = .ok (.bipush 24, 2) := by decide +kernel
theorem dX10_pumpFor_40 : decode cX10_pumpFor 40 = .ok (.invokevirtual 344, 3) := by decide +kernel
theorem dX10_pumpFor_43 : decode cX10_pumpFor 43 = .ok (.aload_n 3, 1) := by decide +kernel
theorem dX10_pumpFor_44 : decode cX10_pumpFor 44 = .ok (.getfield 90, 3) := by decide +kernel
theorem dX10_pumpFor_47 : decode cX10_pumpFor 47 = .ok (.iload_n 1, 1) := by decide +kernel
theorem dX10_pumpFor_48 : decode cX10_pumpFor 48 = .ok (.invokevirtual 359, 3) := by decide +kernel
theorem dX10_pumpFor_51 : decode cX10_pumpFor 51 = .ok (.ifCond .ne 9, 3) := by decide +kernel
theorem dX10_pumpFor_54 : decode cX10_pumpFor 54 = .ok (.aload_n 0, 1) := by decide +kernel
theorem dX10_pumpFor_55 : decode cX10_pumpFor 55 = .ok (.iload_n 2, 1) := by decide +kernel
theorem dX10_pumpFor_56 : decode cX10_pumpFor 56 = .ok (.invokevirtual 197, 3) := by decide +kernel
theorem dX10_pumpFor_59 : decode cX10_pumpFor 59 = .ok (.ireturn, 1) := by decide +kernel
theorem dX10_pumpFor_60 : decode cX10_pumpFor 60 = .ok (.iinc 2 1, 3) := by decide +kernel
theorem dX10_pumpFor_63 : decode cX10_pumpFor 63 = .ok (.goto (-47), 3) := by decide +kernel
theorem dX10_pumpFor_66 : decode cX10_pumpFor 66 = .ok (.aload_n 0, 1) := by decide +kernel
theorem dX10_pumpFor_67 : decode cX10_pumpFor 67 = .ok (.bipush 6, 2) := by decide +kernel
theorem dX10_pumpFor_69 : decode cX10_pumpFor 69 = .ok (.invokevirtual 143, 3) := by decide +kernel
theorem dX10_pumpFor_72 : decode cX10_pumpFor 72 = .ok (.ireturn, 1) := by decide +kernel
theorem dX10_pumpAt_0 : decode cX10_pumpAt 0 = .ok (.iload_n 1, 1) := by decide +kernel
theorem dX10_pumpAt_1 : decode cX10_pumpAt 1 = .ok (.iconst 1, 1) := by decide +kernel
theorem dX10_pumpAt_2 : decode cX10_pumpAt 2 = .ok (.bipush 99, 2) := by decide +kernel
theorem dX10_pumpAt_4 : decode cX10_pumpAt 4 = .ok (.invokestatic 117, 3) := by decide +kernel
theorem dX10_pumpAt_7 : decode cX10_pumpAt 7 = .ok (.ifCond .ne 9, 3) := by decide +kernel
theorem dX10_pumpAt_10 : decode cX10_pumpAt 10 = .ok (.aload_n 0, 1) := by decide +kernel
theorem dX10_pumpAt_11 : decode cX10_pumpAt 11 = .ok (.iconst 1, 1) := by decide +kernel
theorem dX10_pumpAt_12 : decode cX10_pumpAt 12 = .ok (.invokevirtual 143, 3) := by decide +kernel
theorem dX10_pumpAt_15 : decode cX10_pumpAt 15 = .ok (.ireturn, 1) := by decide +kernel
theorem dX10_pumpAt_16 : decode cX10_pumpAt 16 = .ok (.iconst (-1), 1) := by decide +kernel
theorem dX10_pumpAt_17 : decode cX10_pumpAt 17 = .ok (.istore_n 2, 1) := by decide +kernel
theorem dX10_pumpAt_18 : decode cX10_pumpAt 18 = .ok (.ldc_w 386, 3) := by decide +kernel
theorem dX10_pumpAt_21 : decode cX10_pumpAt 21 = .ok (.istore_n 3, 1) := by decide +kernel
theorem dX10_pumpAt_22 : decode cX10_pumpAt 22 = .ok (.iconst 0, 1) := by decide +kernel
theorem dX10_pumpAt_23 : decode cX10_pumpAt 23 = .ok (.istore 4, 2) := by decide +kernel
theorem dX10_pumpAt_25 : decode cX10_pumpAt 25 = .ok (.iload 4, 2) := by decide +kernel
theorem dX10_pumpAt_27 : decode cX10_pumpAt 27 = .ok (.aload_n 0, 1) := by decide +kernel
theorem dX10_pumpAt_28 : decode cX10_pumpAt 28 = .ok (.getfield 12, 3) := by decide +kernel
theorem dX10_pumpAt_31 : decode cX10_pumpAt 31 = .ok (.getfield 90, 3) := by decide +kernel
theorem dX10_pumpAt_34 : decode cX10_pumpAt 34 = .ok (.getfield 94, 3) := by decide +kernel
theorem dX10_pumpAt_37 : decode cX10_pumpAt 37 = .ok (.if_icmp .ge 65, 3) := by decide +kernel
theorem dX10_pumpAt_40 : decode cX10_pumpAt 40 = .ok (.aload_n 0, 1) := by decide +kernel
theorem dX10_pumpAt_41 : decode cX10_pumpAt 41 = .ok (.invokevirtual 367, 3) := by decide +kernel
theorem dX10_pumpAt_44 : decode cX10_pumpAt 44 = .ok (.astore 5, 2) := by decide +kernel
theorem dX10_pumpAt_46 : decode cX10_pumpAt 46 = .ok (.aload 5, 2) := by decide +kernel
theorem dX10_pumpAt_48 : decode cX10_pumpAt 48 = .ok (.getfield 90, 3) := by decide +kernel
theorem dX10_pumpAt_51 : decode cX10_pumpAt 51 = .ok (.getfield 256, 3) := by decide +kernel
theorem dX10_pumpAt_54 : decode cX10_pumpAt 54 = .ok (.iload 4, 2) := by decide +kernel
theorem dX10_pumpAt_56 : decode cX10_pumpAt 56 = .ok (.bipush 99, 2) := by decide +kernel
theorem dX10_pumpAt_58 : decode cX10_pumpAt 58 = .ok (.aload 5, 2) := by decide +kernel
theorem dX10_pumpAt_60 : decode cX10_pumpAt 60 = .ok (.getfield 90, 3) := by decide +kernel
theorem dX10_pumpAt_63 : decode cX10_pumpAt 63 = .ok (.getfield 256, 3) := by decide +kernel
theorem dX10_pumpAt_66 : decode cX10_pumpAt 66 = .ok (.iload 4, 2) := by decide +kernel
theorem dX10_pumpAt_68 : decode cX10_pumpAt 68 = .ok (.iaload, 1) := by decide +kernel
theorem dX10_pumpAt_69 : decode cX10_pumpAt 69 = .ok (.iload_n 1, 1) := by decide +kernel
theorem dX10_pumpAt_70 : decode cX10_pumpAt 70 = .ok (.iadd, 1) := by decide +kernel
theorem dX10_pumpAt_71 : decode cX10_pumpAt 71 = .ok (.invokestatic 387, 3) := by decide +kernel
theorem dX10_pumpAt_74 : decode cX10_pumpAt 74 = .ok (.iastore, 1) := by decide +kernel
theorem dX10_pumpAt_75 : decode cX10_pumpAt 75 = .ok (.aload 5, 2) := by decide +kernel
theorem dX10_pumpAt_77 : decode cX10_pumpAt 77 = .ok (.bipush 12, 2) := by decide +kernel
theorem dX10_pumpAt_79 : decode cX10_pumpAt 79 = .ok (.invokevirtual 370, 3) := by decide +kernel
theorem dX10_pumpAt_82 : decode cX10_pumpAt 82 = .ok (.istore 6, 2) := by decide +kernel
theorem dX10_pumpAt_84 : decode cX10_pumpAt 84 = .ok (.iload 6, 2) := by decide +kernel
theorem dX10_pumpAt_86 : decode cX10_pumpAt 86 = .ok (.iload_n 3, 1) := by decide +kernel
theorem dX10_pumpAt_87 : decode cX10_pumpAt 87 = .ok (.if_icmp .ge 9, 3) := by decide +kernel
theorem dX10_pumpAt_90 : decode cX10_pumpAt 90 = .ok (.iload 6, 2) := by decide +kernel
theorem dX10_pumpAt_92 : decode cX10_pumpAt 92 = .ok (.istore_n 3, 1) := by decide +kernel
theorem dX10_pumpAt_93 : decode cX10_pumpAt 93 = .ok (.iload 4, 2) := by decide +kernel
theorem dX10_pumpAt_95 : decode cX10_pumpAt 95 = .ok (.istore_n 2, 1) := by decide +kernel
theorem dX10_pumpAt_96 : decode cX10_pumpAt 96 = .ok (.iinc 4 1, 3) := by decide +kernel
theorem dX10_pumpAt_99 : decode cX10_pumpAt 99 = .ok (.goto (-74), 3) := by decide +kernel
theorem dX10_pumpAt_102 : decode cX10_pumpAt 102 = .ok (.iload_n 2, 1) := by decide +kernel
theorem dX10_pumpAt_103 : decode cX10_pumpAt 103 = .ok (.iconst (-1), 1) := by decide +kernel
theorem dX10_pumpAt_104 : decode cX10_pumpAt 104 = .ok (.if_icmp .ne 12, 3) := by decide +kernel
theorem dX10_pumpAt_107 : decode cX10_pumpAt 107 = .ok (.aload_n 0, 1) := by decide +kernel
theorem dX10_pumpAt_108 : decode cX10_pumpAt 108 = .ok (.bipush 6, 2) := by decide +kernel
theorem dX10_pumpAt_110 : decode cX10_pumpAt 110 = .ok (.invokevirtual 143, 3) := by decide +kernel
theorem dX10_pumpAt_113 : decode cX10_pumpAt 113 = .ok (.goto 8, 3) := by decide +kernel
theorem dX10_pumpAt_116 : decode cX10_pumpAt 116 = .ok (.aload_n 0, 1) := by decide +kernel
theorem dX10_pumpAt_117 : decode cX10_pumpAt 117 = .ok (.iload_n 2, 1) := by decide +kernel
theorem dX10_pumpAt_118 : decode cX10_pumpAt 118 = .ok (.invokevirtual 197, 3) := by decide +kernel
theorem dX10_pumpAt_121 : decode cX10_pumpAt 121 = .ok (.ireturn, 1) := by decide +kernel
theorem dX10_twoWalls_0 : decode cX10_twoWalls 0 = .ok (.iconst (-1), 1) := by decide +kernel
theorem dX10_twoWalls_1 : decode cX10_twoWalls 1 = .ok (.istore_n 1, 1) := by decide +kernel
theorem dX10_twoWalls_2 : decode cX10_twoWalls 2 = .ok (.ldc_w 386, 3) := by decide +kernel
theorem dX10_twoWalls_5 : decode cX10_twoWalls 5 = .ok (.istore_n 2, 1) := by decide +kernel
theorem dX10_twoWalls_6 : decode cX10_twoWalls 6 = .ok (.iconst 0, 1) := by decide +kernel
theorem dX10_twoWalls_7 : decode cX10_twoWalls 7 = .ok (.istore_n 3, 1) := by decide +kernel
theorem dX10_twoWalls_8 : decode cX10_twoWalls 8 = .ok (.iload_n 3, 1) := by decide +kernel
theorem dX10_twoWalls_9 : decode cX10_twoWalls 9 = .ok (.aload_n 0, 1) := by decide +kernel
theorem dX10_twoWalls_10 : decode cX10_twoWalls 10 = .ok (.getfield 12, 3) := by decide +kernel
theorem dX10_twoWalls_13 : decode cX10_twoWalls 13 = .ok (.getfield 99, 3) := by decide +kernel
theorem dX10_twoWalls_16 : decode cX10_twoWalls 16 = .ok (.getfield 103, 3) := by decide +kernel
theorem dX10_twoWalls_19 : decode cX10_twoWalls 19 = .ok (.if_icmp .ge 92, 3) := by decide +kernel
theorem dX10_twoWalls_22 : decode cX10_twoWalls 22 = .ok (.iload_n 3, 1) := by decide +kernel
theorem dX10_twoWalls_23 : decode cX10_twoWalls 23 = .ok (.iconst 1, 1) := by decide +kernel
theorem dX10_twoWalls_24 : decode cX10_twoWalls 24 = .ok (.iadd, 1) := by decide +kernel
theorem dX10_twoWalls_25 : decode cX10_twoWalls 25 = .ok (.istore 4, 2) := by decide +kernel
theorem dX10_twoWalls_27 : decode cX10_twoWalls 27 = .ok (.iload 4, 2) := by decide +kernel
theorem dX10_twoWalls_29 : decode cX10_twoWalls 29 = .ok (.aload_n 0, 1) := by decide +kernel
theorem dX10_twoWalls_30 : decode cX10_twoWalls 30 = .ok (.getfield 12, 3) := by decide +kernel
theorem dX10_twoWalls_33 : decode cX10_twoWalls 33 = .ok (.getfield 99, 3) := by decide +kernel
theorem dX10_twoWalls_36 : decode cX10_twoWalls 36 = .ok (.getfield 103, 3) := by decide +kernel
theorem dX10_twoWalls_39 : decode cX10_twoWalls 39 = .ok (.if_icmp .ge 66, 3) := by decide +kernel
theorem dX10_twoWalls_42 : decode cX10_twoWalls 42 = .ok (.iconst 1, 1) := by decide +kernel
theorem dX10_twoWalls_43 : decode cX10_twoWalls 43 = .ok (.iload_n 3, 1) := by decide +kernel
theorem dX10_twoWalls_44 : decode cX10_twoWalls 44 = .ok (.ishl, 1) := by decide +kernel
theorem dX10_twoWalls_45 : decode cX10_twoWalls 45 = .ok (.iconst 1, 1) := by decide +kernel
theorem dX10_twoWalls_46 : decode cX10_twoWalls 46 = .ok (.iload 4, 2) := by decide +kernel
theorem dX10_twoWalls_48 : decode cX10_twoWalls 48 = .ok (.ishl, 1) := by decide +kernel
theorem dX10_twoWalls_49 : decode cX10_twoWalls 49 = .ok (.ior, 1) := by decide +kernel
theorem dX10_twoWalls_50 : decode cX10_twoWalls 50 = .ok (.istore 5, 2) := by decide +kernel
theorem dX10_twoWalls_52 : decode cX10_twoWalls 52 = .ok (.aload_n 0, 1) := by decide +kernel
theorem dX10_twoWalls_53 : decode cX10_twoWalls 53 = .ok (.getfield 12, 3) := by decide +kernel
theorem dX10_twoWalls_56 : decode cX10_twoWalls 56 = .ok (.getfield 99, 3) := by decide +kernel
theorem dX10_twoWalls_59 : decode cX10_twoWalls 59 = .ok (.getfield 240, 3) := by decide +kernel
theorem dX10_twoWalls_62 : decode cX10_twoWalls 62 = .ok (.iload 5, 2) := by decide +kernel
theorem dX10_twoWalls_64 : decode cX10_twoWalls 64 = .ok (.iand, 1) := by decide +kernel
theorem dX10_twoWalls_65 : decode cX10_twoWalls 65 = .ok (.ifCond .ne 12, 3) := by decide +kernel
theorem dX10_twoWalls_68 : decode cX10_twoWalls 68 = .ok (.aload_n 0, 1) := by decide +kernel
theorem dX10_twoWalls_69 : decode cX10_twoWalls 69 = .ok (.iload 5, 2) := by decide +kernel
theorem dX10_twoWalls_71 : decode cX10_twoWalls 71 = .ok (.invokevirtual 390, 3) := by decide +kernel
theorem dX10_twoWalls_74 : decode cX10_twoWalls 74 = .ok (.goto 6, 3) := by decide +kernel
theorem dX10_twoWalls_77 : decode cX10_twoWalls 77 = .ok (.ldc_w 386, 3) := by decide +kernel
theorem dX10_twoWalls_80 : decode cX10_twoWalls 80 = .ok (.istore 6, 2) := by decide +kernel
theorem dX10_twoWalls_82 : decode cX10_twoWalls 82 = .ok (.iload 6, 2) := by decide +kernel
theorem dX10_twoWalls_84 : decode cX10_twoWalls 84 = .ok (.iload_n 2, 1) := by decide +kernel
theorem dX10_twoWalls_85 : decode cX10_twoWalls 85 = .ok (.if_icmp .ge 14, 3) := by decide +kernel
theorem dX10_twoWalls_88 : decode cX10_twoWalls 88 = .ok (.iload 6, 2) := by decide +kernel
theorem dX10_twoWalls_90 : decode cX10_twoWalls 90 = .ok (.istore_n 2, 1) := by decide +kernel
theorem dX10_twoWalls_91 : decode cX10_twoWalls 91 = .ok (.bipush 10, 2) := by decide +kernel
theorem dX10_twoWalls_93 : decode cX10_twoWalls 93 = .ok (.iload_n 3, 1) := by decide +kernel
theorem dX10_twoWalls_94 : decode cX10_twoWalls 94 = .ok (.imul, 1) := by decide +kernel
theorem dX10_twoWalls_95 : decode cX10_twoWalls 95 = .ok (.iload 4, 2) := by decide +kernel
theorem dX10_twoWalls_97 : decode cX10_twoWalls 97 = .ok (.iadd, 1) := by decide +kernel
theorem dX10_twoWalls_98 : decode cX10_twoWalls 98 = .ok (.istore_n 1, 1) := by decide +kernel
theorem dX10_twoWalls_99 : decode cX10_twoWalls 99 = .ok (.iinc 4 1, 3) := by decide +kernel
theorem dX10_twoWalls_102 : decode cX10_twoWalls 102 = .ok (.goto (-75), 3) := by decide +kernel
theorem dX10_twoWalls_105 : decode cX10_twoWalls 105 = .ok (.iinc 3 1, 3) := by decide +kernel
theorem dX10_twoWalls_108 : decode cX10_twoWalls 108 = .ok (.goto (-100), 3) := by decide +kernel
theorem dX10_twoWalls_111 : decode cX10_twoWalls 111 = .ok (.iload_n 1, 1) := by decide +kernel
theorem dX10_twoWalls_112 : decode cX10_twoWalls 112 = .ok (.iconst (-1), 1) := by decide +kernel
theorem dX10_twoWalls_113 : decode cX10_twoWalls 113 = .ok (.if_icmp .ne 12, 3) := by decide +kernel
theorem dX10_twoWalls_116 : decode cX10_twoWalls 116 = .ok (.aload_n 0, 1) := by decide +kernel
theorem dX10_twoWalls_117 : decode cX10_twoWalls 117 = .ok (.bipush 6, 2) := by decide +kernel
theorem dX10_twoWalls_119 : decode cX10_twoWalls 119 = .ok (.invokevirtual 143, 3) := by decide +kernel
theorem dX10_twoWalls_122 : decode cX10_twoWalls 122 = .ok (.goto 8, 3) := by decide +kernel
theorem dX10_twoWalls_125 : decode cX10_twoWalls 125 = .ok (.aload_n 0, 1) := by decide +kernel
theorem dX10_twoWalls_126 : decode cX10_twoWalls 126 = .ok (.iload_n 1, 1) := by decide +kernel
theorem dX10_twoWalls_127 : decode cX10_twoWalls 127 = .ok (.invokevirtual 197, 3) := by decide +kernel
theorem dX10_twoWalls_130 : decode cX10_twoWalls 130 = .ok (.ireturn, 1) := by decide +kernel
theorem dX10_waterWalled_0 : decode cX10_waterWalled 0 = .ok (.aload_n 0, 1) := by decide +kernel
theorem dX10_waterWalled_1 : decode cX10_waterWalled 1 = .ok (.invokevirtual 367, 3) := by decide +kernel
theorem dX10_waterWalled_4 : decode cX10_waterWalled 4 = .ok (.astore_n 2, 1) := by decide +kernel
theorem dX10_waterWalled_5 : decode cX10_waterWalled 5 = .ok (.aload_n 2, 1) := by decide +kernel
theorem dX10_waterWalled_6 : decode cX10_waterWalled 6 = .ok (.getfield 99, 3) := by decide +kernel
theorem dX10_waterWalled_9 : decode cX10_waterWalled 9 = .ok (.dup, 1) := by decide +kernel
theorem dX10_waterWalled_10 : decode cX10_waterWalled 10 = .ok (.getfield 240, 3) := by decide +kernel
theorem dX10_waterWalled_13 : decode cX10_waterWalled 13 = .ok (.iload_n 1, 1) := by decide +kernel
theorem dX10_waterWalled_14 : decode cX10_waterWalled 14 = .ok (.ior, 1) := by decide +kernel
theorem dX10_waterWalled_15 : decode cX10_waterWalled 15 = .ok (.putfield 240, 3) := by decide +kernel
theorem dX10_waterWalled_18 : decode cX10_waterWalled 18 = .ok (.aload_n 2, 1) := by decide +kernel
theorem dX10_waterWalled_19 : decode cX10_waterWalled 19 = .ok (.bipush 12, 2) := by decide +kernel
theorem dX10_waterWalled_21 : decode cX10_waterWalled 21 = .ok (.invokevirtual 370, 3) := by decide +kernel
theorem dX10_waterWalled_24 : decode cX10_waterWalled 24 = .ok (.ireturn, 1) := by decide +kernel
theorem dX10_gain_0 : decode cX10_gain 0 = .ok (.aload_n 0, 1) := by decide +kernel
theorem dX10_gain_1 : decode cX10_gain 1 = .ok (.iload_n 1, 1) := by decide +kernel
theorem dX10_gain_2 : decode cX10_gain 2 = .ok (.invokevirtual 268, 3) := by decide +kernel
theorem dX10_gain_5 : decode cX10_gain 5 = .ok (.ifCond .ne 9, 3) := by decide +kernel
theorem dX10_gain_8 : decode cX10_gain 8 = .ok (.aload_n 0, 1) := by decide +kernel
theorem dX10_gain_9 : decode cX10_gain 9 = .ok (.iconst 1, 1) := by decide +kernel
theorem dX10_gain_10 : decode cX10_gain 10 = .ok (.invokevirtual 143, 3) := by decide +kernel
theorem dX10_gain_13 : decode cX10_gain 13 = .ok (.ireturn, 1) := by decide +kernel
theorem dX10_gain_14 : decode cX10_gain 14 = .ok (.aload_n 0, 1) := by decide +kernel
theorem dX10_gain_15 : decode cX10_gain 15 = .ok (.aload_n 0, 1) := by decide +kernel
theorem dX10_gain_16 : decode cX10_gain 16 = .ok (.iconst 0, 1) := by decide +kernel
theorem dX10_gain_17 : decode cX10_gain 17 = .ok (.invokevirtual 390, 3) := by decide +kernel
theorem dX10_gain_20 : decode cX10_gain 20 = .ok (.aload_n 0, 1) := by decide +kernel
theorem dX10_gain_21 : decode cX10_gain 21 = .ok (.iconst 1, 1) := by decide +kernel
theorem dX10_gain_22 : decode cX10_gain 22 = .ok (.iload_n 1, 1) := by decide +kernel
theorem dX10_gain_23 : decode cX10_gain 23 = .ok (.ishl, 1) := by decide +kernel
theorem dX10_gain_24 : decode cX10_gain 24 = .ok (.invokevirtual 390, 3) := by decide +kernel
theorem dX10_gain_27 : decode cX10_gain 27 = .ok (.isub, 1) := by decide +kernel
theorem dX10_gain_28 : decode cX10_gain 28 = .ok (.invokevirtual 197, 3) := by decide +kernel
theorem dX10_gain_31 : decode cX10_gain 31 = .ok (.ireturn, 1) := by decide +kernel
theorem dX10_bailFor_0 : decode cX10_bailFor 0 = .ok (.aload_n 0, 1) := by decide +kernel
theorem dX10_bailFor_1 : decode cX10_bailFor 1 = .ok (.iload_n 1, 1) := by decide +kernel
theorem dX10_bailFor_2 : decode cX10_bailFor 2 = .ok (.invokevirtual 243, 3) := by decide +kernel
theorem dX10_bailFor_5 : decode cX10_bailFor 5 = .ok (.ifCond .eq 13, 3) := by decide +kernel
theorem dX10_bailFor_8 : decode cX10_bailFor 8 = .ok (.iload_n 2, 1) := by decide +kernel
theorem dX10_bailFor_9 : decode cX10_bailFor 9 = .ok (.iconst 1, 1) := by decide +kernel
theorem dX10_bailFor_10 : decode cX10_bailFor 10 = .ok (.bipush 24, 2) := by decide +kernel
theorem dX10_bailFor_12 : decode cX10_bailFor 12 = .ok (.invokestatic 117, 3) := by decide +kernel
theorem dX10_bailFor_15 : decode cX10_bailFor 15 = .ok (.ifCond .ne 9, 3) := by decide +kernel
theorem dX10_bailFor_18 : decode cX10_bailFor 18 = .ok (.aload_n 0, 1) := by decide +kernel
theorem dX10_bailFor_19 : decode cX10_bailFor 19 = .ok (.iconst 1, 1) := by decide +kernel
theorem dX10_bailFor_20 : decode cX10_bailFor 20 = .ok (.invokevirtual 143, 3) := by decide +kernel
theorem dX10_bailFor_23 : decode cX10_bailFor 23 = .ok (.ireturn, 1) := by decide +kernel
theorem dX10_bailFor_24 : decode cX10_bailFor 24 = .ok (.aload_n 0, 1) := by decide +kernel
theorem dX10_bailFor_25 : decode cX10_bailFor 25 = .ok (.invokevirtual 367, 3) := by decide +kernel
theorem dX10_bailFor_28 : decode cX10_bailFor 28 = .ok (.astore_n 3, 1) := by decide +kernel
theorem dX10_bailFor_29 : decode cX10_bailFor 29 = .ok (.iconst 0, 1) := by decide +kernel
theorem dX10_bailFor_30 : decode cX10_bailFor 30 = .ok (.istore 4, 2) := by decide +kernel
theorem dX10_bailFor_32 : decode cX10_bailFor 32 = .ok (.iload 4, 2) := by decide +kernel
theorem dX10_bailFor_34 : decode cX10_bailFor 34 = .ok (.aload_n 0, 1) := by decide +kernel
theorem dX10_bailFor_35 : decode cX10_bailFor 35 = .ok (.getfield 12, 3) := by decide +kernel
theorem dX10_bailFor_38 : decode cX10_bailFor 38 = .ok (.getfield 90, 3) := by decide +kernel
theorem dX10_bailFor_41 : decode cX10_bailFor 41 = .ok (.getfield 259, 3) := by decide +kernel
theorem dX10_bailFor_44 : decode cX10_bailFor 44 = .ok (.iload_n 1, 1) := by decide +kernel
theorem dX10_bailFor_45 : decode cX10_bailFor 45 = .ok (.iaload, 1) := by decide +kernel
theorem dX10_bailFor_46 : decode cX10_bailFor 46 = .ok (.if_icmp .gt 54, 3) := by decide +kernel
theorem dX10_bailFor_49 : decode cX10_bailFor 49 = .ok (.aload_n 3, 1) := by decide +kernel
theorem dX10_bailFor_50 : decode cX10_bailFor 50 = .ok (.aload_n 0, 1) := by decide +kernel
theorem dX10_bailFor_51 : decode cX10_bailFor 51 = .ok (.getfield 12, 3) := by decide +kernel
theorem dX10_bailFor_54 : decode cX10_bailFor 54 = .ok (.invokevirtual 393, 3) := by decide +kernel
theorem dX10_bailFor_57 : decode cX10_bailFor 57 = .ok (.aload_n 3, 1) := by decide +kernel
theorem dX10_bailFor_58 : decode cX10_bailFor 58 = .ok (.getfield 90, 3) := by decide +kernel
theorem dX10_bailFor_61 : decode cX10_bailFor 61 = .ok (.getfield 259, 3) := by decide +kernel
theorem dX10_bailFor_64 : decode cX10_bailFor 64 = .ok (.iload_n 1, 1) := by decide +kernel
theorem dX10_bailFor_65 : decode cX10_bailFor 65 = .ok (.dup2, 1) := by decide +kernel
theorem dX10_bailFor_66 : decode cX10_bailFor 66 = .ok (.iaload, 1) := by decide +kernel
theorem dX10_bailFor_67 : decode cX10_bailFor 67 = .ok (.iload 4, 2) := by decide +kernel
theorem dX10_bailFor_69 : decode cX10_bailFor 69 = .ok (.isub, 1) := by decide +kernel
theorem dX10_bailFor_70 : decode cX10_bailFor 70 = .ok (.iastore, 1) := by decide +kernel
theorem dX10_bailFor_71 : decode cX10_bailFor 71 = .ok (.aload_n 3, 1) := by decide +kernel
theorem dX10_bailFor_72 : decode cX10_bailFor 72 = .ok (.iload_n 2, 1) := by decide +kernel
theorem dX10_bailFor_73 : decode cX10_bailFor 73 = .ok (.invokevirtual 344, 3) := by decide +kernel
theorem dX10_bailFor_76 : decode cX10_bailFor 76 = .ok (.aload_n 3, 1) := by decide +kernel
theorem dX10_bailFor_77 : decode cX10_bailFor 77 = .ok (.getfield 90, 3) := by decide +kernel
theorem dX10_bailFor_80 : decode cX10_bailFor 80 = .ok (.iload_n 1, 1) := by decide +kernel
theorem dX10_bailFor_81 : decode cX10_bailFor 81 = .ok (.invokevirtual 262, 3) := by decide +kernel
theorem dX10_bailFor_84 : decode cX10_bailFor 84 = .ok (.ifCond .ne 10, 3) := by decide +kernel
theorem dX10_bailFor_87 : decode cX10_bailFor 87 = .ok (.aload_n 0, 1) := by decide +kernel
theorem dX10_bailFor_88 : decode cX10_bailFor 88 = .ok (.iload 4, 2) := by decide +kernel
theorem dX10_bailFor_90 : decode cX10_bailFor 90 = .ok (.invokevirtual 197, 3) := by decide +kernel
theorem dX10_bailFor_93 : decode cX10_bailFor 93 = .ok (.ireturn, 1) := by decide +kernel
theorem dX10_bailFor_94 : decode cX10_bailFor 94 = .ok (.iinc 4 1, 3) := by decide +kernel
theorem dX10_bailFor_97 : decode cX10_bailFor 97 = .ok (.goto (-65), 3) := by decide +kernel
theorem dX10_bailFor_100 : decode cX10_bailFor 100 = .ok (.aload_n 0, 1) := by decide +kernel
theorem dX10_bailFor_101 : decode cX10_bailFor 101 = .ok (.bipush 6, 2) := by decide +kernel
theorem dX10_bailFor_103 : decode cX10_bailFor 103 = .ok (.invokevirtual 143, 3) := by decide +kernel
theorem dX10_bailFor_106 : decode cX10_bailFor 106 = .ok (.ireturn, 1) := by decide +kernel
theorem dX10_besieged_0 : decode cX10_besieged 0 = .ok (.aload_n 0, 1) := by decide +kernel
theorem dX10_besieged_1 : decode cX10_besieged 1 = .ok (.invokevirtual 367, 3) := by decide +kernel
theorem dX10_besieged_4 : decode cX10_besieged 4 = .ok (.astore_n 2, 1) := by decide +kernel
theorem dX10_besieged_5 : decode cX10_besieged 5 = .ok (.aload_n 2, 1) := by decide +kernel
theorem dX10_besieged_6 : decode cX10_besieged 6 = .ok (.iload_n 1, 1) := by decide +kernel
theorem dX10_besieged_7 : decode cX10_besieged 7 = .ok (.invokevirtual 396, 3) := by decide +kernel
theorem dX10_besieged_10 : decode cX10_besieged 10 = .ok (.aload_n 2, 1) := by decide +kernel
theorem dX10_besieged_11 : decode cX10_besieged 11 = .ok (.bipush 12, 2) := by decide +kernel
theorem dX10_besieged_13 : decode cX10_besieged 13 = .ok (.invokevirtual 344, 3) := by decide +kernel
theorem dX10_besieged_16 : decode cX10_besieged 16 = .ok (.aload_n 2, 1) := by decide +kernel
theorem dX10_besieged_17 : decode cX10_besieged 17 = .ok (.areturn, 1) := by decide +kernel
theorem dX10_siege_0 : decode cX10_siege 0 = .ok (.iload_n 1, 1) := by decide +kernel
theorem dX10_siege_1 : decode cX10_siege 1 = .ok (.iconst 0, 1) := by decide +kernel
theorem dX10_siege_2 : decode cX10_siege 2 = .ok (.bipush 99, 2) := by decide +kernel
theorem dX10_siege_4 : decode cX10_siege 4 = .ok (.invokestatic 117, 3) := by decide +kernel
theorem dX10_siege_7 : decode cX10_siege 7 = .ok (.ifCond .ne 9, 3) := by decide +kernel
theorem dX10_siege_10 : decode cX10_siege 10 = .ok (.aload_n 0, 1) := by decide +kernel
theorem dX10_siege_11 : decode cX10_siege 11 = .ok (.iconst 1, 1) := by decide +kernel
theorem dX10_siege_12 : decode cX10_siege 12 = .ok (.invokevirtual 143, 3) := by decide +kernel
theorem dX10_siege_15 : decode cX10_siege 15 = .ok (.ireturn, 1) := by decide +kernel
theorem dX10_siege_16 : decode cX10_siege 16 = .ok (.aload_n 0, 1) := by decide +kernel
theorem dX10_siege_17 : decode cX10_siege 17 = .ok (.aload_n 0, 1) := by decide +kernel
theorem dX10_siege_18 : decode cX10_siege 18 = .ok (.iload_n 1, 1) := by decide +kernel
theorem dX10_siege_19 : decode cX10_siege 19 = .ok (.invokevirtual 399, 3) := by decide +kernel
theorem dX10_siege_22 : decode cX10_siege 22 = .ok (.getfield 90, 3) := by decide +kernel
theorem dX10_siege_25 : decode cX10_siege 25 = .ok (.getfield 231, 3) := by decide +kernel
theorem dX10_siege_28 : decode cX10_siege 28 = .ok (.invokevirtual 197, 3) := by decide +kernel
theorem dX10_siege_31 : decode cX10_siege 31 = .ok (.ireturn, 1) := by decide +kernel
theorem dX10_borne_0 : decode cX10_borne 0 = .ok (.bipush 99, 2) := by decide +kernel
theorem dX10_borne_2 : decode cX10_borne 2 = .ok (.istore_n 1, 1) := by decide +kernel
theorem dX10_borne_3 : decode cX10_borne 3 = .ok (.iload_n 1, 1) := by decide +kernel
theorem dX10_borne_4 : decode cX10_borne 4 = .ok (.ifCond .lt 27, 3) := by decide +kernel
theorem dX10_borne_7 : decode cX10_borne 7 = .ok (.aload_n 0, 1) := by decide +kernel
theorem dX10_borne_8 : decode cX10_borne 8 = .ok (.aload_n 0, 1) := by decide +kernel
theorem dX10_borne_9 : decode cX10_borne 9 = .ok (.iload_n 1, 1) := by decide +kernel
theorem dX10_borne_10 : decode cX10_borne 10 = .ok (.invokevirtual 399, 3) := by decide +kernel
theorem dX10_borne_13 : decode cX10_borne 13 = .ok (.invokevirtual 376, 3) := by decide +kernel
theorem dX10_borne_16 : decode cX10_borne 16 = .ok (.ifCond .ne 9, 3) := by decide +kernel
theorem dX10_borne_19 : decode cX10_borne 19 = .ok (.aload_n 0, 1) := by decide +kernel
theorem dX10_borne_20 : decode cX10_borne 20 = .ok (.iload_n 1, 1) := by decide +kernel
theorem dX10_borne_21 : decode cX10_borne 21 = .ok (.invokevirtual 197, 3) := by decide +kernel
theorem dX10_borne_24 : decode cX10_borne 24 = .ok (.ireturn, 1) := by decide +kernel
theorem dX10_borne_25 : decode cX10_borne 25 = .ok (.iinc 1 (-1), 3) := by decide +kernel
theorem dX10_borne_28 : decode cX10_borne 28 = .ok (.goto (-25), 3) := by decide +kernel
theorem dX10_borne_31 : decode cX10_borne 31 = .ok (.aload_n 0, 1) := by decide +kernel
theorem dX10_borne_32 : decode cX10_borne 32 = .ok (.bipush 6, 2) := by decide +kernel
theorem dX10_borne_34 : decode cX10_borne 34 = .ok (.invokevirtual 143, 3) := by decide +kernel
theorem dX10_borne_37 : decode cX10_borne 37 = .ok (.ireturn, 1) := by decide +kernel
theorem dX10_keep_0 : decode cX10_keep 0 = .ok (.aload_n 0, 1) := by decide +kernel
theorem dX10_keep_1 : decode cX10_keep 1 = .ok (.iload_n 1, 1) := by decide +kernel
theorem dX10_keep_2 : decode cX10_keep 2 = .ok (.invokevirtual 243, 3) := by decide +kernel
theorem dX10_keep_5 : decode cX10_keep 5 = .ok (.ifCond .eq 24, 3) := by decide +kernel
theorem dX10_keep_8 : decode cX10_keep 8 = .ok (.aload_n 0, 1) := by decide +kernel
theorem dX10_keep_9 : decode cX10_keep 9 = .ok (.aload_n 0, 1) := by decide +kernel
theorem dX10_keep_10 : decode cX10_keep 10 = .ok (.getfield 12, 3) := by decide +kernel
theorem dX10_keep_13 : decode cX10_keep 13 = .ok (.getfield 99, 3) := by decide +kernel
theorem dX10_keep_16 : decode cX10_keep 16 = .ok (.iload_n 1, 1) := by decide +kernel
theorem dX10_keep_17 : decode cX10_keep 17 = .ok (.invokestatic 403, 3) := by decide +kernel
theorem dX10_keep_20 : decode cX10_keep 20 = .ok (.invokestatic 362, 3) := by decide +kernel
theorem dX10_keep_23 : decode cX10_keep 23 = .ok (.invokevirtual 197, 3) := by decide +kernel
theorem dX10_keep_26 : decode cX10_keep 26 = .ok (.goto 8, 3) := by decide +kernel
theorem dX10_keep_29 : decode cX10_keep 29 = .ok (.aload_n 0, 1) := by decide +kernel
theorem dX10_keep_30 : decode cX10_keep 30 = .ok (.iconst 1, 1) := by decide +kernel
theorem dX10_keep_31 : decode cX10_keep 31 = .ok (.invokevirtual 143, 3) := by decide +kernel
theorem dX10_keep_34 : decode cX10_keep 34 = .ok (.ireturn, 1) := by decide +kernel
theorem dX10_keepSet_0 : decode cX10_keepSet 0 = .ok (.aload_n 0, 1) := by decide +kernel
theorem dX10_keepSet_1 : decode cX10_keepSet 1 = .ok (.iload_n 1, 1) := by decide +kernel
theorem dX10_keepSet_2 : decode cX10_keepSet 2 = .ok (.invokevirtual 243, 3) := by decide +kernel
theorem dX10_keepSet_5 : decode cX10_keepSet 5 = .ok (.ifCond .eq 21, 3) := by decide +kernel
theorem dX10_keepSet_8 : decode cX10_keepSet 8 = .ok (.aload_n 0, 1) := by decide +kernel
theorem dX10_keepSet_9 : decode cX10_keepSet 9 = .ok (.aload_n 0, 1) := by decide +kernel
theorem dX10_keepSet_10 : decode cX10_keepSet 10 = .ok (.getfield 12, 3) := by decide +kernel
theorem dX10_keepSet_13 : decode cX10_keepSet 13 = .ok (.getfield 99, 3) := by decide +kernel
theorem dX10_keepSet_16 : decode cX10_keepSet 16 = .ok (.iload_n 1, 1) := by decide +kernel
theorem dX10_keepSet_17 : decode cX10_keepSet 17 = .ok (.invokestatic 403, 3) := by decide +kernel
theorem dX10_keepSet_20 : decode cX10_keepSet 20 = .ok (.invokevirtual 197, 3) := by decide +kernel
theorem dX10_keepSet_23 : decode cX10_keepSet 23 = .ok (.goto 8, 3) := by decide +kernel
theorem dX10_keepSet_26 : decode cX10_keepSet 26 = .ok (.aload_n 0, 1) := by decide +kernel
theorem dX10_keepSet_27 : decode cX10_keepSet 27 = .ok (.iconst 1, 1) := by decide +kernel
theorem dX10_keepSet_28 : decode cX10_keepSet 28 = .ok (.invokevirtual 143, 3) := by decide +kernel
theorem dX10_keepSet_31 : decode cX10_keepSet 31 = .ok (.ireturn, 1) := by decide +kernel
theorem dX10_plan_0 : decode cX10_plan 0 = .ok (.iload_n 1, 1) := by decide +kernel
theorem dX10_plan_1 : decode cX10_plan 1 = .ok (.iconst 0, 1) := by decide +kernel
theorem dX10_plan_2 : decode cX10_plan 2 = .ok (.iconst 1, 1) := by decide +kernel
theorem dX10_plan_3 : decode cX10_plan 3 = .ok (.invokestatic 117, 3) := by decide +kernel
theorem dX10_plan_6 : decode cX10_plan 6 = .ok (.ifCond .ne 9, 3) := by decide +kernel
theorem dX10_plan_9 : decode cX10_plan 9 = .ok (.aload_n 0, 1) := by decide +kernel
theorem dX10_plan_10 : decode cX10_plan 10 = .ok (.iconst 1, 1) := by decide +kernel
theorem dX10_plan_11 : decode cX10_plan 11 = .ok (.invokevirtual 143, 3) := by decide +kernel
theorem dX10_plan_14 : decode cX10_plan 14 = .ok (.ireturn, 1) := by decide +kernel
theorem dX10_plan_15 : decode cX10_plan 15 = .ok (.aload_n 0, 1) := by decide +kernel
theorem dX10_plan_16 : decode cX10_plan 16 = .ok (.getfield 12, 3) := by decide +kernel
theorem dX10_plan_19 : decode cX10_plan 19 = .ok (.getfield 218, 3) := by decide +kernel
theorem dX10_plan_22 : decode cX10_plan 22 = .ok (.ifCond .ne 10, 3) := by decide +kernel
theorem dX10_plan_25 : decode cX10_plan 25 = .ok (.aload_n 0, 1) := by decide +kernel
theorem dX10_plan_26 : decode cX10_plan 26 = .ok (.bipush 6, 2) := by decide +kernel
theorem dX10_plan_28 : decode cX10_plan 28 = .ok (.invokevirtual 143, 3) := by decide +kernel
theorem dX10_plan_31 : decode cX10_plan 31 = .ok (.ireturn, 1) := by decide +kernel
theorem dX10_plan_32 : decode cX10_plan 32 = .ok (.aload_n 0, 1) := by decide +kernel
theorem dX10_plan_33 : decode cX10_plan 33 = .ok (.getfield 29, 3) := by decide +kernel
theorem dX10_plan_36 : decode cX10_plan 36 = .ok (.aload_n 0, 1) := by decide +kernel
theorem dX10_plan_37 : decode cX10_plan 37 = .ok (.getfield 12, 3) := by decide +kernel
theorem dX10_plan_40 : decode cX10_plan 40 = .ok (.invokevirtual 407, 3) := by decide +kernel
theorem dX10_plan_43 : decode cX10_plan 43 = .ok (.aload_n 0, 1) := by decide +kernel
theorem dX10_plan_44 : decode cX10_plan 44 = .ok (.iload_n 1, 1) := by decide +kernel
theorem dX10_plan_45 : decode cX10_plan 45 = .ok (.ifCond .ne 13, 3) := by decide +kernel
theorem dX10_plan_48 : decode cX10_plan 48 = .ok (.aload_n 0, 1) := by decide +kernel
theorem dX10_plan_49 : decode cX10_plan 49 = .ok (.getfield 29, 3) := by decide +kernel
theorem dX10_plan_52 : decode cX10_plan 52 = .ok (.getfield 410, 3) := by decide +kernel
theorem dX10_plan_55 : decode cX10_plan 55 = .ok (.goto 10, 3) := by decide +kernel
theorem dX10_plan_58 : decode cX10_plan 58 = .ok (.aload_n 0, 1) := by decide +kernel
theorem dX10_plan_59 : decode cX10_plan 59 = .ok (.getfield 29, 3) := by decide +kernel
theorem dX10_plan_62 : decode cX10_plan 62 = .ok (.getfield 413, 3) := by decide +kernel
theorem dX10_plan_65 : decode cX10_plan 65 = .ok (.invokevirtual 197, 3) := by decide +kernel
theorem dX10_plan_68 : decode cX10_plan 68 = .ok (.ireturn, 1) := by decide +kernel
theorem dX10_planned_0 : decode cX10_planned 0 = .ok (.iload_n 1, 1) := by decide +kernel
theorem dX10_planned_1 : decode cX10_planned 1 = .ok (.ifCond .lt 14, 3) := by decide +kernel
theorem dX10_planned_4 : decode cX10_planned 4 = .ok (.iload_n 1, 1) := by decide +kernel
theorem dX10_planned_5 : decode cX10_planned 5 = .ok (.aload_n 0, 1) := by decide +kernel
theorem dX10_planned_6 : decode cX10_planned 6 = .ok (.getfield 12, 3) := by decide +kernel
theorem dX10_planned_9 : decode cX10_planned 9 = .ok (.getfield 218, 3) := by decide +kernel
theorem dX10_planned_12 : decode cX10_planned 12 = .ok (.if_icmp .lt 9, 3) := by decide +kernel
theorem dX10_planned_15 : decode cX10_planned 15 = .ok (.aload_n 0, 1) := by decide +kernel
theorem dX10_planned_16 : decode cX10_planned 16 = .ok (.iconst 1, 1) := by decide +kernel
theorem dX10_planned_17 : decode cX10_planned 17 = .ok (.invokevirtual 143, 3) := by decide +kernel
theorem dX10_planned_20 : decode cX10_planned 20 = .ok (.ireturn, 1) := by decide +kernel
theorem dX10_planned_21 : decode cX10_planned 21 = .ok (.aload_n 0, 1) := by decide +kernel
theorem dX10_planned_22 : decode cX10_planned 22 = .ok (.getfield 29, 3) := by decide +kernel
theorem dX10_planned_25 : decode cX10_planned 25 = .ok (.aload_n 0, 1) := by decide +kernel
theorem dX10_planned_26 : decode cX10_planned 26 = .ok (.getfield 12, 3) := by decide +kernel
theorem dX10_planned_29 : decode cX10_planned 29 = .ok (.invokevirtual 407, 3) := by decide +kernel
theorem dX10_planned_32 : decode cX10_planned 32 = .ok (.aload_n 0, 1) := by decide +kernel
theorem dX10_planned_33 : decode cX10_planned 33 = .ok (.aload_n 0, 1) := by decide +kernel
theorem dX10_planned_34 : decode cX10_planned 34 = .ok (.getfield 29, 3) := by decide +kernel
theorem dX10_planned_37 : decode cX10_planned 37 = .ok (.iload_n 1, 1) := by decide +kernel
theorem dX10_planned_38 : decode cX10_planned 38 = .ok (.invokevirtual 416, 3) := by decide +kernel
theorem dX10_planned_41 : decode cX10_planned 41 = .ok (.invokevirtual 197, 3) := by decide +kernel
theorem dX10_planned_44 : decode cX10_planned 44 = .ok (.ireturn, 1) := by decide +kernel
theorem dX10_save_0 : decode cX10_save 0 = .ok (.iload_n 1, 1) := by decide +kernel
theorem dX10_save_1 : decode cX10_save 1 = .ok (.iconst 0, 1) := by decide +kernel
theorem dX10_save_2 : decode cX10_save 2 = .ok (.bipush 12, 2) := by decide +kernel
theorem dX10_save_4 : decode cX10_save 4 = .ok (.invokestatic 117, 3) := by decide +kernel
theorem dX10_save_7 : decode cX10_save 7 = .ok (.ifCond .ne 9, 3) := by decide +kernel
theorem dX10_save_10 : decode cX10_save 10 = .ok (.aload_n 0, 1) := by decide +kernel
theorem dX10_save_11 : decode cX10_save 11 = .ok (.iconst 1, 1) := by decide +kernel
theorem dX10_save_12 : decode cX10_save 12 = .ok (.invokevirtual 143, 3) := by decide +kernel
theorem dX10_save_15 : decode cX10_save 15 = .ok (.ireturn, 1) := by decide +kernel
theorem dX10_save_16 : decode cX10_save 16 = .ok (.aload_n 0, 1) := by decide +kernel
theorem dX10_save_17 : decode cX10_save 17 = .ok (.getfield 29, 3) := by decide +kernel
theorem dX10_save_20 : decode cX10_save 20 = .ok (.aload_n 0, 1) := by decide +kernel
theorem dX10_save_21 : decode cX10_save 21 = .ok (.getfield 12, 3) := by decide +kernel
theorem dX10_save_24 : decode cX10_save 24 = .ok (.iload_n 1, 1) := by decide +kernel
theorem dX10_save_25 : decode cX10_save 25 = .ok (.invokevirtual 419, 3) := by decide +kernel
theorem dX10_save_28 : decode cX10_save 28 = .ok (.aload_n 0, 1) := by decide +kernel
theorem dX10_save_29 : decode cX10_save 29 = .ok (.aload_n 0, 1) := by decide +kernel
theorem dX10_save_30 : decode cX10_save 30 = .ok (.getfield 29, 3) := by decide +kernel
theorem dX10_save_33 : decode cX10_save 33 = .ok (.getfield 413, 3) := by decide +kernel
theorem dX10_save_36 : decode cX10_save 36 = .ok (.invokevirtual 197, 3) := by decide +kernel
theorem dX10_save_39 : decode cX10_save 39 = .ok (.ireturn, 1) := by decide +kernel
theorem dX10_saveSet_0 : decode cX10_saveSet 0 = .ok (.iload_n 1, 1) := by decide +kernel
theorem dX10_saveSet_1 : decode cX10_saveSet 1 = .ok (.iconst 0, 1) := by decide +kernel
theorem dX10_saveSet_2 : decode cX10_saveSet 2 = .ok (.bipush 12, 2) := by decide +kernel
theorem dX10_saveSet_4 : decode cX10_saveSet 4 = .ok (.invokestatic 117, 3) := by decide +kernel
theorem dX10_saveSet_7 : decode cX10_saveSet 7 = .ok (.ifCond .ne 9, 3) := by decide +kernel
theorem dX10_saveSet_10 : decode cX10_saveSet 10 = .ok (.aload_n 0, 1) := by decide +kernel
theorem dX10_saveSet_11 : decode cX10_saveSet 11 = .ok (.iconst 1, 1) := by decide +kernel
theorem dX10_saveSet_12 : decode cX10_saveSet 12 = .ok (.invokevirtual 143, 3) := by decide +kernel
theorem dX10_saveSet_15 : decode cX10_saveSet 15 = .ok (.ireturn, 1) := by decide +kernel
theorem dX10_saveSet_16 : decode cX10_saveSet 16 = .ok (.aload_n 0, 1) := by decide +kernel
theorem dX10_saveSet_17 : decode cX10_saveSet 17 = .ok (.getfield 29, 3) := by decide +kernel
theorem dX10_saveSet_20 : decode cX10_saveSet 20 = .ok (.aload_n 0, 1) := by decide +kernel
theorem dX10_saveSet_21 : decode cX10_saveSet 21 = .ok (.getfield 12, 3) := by decide +kernel
theorem dX10_saveSet_24 : decode cX10_saveSet 24 = .ok (.iload_n 1, 1) := by decide +kernel
theorem dX10_saveSet_25 : decode cX10_saveSet 25 = .ok (.invokevirtual 419, 3) := by decide +kernel
theorem dX10_saveSet_28 : decode cX10_saveSet 28 = .ok (.aload_n 0, 1) := by decide +kernel
theorem dX10_saveSet_29 : decode cX10_saveSet 29 = .ok (.aload_n 0, 1) := by decide +kernel
theorem dX10_saveSet_30 : decode cX10_saveSet 30 = .ok (.getfield 29, 3) := by decide +kernel
theorem dX10_saveSet_33 : decode cX10_saveSet 33 = .ok (.getfield 423, 3) := by decide +kernel
theorem dX10_saveSet_36 : decode cX10_saveSet 36 = .ok (.invokevirtual 197, 3) := by decide +kernel
theorem dX10_saveSet_39 : decode cX10_saveSet 39 = .ok (.ireturn, 1) := by decide +kernel
theorem dX10_isSetOfDoors_0 : decode cX10_isSetOfDoors 0 = .ok (.iload_n 1, 1) := by decide +kernel
theorem dX10_isSetOfDoors_1 : decode cX10_isSetOfDoors 1 = .ok (.aload_n 0, 1) := by decide +kernel
theorem dX10_isSetOfDoors_2 : decode cX10_isSetOfDoors 2 = .ok (.getfield 12, 3) := by decide +kernel
theorem dX10_isSetOfDoors_5 : decode cX10_isSetOfDoors 5 = .ok (.getfield 99, 3) := by decide +kernel
theorem dX10_isSetOfDoors_8 : decode cX10_isSetOfDoors 8 = .ok (.invokevirtual 335, 3) := by decide +kernel
theorem dX10_isSetOfDoors_11 : decode cX10_isSetOfDoors 11 = .ok (.iconst (-1), 1) := by decide +kernel
theorem dX10_isSetOfDoors_12 : decode cX10_isSetOfDoors 12 = .ok (.ixor, 1) := by decide +kernel
theorem dX10_isSetOfDoors_13 : decode cX10_isSetOfDoors 13 = .ok (.iand, 1) := by decide +kernel
theorem dX10_isSetOfDoors_14 : decode cX10_isSetOfDoors 14 = .ok (.ifCond .ne 7, 3) := by decide +kernel
theorem dX10_isSetOfDoors_17 : decode cX10_isSetOfDoors 17 = .ok (.iconst 1, 1) := by decide +kernel
theorem dX10_isSetOfDoors_18 : decode cX10_isSetOfDoors 18 = .ok (.goto 4, 3) := by decide +kernel
theorem dX10_isSetOfDoors_21 : decode cX10_isSetOfDoors 21 = .ok (.iconst 0, 1) := by decide +kernel
theorem dX10_isSetOfDoors_22 : decode cX10_isSetOfDoors 22 = .ok (.ireturn, 1) := by decide +kernel
theorem dX10_damage_0 : decode cX10_damage 0 = .ok (.aload_n 0, 1) := by decide +kernel
theorem dX10_damage_1 : decode cX10_damage 1 = .ok (.iload_n 1, 1) := by decide +kernel
theorem dX10_damage_2 : decode cX10_damage 2 = .ok (.invokevirtual 426, 3) := by decide +kernel
theorem dX10_damage_5 : decode cX10_damage 5 = .ok (.ifCond .eq 22, 3) := by decide +kernel
theorem dX10_damage_8 : decode cX10_damage 8 = .ok (.aload_n 0, 1) := by decide +kernel
theorem dX10_damage_9 : decode cX10_damage 9 = .ok (.aload_n 0, 1) := by decide +kernel
theorem dX10_damage_10 : decode cX10_damage 10 = .ok (.getfield 29, 3) := by decide +kernel
theorem dX10_damage_13 : decode cX10_damage 13 = .ok (.aload_n 0, 1) := by decide +kernel
theorem dX10_damage_14 : decode cX10_damage 14 = .ok (.getfield 12, 3) := by decide +kernel
theorem dX10_damage_17 : decode cX10_damage 17 = .ok (.iload_n 1, 1) := by decide +kernel
theorem dX10_damage_18 : decode cX10_damage 18 = .ok (.invokevirtual 429, 3) := by decide +kernel
theorem dX10_damage_21 : decode cX10_damage 21 = .ok (.invokevirtual 197, 3) := by decide +kernel
theorem dX10_damage_24 : decode cX10_damage 24 = .ok (.goto 8, 3) := by decide +kernel
theorem dX10_damage_27 : decode cX10_damage 27 = .ok (.aload_n 0, 1) := by decide +kernel
theorem dX10_damage_28 : decode cX10_damage 28 = .ok (.iconst 1, 1) := by decide +kernel
theorem dX10_damage_29 : decode cX10_damage 29 = .ok (.invokevirtual 143, 3) := by decide +kernel
theorem dX10_damage_32 : decode cX10_damage 32 = .ok (.ireturn, 1) := by decide +kernel
theorem dX10_guilt_0 : decode cX10_guilt 0 = .ok (.aload_n 0, 1) := by decide +kernel
theorem dX10_guilt_1 : decode cX10_guilt 1 = .ok (.iload_n 1, 1) := by decide +kernel
theorem dX10_guilt_2 : decode cX10_guilt 2 = .ok (.invokevirtual 268, 3) := by decide +kernel
theorem dX10_guilt_5 : decode cX10_guilt 5 = .ok (.ifCond .eq 27, 3) := by decide +kernel
theorem dX10_guilt_8 : decode cX10_guilt 8 = .ok (.aload_n 0, 1) := by decide +kernel
theorem dX10_guilt_9 : decode cX10_guilt 9 = .ok (.iload_n 2, 1) := by decide +kernel
theorem dX10_guilt_10 : decode cX10_guilt 10 = .ok (.invokevirtual 426, 3) := by decide +kernel
theorem dX10_guilt_13 : decode cX10_guilt 13 = .ok (.ifCond .eq 19, 3) := by decide +kernel
theorem dX10_guilt_16 : decode cX10_guilt 16 = .ok (.iload_n 2, 1) := by decide +kernel
theorem dX10_guilt_17 : decode cX10_guilt 17 = .ok (.iload_n 1, 1) := by decide +kernel
theorem dX10_guilt_18 : decode cX10_guilt 18 = .ok (.ishr, 1) := by decide +kernel
theorem dX10_guilt_19 : decode cX10_guilt 19 = .ok (.iconst 1, 1) := by decide +kernel
theorem dX10_guilt_20 : decode cX10_guilt 20 = .ok (.iand, 1) := by decide +kernel
theorem dX10_guilt_21 : decode cX10_guilt 21 = .ok (.ifCond .eq 11, 3) := by decide +kernel
theorem dX10_guilt_24 : decode cX10_guilt 24 = .ok (.iload_n 2, 1) := by decide +kernel
theorem dX10_guilt_25 : decode cX10_guilt 25 = .ok (.invokestatic 362, 3) := by decide +kernel
theorem dX10_guilt_28 : decode cX10_guilt 28 = .ok (.iconst 5, 1) := by decide +kernel
theorem dX10_guilt_29 : decode cX10_guilt 29 = .ok (.if_icmp .le 9, 3) := by decide +kernel
theorem dX10_guilt_32 : decode cX10_guilt 32 = .ok (.aload_n 0, 1) := by decide +kernel
theorem dX10_guilt_33 : decode cX10_guilt 33 = .ok (.iconst 1, 1) := by decide +kernel
theorem dX10_guilt_34 : decode cX10_guilt 34 = .ok (.invokevirtual 121, 3) := by decide +kernel
theorem dX10_guilt_37 : decode cX10_guilt 37 = .ok (.ireturn, 1) := by decide +kernel
theorem dX10_guilt_38 : decode cX10_guilt 38 = .ok (.aload_n 0, 1) := by decide +kernel
theorem dX10_guilt_39 : decode cX10_guilt 39 = .ok (.aload_n 0, 1) := by decide +kernel
theorem dX10_guilt_40 : decode cX10_guilt 40 = .ok (.getfield 29, 3) := by decide +kernel
theorem dX10_guilt_43 : decode cX10_guilt 43 = .ok (.aload_n 0, 1) := by decide +kernel
theorem dX10_guilt_44 : decode cX10_guilt 44 = .ok (.getfield 12, 3) := by decide +kernel
theorem dX10_guilt_47 : decode cX10_guilt 47 = .ok (.iload_n 1, 1) := by decide +kernel
theorem dX10_guilt_48 : decode cX10_guilt 48 = .ok (.iload_n 2, 1) := by decide +kernel
theorem dX10_guilt_49 : decode cX10_guilt 49 = .ok (.invokevirtual 433, 3) := by decide +kernel
theorem dX10_guilt_52 : decode cX10_guilt 52 = .ok (.iload_n 2, 1) := by decide +kernel
theorem dX10_guilt_53 : decode cX10_guilt 53 = .ok (.invokestatic 437, 3) := by decide +kernel
theorem dX10_guilt_56 : decode cX10_guilt 56 = .ok (.i2l, 1) := by decide +kernel
theorem dX10_guilt_57 : decode cX10_guilt 57 = .ok (.invokevirtual 440, 3) := by decide +kernel
theorem dX10_guilt_60 : decode cX10_guilt 60 = .ok (.aload_n 0, 1) := by decide +kernel
theorem dX10_guilt_61 : decode cX10_guilt 61 = .ok (.invokevirtual 129, 3) := by decide +kernel
theorem dX10_guilt_64 : decode cX10_guilt 64 = .ok (.ireturn, 1) := by decide +kernel
theorem dX10_print_0 : decode cX10_print 0 = .ok (.aload_n 0, 1) := by decide +kernel
theorem dX10_print_1 : decode cX10_print 1 = .ok (.iload_n 2, 1) := by decide +kernel
theorem dX10_print_2 : decode cX10_print 2 = .ok (.invokevirtual 113, 3) := by decide +kernel
theorem dX10_print_5 : decode cX10_print 5 = .ok (.astore_n 3, 1) := by decide +kernel
theorem dX10_print_6 : decode cX10_print 6 = .ok (.aload_n 0, 1) := by decide +kernel
theorem dX10_print_7 : decode cX10_print 7 = .ok (.iload_n 1, 1) := by decide +kernel
theorem dX10_print_8 : decode cX10_print 8 = .ok (.invokevirtual 268, 3) := by decide +kernel
theorem dX10_print_11 : decode cX10_print 11 = .ok (.ifCond .eq 7, 3) := by decide +kernel
theorem dX10_print_14 : decode cX10_print 14 = .ok (.aload_n 3, 1) := by decide +kernel
theorem dX10_print_15 : decode cX10_print 15 = .ok (.ifnonnull 9, 3) := by decide +kernel
theorem dX10_print_18 : decode cX10_print 18 = .ok (.aload_n 0, 1) := by decide +kernel
theorem dX10_print_19 : decode cX10_print 19 = .ok (.iconst 1, 1) := by decide +kernel
theorem dX10_print_20 : decode cX10_print 20 = .ok (.invokevirtual 143, 3) := by decide +kernel
theorem dX10_print_23 : decode cX10_print 23 = .ok (.ireturn, 1) := by decide +kernel
theorem dX10_print_24 : decode cX10_print 24 = .ok (.aload_n 3, 1) := by decide +kernel
theorem dX10_print_25 : decode cX10_print 25 = .ok (.invokevirtual 133, 3) := by decide +kernel
theorem dX10_print_28 : decode cX10_print 28 = .ok (.ifCond .eq 9, 3) := by decide +kernel
theorem dX10_print_31 : decode cX10_print 31 = .ok (.aload_n 0, 1) := by decide +kernel
theorem dX10_print_32 : decode cX10_print 32 = .ok (.iconst 2, 1) := by decide +kernel
theorem dX10_print_33 : decode cX10_print 33 = .ok (.invokevirtual 143, 3) := by decide +kernel
theorem dX10_print_36 : decode cX10_print 36 = .ok (.ireturn, 1) := by decide +kernel
theorem dX10_print_37 : decode cX10_print 37 = .ok (.aload_n 3, 1) := by decide +kernel
theorem dX10_print_38 : decode cX10_print 38 = .ok (.iconst 0, 1) := by decide +kernel
theorem dX10_print_39 : decode cX10_print 39 = .ok (.aload_n 0, 1) := by decide +kernel
theorem dX10_print_40 : decode cX10_print 40 = .ok (.getfield 12, 3) := by decide +kernel
theorem dX10_print_43 : decode cX10_print 43 = .ok (.getfield 90, 3) := by decide +kernel
theorem dX10_print_46 : decode cX10_print 46 = .ok (.getfield 94, 3) := by decide +kernel
theorem dX10_print_49 : decode cX10_print 49 = .ok (.invokevirtual 154, 3) := by decide +kernel
theorem dX10_print_52 : decode cX10_print 52 = .ok (.ifCond .ne 9, 3) := by decide +kernel
theorem dX10_print_55 : decode cX10_print 55 = .ok (.aload_n 0, 1) := by decide +kernel
theorem dX10_print_56 : decode cX10_print 56 = .ok (.iconst 3, 1) := by decide +kernel
theorem dX10_print_57 : decode cX10_print 57 = .ok (.invokevirtual 143, 3) := by decide +kernel
theorem dX10_print_60 : decode cX10_print 60 = .ok (.ireturn, 1) := by decide +kernel
theorem dX10_print_61 : decode cX10_print 61 = .ok (.aload_n 0, 1) := by decide +kernel
theorem dX10_print_62 : decode cX10_print 62 = .ok (.getfield 29, 3) := by decide +kernel
theorem dX10_print_65 : decode cX10_print 65 = .ok (.aload_n 0, 1) := by decide +kernel
theorem dX10_print_66 : decode cX10_print 66 = .ok (.getfield 12, 3) := by decide +kernel
theorem dX10_print_69 : decode cX10_print 69 = .ok (.invokevirtual 444, 3) := by decide +kernel
theorem dX10_print_72 : decode cX10_print 72 = .ok (.iconst 0, 1) := by decide +kernel
theorem dX10_print_73 : decode cX10_print 73 = .ok (.istore 4, 2) := by decide +kernel
theorem dX10_print_75 : decode cX10_print 75 = .ok (.iload 4, 2) := by decide +kernel
theorem dX10_print_77 : decode cX10_print 77 = .ok (.aload_n 0, 1) := by decide +kernel
theorem dX10_print_78 : decode cX10_print 78 = .ok (.getfield 12, 3) := by decide +kernel
theorem dX10_print_81 : decode cX10_print 81 = .ok (.getfield 90, 3) := by decide +kernel
theorem dX10_print_84 : decode cX10_print 84 = .ok (.getfield 94, 3) := by decide +kernel
theorem dX10_print_87 : decode cX10_print 87 = .ok (.if_icmp .ge 28, 3) := by decide +kernel
theorem dX10_print_90 : decode cX10_print 90 = .ok (.aload_n 3, 1) := by decide +kernel
theorem dX10_print_91 : decode cX10_print 91 = .ok (.iload 4, 2) := by decide +kernel
theorem dX10_print_93 : decode cX10_print 93 = .ok (.aload_n 0, 1) := by decide +kernel
theorem dX10_print_94 : decode cX10_print 94 = .ok (.getfield 29, 3) := by decide +kernel
theorem dX10_print_97 : decode cX10_print 97 = .ok (.getfield 447, 3) := by decide +kernel
theorem dX10_print_100 : decode cX10_print 100 = .ok (.iload_n 1, 1) := by decide +kernel
theorem dX10_print_101 : decode cX10_print 101 = .ok (.aaload, 1) := by decide +kernel
theorem dX10_print_102 : decode cX10_print 102 = .ok (.iload 4, 2) := by decide +kernel
theorem dX10_print_104 : decode cX10_print 104 = .ok (.iaload, 1) := by decide +kernel
theorem dX10_print_105 : decode cX10_print 105 = .ok (.i2l, 1) := by decide +kernel
theorem dX10_print_106 : decode cX10_print 106 = .ok (.invokevirtual 139, 3) := by decide +kernel
theorem dX10_print_109 : decode cX10_print 109 = .ok (.iinc 4 1, 3) := by decide +kernel
theorem dX10_print_112 : decode cX10_print 112 = .ok (.goto (-37), 3) := by decide +kernel
theorem dX10_print_115 : decode cX10_print 115 = .ok (.aload_n 0, 1) := by decide +kernel
theorem dX10_print_116 : decode cX10_print 116 = .ok (.aload_n 0, 1) := by decide +kernel
theorem dX10_print_117 : decode cX10_print 117 = .ok (.getfield 12, 3) := by decide +kernel
theorem dX10_print_120 : decode cX10_print 120 = .ok (.getfield 90, 3) := by decide +kernel
theorem dX10_print_123 : decode cX10_print 123 = .ok (.getfield 94, 3) := by decide +kernel
theorem dX10_print_126 : decode cX10_print 126 = .ok (.invokevirtual 197, 3) := by decide +kernel
theorem dX10_print_129 : decode cX10_print 129 = .ok (.ireturn, 1) := by decide +kernel
theorem dX10_suspects_0 : decode cX10_suspects 0 = .ok (.aload_n 0, 1) := by decide +kernel
theorem dX10_suspects_1 : decode cX10_suspects 1 = .ok (.iload_n 1, 1) := by decide +kernel
theorem dX10_suspects_2 : decode cX10_suspects 2 = .ok (.invokevirtual 113, 3) := by decide +kernel
theorem dX10_suspects_5 : decode cX10_suspects 5 = .ok (.astore_n 2, 1) := by decide +kernel
theorem dX10_suspects_6 : decode cX10_suspects 6 = .ok (.aload_n 2, 1) := by decide +kernel
theorem dX10_suspects_7 : decode cX10_suspects 7 = .ok (.ifnonnull 9, 3) := by decide +kernel
theorem dX10_suspects_10 : decode cX10_suspects 10 = .ok (.aload_n 0, 1) := by decide +kernel
theorem dX10_suspects_11 : decode cX10_suspects 11 = .ok (.iconst 1, 1) := by decide +kernel
theorem dX10_suspects_12 : decode cX10_suspects 12 = .ok (.invokevirtual 143, 3) := by decide +kernel
theorem dX10_suspects_15 : decode cX10_suspects 15 = .ok (.ireturn, 1) := by decide +kernel
theorem dX10_suspects_16 : decode cX10_suspects 16 = .ok (.aload_n 2, 1) := by decide +kernel
theorem dX10_suspects_17 : decode cX10_suspects 17 = .ok (.invokevirtual 133, 3) := by decide +kernel
theorem dX10_suspects_20 : decode cX10_suspects 20 = .ok (.ifCond .eq 9, 3) := by decide +kernel
theorem dX10_suspects_23 : decode cX10_suspects 23 = .ok (.aload_n 0, 1) := by decide +kernel
theorem dX10_suspects_24 : decode cX10_suspects 24 = .ok (.iconst 2, 1) := by decide +kernel
theorem dX10_suspects_25 : decode cX10_suspects 25 = .ok (.invokevirtual 143, 3) := by decide +kernel
theorem dX10_suspects_28 : decode cX10_suspects 28 = .ok (.ireturn, 1) := by decide +kernel
theorem dX10_suspects_29 : decode cX10_suspects 29 = .ok (.aload_n 2, 1) := by decide +kernel
theorem dX10_suspects_30 : decode cX10_suspects 30 = .ok (.iconst 0, 1) := by decide +kernel
theorem dX10_suspects_31 : decode cX10_suspects 31 = .ok (.aload_n 0, 1) := by decide +kernel
theorem dX10_suspects_32 : decode cX10_suspects 32 = .ok (.getfield 12, 3) := by decide +kernel
theorem dX10_suspects_35 : decode cX10_suspects 35 = .ok (.getfield 90, 3) := by decide +kernel
theorem dX10_suspects_38 : decode cX10_suspects 38 = .ok (.getfield 94, 3) := by decide +kernel
theorem dX10_suspects_41 : decode cX10_suspects 41 = .ok (.invokevirtual 154, 3) := by decide +kernel
theorem dX10_suspects_44 : decode cX10_suspects 44 = .ok (.ifCond .ne 9, 3) := by decide +kernel
theorem dX10_suspects_47 : decode cX10_suspects 47 = .ok (.aload_n 0, 1) := by decide +kernel
theorem dX10_suspects_48 : decode cX10_suspects 48 = .ok (.iconst 3, 1) := by decide +kernel
theorem dX10_suspects_49 : decode cX10_suspects 49 = .ok (.invokevirtual 143, 3) := by decide +kernel
theorem dX10_suspects_52 : decode cX10_suspects 52 = .ok (.ireturn, 1) := by decide +kernel
theorem dX10_suspects_53 : decode cX10_suspects 53 = .ok (.aload_n 0, 1) := by decide +kernel
theorem dX10_suspects_54 : decode cX10_suspects 54 = .ok (.getfield 29, 3) := by decide +kernel
theorem dX10_suspects_57 : decode cX10_suspects 57 = .ok (.aload_n 0, 1) := by decide +kernel
theorem dX10_suspects_58 : decode cX10_suspects 58 = .ok (.getfield 12, 3) := by decide +kernel
theorem dX10_suspects_61 : decode cX10_suspects 61 = .ok (.invokevirtual 444, 3) := by decide +kernel
theorem dX10_suspects_64 : decode cX10_suspects 64 = .ok (.iconst 0, 1) := by decide +kernel
theorem dX10_suspects_65 : decode cX10_suspects 65 = .ok (.istore_n 3, 1) := by decide +kernel
theorem dX10_suspects_66 : decode cX10_suspects 66 = .ok (.iconst 0, 1) := by decide +kernel
theorem dX10_suspects_67 : decode cX10_suspects 67 = .ok (.istore 4, 2) := by decide +kernel
theorem dX10_suspects_69 : decode cX10_suspects 69 = .ok (.iload 4, 2) := by decide +kernel
theorem dX10_suspects_71 : decode cX10_suspects 71 = .ok (.aload_n 0, 1) := by decide +kernel
theorem dX10_suspects_72 : decode cX10_suspects 72 = .ok (.getfield 12, 3) := by decide +kernel
theorem dX10_suspects_75 : decode cX10_suspects 75 = .ok (.getfield 99, 3) := by decide +kernel
theorem dX10_suspects_78 : decode cX10_suspects 78 = .ok (.getfield 103, 3) := by decide +kernel
theorem dX10_suspects_81 : decode cX10_suspects 81 = .ok (.if_icmp .ge 58, 3) := by decide +kernel
theorem dX10_suspects_84 : decode cX10_suspects 84 = .ok (.aload_n 0, 1) := by decide +kernel
theorem dX10_suspects_85 : decode cX10_suspects 85 = .ok (.getfield 12, 3) := by decide +kernel
theorem dX10_suspects_88 : decode cX10_suspects 88 = .ok (.getfield 99, 3) := by decide +kernel
theorem dX10_suspects_91 : decode cX10_suspects 91 = .ok (.iload 4, 2) := by decide +kernel
theorem dX10_suspects_93 : decode cX10_suspects 93 = .ok (.invokevirtual 350, 3) := by decide +kernel
theorem dX10_suspects_96 : decode cX10_suspects 96 = .ok (.ifCond .ne 37, 3) := by decide +kernel
theorem dX10_suspects_99 : decode cX10_suspects 99 = .ok (.aload_n 2, 1) := by decide +kernel
theorem dX10_suspects_100 : decode cX10_suspects 100 = .ok (.aload_n 0, 1) := by decide +kernel
theorem dX10_suspects_101 : decode cX10_suspects 101 = .ok (.getfield 29, 3) := by decide +kernel
theorem dX10_suspects_104 : decode cX10_suspects 104 = .ok (.getfield 447, 3) := by decide +kernel
theorem dX10_suspects_107 : decode cX10_suspects 107 = .ok (.iload 4, 2) := by decide +kernel
theorem dX10_suspects_109 : decode cX10_suspects 109 = .ok (.aaload, 1) := by decide +kernel
theorem dX10_suspects_110 : decode cX10_suspects 110 = .ok (.aload_n 0, 1) := by decide +kernel
theorem dX10_suspects_111 : decode cX10_suspects 111 = .ok (.getfield 12, 3) := by decide +kernel
theorem dX10_suspects_114 : decode cX10_suspects 114 = .ok (.getfield 90, 3) := by decide +kernel
theorem dX10_suspects_117 : decode cX10_suspects 117 = .ok (.getfield 94, 3) := by decide +kernel
theorem dX10_suspects_120 : decode cX10_suspects 120 = .ok (.invokevirtual 451, 3) := by decide +kernel
theorem dX10_suspects_123 : decode cX10_suspects 123 = .ok (.ifCond .eq 10, 3) := by decide +kernel
theorem dX10_suspects_126 : decode cX10_suspects 126 = .ok (.iload_n 3, 1) := by decide +kernel
theorem dX10_suspects_127 : decode cX10_suspects 127 = .ok (.iconst 1, 1) := by decide +kernel
theorem dX10_suspects_128 : decode cX10_suspects 128 = .ok (.iload 4, 2) := by decide +kernel
theorem dX10_suspects_130 : decode cX10_suspects 130 = .ok (.ishl, 1) := by decide +kernel
theorem dX10_suspects_131 : decode cX10_suspects 131 = .ok (.ior, 1) := by decide +kernel
theorem dX10_suspects_132 : decode cX10_suspects 132 = .ok (.istore_n 3, 1) := by decide +kernel
theorem dX10_suspects_133 : decode cX10_suspects 133 = .ok (.iinc 4 1, 3) := by decide +kernel
theorem dX10_suspects_136 : decode cX10_suspects 136 = .ok (.goto (-67), 3) := by decide +kernel
theorem dX10_suspects_139 : decode cX10_suspects 139 = .ok (.aload_n 0, 1) := by decide +kernel
theorem dX10_suspects_140 : decode cX10_suspects 140 = .ok (.iload_n 3, 1) := by decide +kernel
theorem dX10_suspects_141 : decode cX10_suspects 141 = .ok (.invokevirtual 197, 3) := by decide +kernel
theorem dX10_suspects_144 : decode cX10_suspects 144 = .ok (.ireturn, 1) := by decide +kernel
theorem dX10_telling_0 : decode cX10_telling 0 = .ok (.aload_n 0, 1) := by decide +kernel
theorem dX10_telling_1 : decode cX10_telling 1 = .ok (.getfield 29, 3) := by decide +kernel
theorem dX10_telling_4 : decode cX10_telling 4 = .ok (.aload_n 0, 1) := by decide +kernel
theorem dX10_telling_5 : decode cX10_telling 5 = .ok (.getfield 12, 3) := by decide +kernel
theorem dX10_telling_8 : decode cX10_telling 8 = .ok (.invokevirtual 444, 3) := by decide +kernel
theorem dX10_telling_11 : decode cX10_telling 11 = .ok (.iconst (-1), 1) := by decide +kernel
theorem dX10_telling_12 : decode cX10_telling 12 = .ok (.istore_n 1, 1) := by decide +kernel
theorem dX10_telling_13 : decode cX10_telling 13 = .ok (.iconst (-1), 1) := by decide +kernel
theorem dX10_telling_14 : decode cX10_telling 14 = .ok (.istore_n 2, 1) := by decide +kernel
theorem dX10_telling_15 : decode cX10_telling 15 = .ok (.iconst 0, 1) := by decide +kernel
theorem dX10_telling_16 : decode cX10_telling 16 = .ok (.istore_n 3, 1) := by decide +kernel
theorem dX10_telling_17 : decode cX10_telling 17 = .ok (.iload_n 3, 1) := by decide +kernel
theorem dX10_telling_18 : decode cX10_telling 18 = .ok (.aload_n 0, 1) := by decide +kernel
theorem dX10_telling_19 : decode cX10_telling 19 = .ok (.getfield 12, 3) := by decide +kernel
theorem dX10_telling_22 : decode cX10_telling 22 = .ok (.getfield 90, 3) := by decide +kernel
theorem dX10_telling_25 : decode cX10_telling 25 = .ok (.getfield 94, 3) := by decide +kernel
theorem dX10_telling_28 : decode cX10_telling 28 = .ok (.if_icmp .ge 37, 3) := by decide +kernel
theorem dX10_telling_31 : decode cX10_telling 31 = .ok (.aload_n 0, 1) := by decide +kernel
theorem dX10_telling_32 : decode cX10_telling 32 = .ok (.getfield 29, 3) := by decide +kernel
theorem dX10_telling_35 : decode cX10_telling 35 = .ok (.aload_n 0, 1) := by decide +kernel
theorem dX10_telling_36 : decode cX10_telling 36 = .ok (.getfield 12, 3) := by decide +kernel
theorem dX10_telling_39 : decode cX10_telling 39 = .ok (.getfield 99, 3) := by decide +kernel
theorem dX10_telling_42 : decode cX10_telling 42 = .ok (.iload_n 3, 1) := by decide +kernel
theorem dX10_telling_43 : decode cX10_telling 43 = .ok (.invokevirtual 455, 3) := by decide +kernel
theorem dX10_telling_46 : decode cX10_telling 46 = .ok (.istore 4, 2) := by decide +kernel
theorem dX10_telling_48 : decode cX10_telling 48 = .ok (.iload 4, 2) := by decide +kernel
theorem dX10_telling_50 : decode cX10_telling 50 = .ok (.iload_n 2, 1) := by decide +kernel
theorem dX10_telling_51 : decode cX10_telling 51 = .ok (.if_icmp .le 8, 3) := by decide +kernel
theorem dX10_telling_54 : decode cX10_telling 54 = .ok (.iload 4, 2) := by decide +kernel
theorem dX10_telling_56 : decode cX10_telling 56 = .ok (.istore_n 2, 1) := by decide +kernel
theorem dX10_telling_57 : decode cX10_telling 57 = .ok (.iload_n 3, 1) := by decide +kernel
theorem dX10_telling_58 : decode cX10_telling 58 = .ok (.istore_n 1, 1) := by decide +kernel
theorem dX10_telling_59 : decode cX10_telling 59 = .ok (.iinc 3 1, 3) := by decide +kernel
theorem dX10_telling_62 : decode cX10_telling 62 = .ok (.goto (-45), 3) := by decide +kernel
theorem dX10_telling_65 : decode cX10_telling 65 = .ok (.iload_n 1, 1) := by decide +kernel
theorem dX10_telling_66 : decode cX10_telling 66 = .ok (.iconst (-1), 1) := by decide +kernel
theorem dX10_telling_67 : decode cX10_telling 67 = .ok (.if_icmp .ne 12, 3) := by decide +kernel
theorem dX10_telling_70 : decode cX10_telling 70 = .ok (.aload_n 0, 1) := by decide +kernel
theorem dX10_telling_71 : decode cX10_telling 71 = .ok (.bipush 6, 2) := by decide +kernel
theorem dX10_telling_73 : decode cX10_telling 73 = .ok (.invokevirtual 143, 3) := by decide +kernel
theorem dX10_telling_76 : decode cX10_telling 76 = .ok (.goto 8, 3) := by decide +kernel
theorem dX10_telling_79 : decode cX10_telling 79 = .ok (.aload_n 0, 1) := by decide +kernel
theorem dX10_telling_80 : decode cX10_telling 80 = .ok (.iload_n 1, 1) := by decide +kernel
theorem dX10_telling_81 : decode cX10_telling 81 = .ok (.invokevirtual 197, 3) := by decide +kernel
theorem dX10_telling_84 : decode cX10_telling 84 = .ok (.ireturn, 1) := by decide +kernel
theorem dX10_prints_0 : decode cX10_prints 0 = .ok (.aload_n 0, 1) := by decide +kernel
theorem dX10_prints_1 : decode cX10_prints 1 = .ok (.iload_n 1, 1) := by decide +kernel
theorem dX10_prints_2 : decode cX10_prints 2 = .ok (.invokevirtual 243, 3) := by decide +kernel
theorem dX10_prints_5 : decode cX10_prints 5 = .ok (.ifCond .ne 9, 3) := by decide +kernel
theorem dX10_prints_8 : decode cX10_prints 8 = .ok (.aload_n 0, 1) := by decide +kernel
theorem dX10_prints_9 : decode cX10_prints 9 = .ok (.iconst 1, 1) := by decide +kernel
theorem dX10_prints_10 : decode cX10_prints 10 = .ok (.invokevirtual 143, 3) := by decide +kernel
theorem dX10_prints_13 : decode cX10_prints 13 = .ok (.ireturn, 1) := by decide +kernel
theorem dX10_prints_14 : decode cX10_prints 14 = .ok (.aload_n 0, 1) := by decide +kernel
theorem dX10_prints_15 : decode cX10_prints 15 = .ok (.getfield 29, 3) := by decide +kernel
theorem dX10_prints_18 : decode cX10_prints 18 = .ok (.aload_n 0, 1) := by decide +kernel
theorem dX10_prints_19 : decode cX10_prints 19 = .ok (.getfield 12, 3) := by decide +kernel
theorem dX10_prints_22 : decode cX10_prints 22 = .ok (.invokevirtual 444, 3) := by decide +kernel
theorem dX10_prints_25 : decode cX10_prints 25 = .ok (.aload_n 0, 1) := by decide +kernel
theorem dX10_prints_26 : decode cX10_prints 26 = .ok (.aload_n 0, 1) := by decide +kernel
theorem dX10_prints_27 : decode cX10_prints 27 = .ok (.getfield 29, 3) := by decide +kernel
theorem dX10_prints_30 : decode cX10_prints 30 = .ok (.aload_n 0, 1) := by decide +kernel
theorem dX10_prints_31 : decode cX10_prints 31 = .ok (.getfield 12, 3) := by decide +kernel
theorem dX10_prints_34 : decode cX10_prints 34 = .ok (.getfield 99, 3) := by decide +kernel
theorem dX10_prints_37 : decode cX10_prints 37 = .ok (.iload_n 1, 1) := by decide +kernel
theorem dX10_prints_38 : decode cX10_prints 38 = .ok (.invokevirtual 455, 3) := by decide +kernel
theorem dX10_prints_41 : decode cX10_prints 41 = .ok (.invokevirtual 197, 3) := by decide +kernel
theorem dX10_prints_44 : decode cX10_prints 44 = .ok (.ireturn, 1) := by decide +kernel
theorem dX10_live_0 : decode cX10_live 0 = .ok (.iload_n 1, 1) := by decide +kernel
theorem dX10_live_1 : decode cX10_live 1 = .ok (.iconst 0, 1) := by decide +kernel
theorem dX10_live_2 : decode cX10_live 2 = .ok (.sipush 9999, 3) := by decide +kernel
theorem dX10_live_5 : decode cX10_live 5 = .ok (.invokestatic 117, 3) := by decide +kernel
theorem dX10_live_8 : decode cX10_live 8 = .ok (.ifCond .ne 9, 3) := by decide +kernel
theorem dX10_live_11 : decode cX10_live 11 = .ok (.aload_n 0, 1) := by decide +kernel
theorem dX10_live_12 : decode cX10_live 12 = .ok (.iconst 1, 1) := by decide +kernel
theorem dX10_live_13 : decode cX10_live 13 = .ok (.invokevirtual 143, 3) := by decide +kernel
theorem dX10_live_16 : decode cX10_live 16 = .ok (.ireturn, 1) := by decide +kernel
theorem dX10_live_17 : decode cX10_live 17 = .ok (.aload_n 0, 1) := by decide +kernel
theorem dX10_live_18 : decode cX10_live 18 = .ok (.getfield 19, 3) := by decide +kernel
theorem dX10_live_21 : decode cX10_live 21 = .ok (.getfield 458, 3) := by decide +kernel
theorem dX10_live_24 : decode cX10_live 24 = .ok (.ifCond .ne 10, 3) := by decide +kernel
theorem dX10_live_27 : decode cX10_live 27 = .ok (.aload_n 0, 1) := by decide +kernel
theorem dX10_live_28 : decode cX10_live 28 = .ok (.bipush 6, 2) := by decide +kernel
theorem dX10_live_30 : decode cX10_live 30 = .ok (.invokevirtual 143, 3) := by decide +kernel
theorem dX10_live_33 : decode cX10_live 33 = .ok (.ireturn, 1) := by decide +kernel
theorem dX10_live_34 : decode cX10_live 34 = .ok (.aload_n 0, 1) := by decide +kernel
theorem dX10_live_35 : decode cX10_live 35 = .ok (.getfield 50, 3) := by decide +kernel
theorem dX10_live_38 : decode cX10_live 38 = .ok (.aload_n 0, 1) := by decide +kernel
theorem dX10_live_39 : decode cX10_live 39 = .ok (.getfield 19, 3) := by decide +kernel
theorem dX10_live_42 : decode cX10_live 42 = .ok (.aload_n 0, 1) := by decide +kernel
theorem dX10_live_43 : decode cX10_live 43 = .ok (.getfield 12, 3) := by decide +kernel
theorem dX10_live_46 : decode cX10_live 46 = .ok (.iload_n 1, 1) := by decide +kernel
theorem dX10_live_47 : decode cX10_live 47 = .ok (.invokevirtual 462, 3) := by decide +kernel
theorem dX10_live_50 : decode cX10_live 50 = .ok (.aload_n 0, 1) := by decide +kernel
theorem dX10_live_51 : decode cX10_live 51 = .ok (.aload_n 0, 1) := by decide +kernel
theorem dX10_live_52 : decode cX10_live 52 = .ok (.getfield 50, 3) := by decide +kernel
theorem dX10_live_55 : decode cX10_live 55 = .ok (.getfield 466, 3) := by decide +kernel
theorem dX10_live_58 : decode cX10_live 58 = .ok (.invokevirtual 197, 3) := by decide +kernel
theorem dX10_live_61 : decode cX10_live 61 = .ok (.ireturn, 1) := by decide +kernel
theorem dX10_lived_0 : decode cX10_lived 0 = .ok (.iload_n 1, 1) := by decide +kernel
theorem dX10_lived_1 : decode cX10_lived 1 = .ok (.iconst 0, 1) := by decide +kernel
theorem dX10_lived_2 : decode cX10_lived 2 = .ok (.iconst 4, 1) := by decide +kernel
theorem dX10_lived_3 : decode cX10_lived 3 = .ok (.invokestatic 117, 3) := by decide +kernel
theorem dX10_lived_6 : decode cX10_lived 6 = .ok (.ifCond .ne 9, 3) := by decide +kernel
theorem dX10_lived_9 : decode cX10_lived 9 = .ok (.aload_n 0, 1) := by decide +kernel
theorem dX10_lived_10 : decode cX10_lived 10 = .ok (.iconst 1, 1) := by decide +kernel
theorem dX10_lived_11 : decode cX10_lived 11 = .ok (.invokevirtual 143, 3) := by decide +kernel
theorem dX10_lived_14 : decode cX10_lived 14 = .ok (.ireturn, 1) := by decide +kernel
theorem dX10_lived_15 : decode cX10_lived 15 = .ok (.aload_n 0, 1) := by decide +kernel
theorem dX10_lived_16 : decode cX10_lived 16 = .ok (.getfield 50, 3) := by decide +kernel
theorem dX10_lived_19 : decode cX10_lived 19 = .ok (.getfield 467, 3) := by decide +kernel
theorem dX10_lived_22 : decode cX10_lived 22 = .ok (.ifCond .ne 10, 3) := by decide +kernel
theorem dX10_lived_25 : decode cX10_lived 25 = .ok (.aload_n 0, 1) := by decide +kernel
theorem dX10_lived_26 : decode cX10_lived 26 = .ok (.bipush 6, 2) := by decide +kernel
theorem dX10_lived_28 : decode cX10_lived 28 = .ok (.invokevirtual 143, 3) := by decide +kernel
theorem dX10_lived_31 : decode cX10_lived 31 = .ok (.ireturn, 1) := by decide +kernel
theorem dX10_lived_32 : decode cX10_lived 32 = .ok (.iload_n 1, 1) := by decide +kernel
theorem dX10_lived_33 : decode cX10_lived 33 = .ok (.tableswitch 79 0 3 #[31, 43, 55, 67], 31) := by decide +kernel
theorem dX10_lived_64 : decode cX10_lived 64 = .ok (.aload_n 0, 1) := by decide +kernel
theorem dX10_lived_65 : decode cX10_lived 65 = .ok (.aload_n 0, 1) := by decide +kernel
theorem dX10_lived_66 : decode cX10_lived 66 = .ok (.getfield 50, 3) := by decide +kernel
theorem dX10_lived_69 : decode cX10_lived 69 = .ok (.getfield 469, 3) := by decide +kernel
theorem dX10_lived_72 : decode cX10_lived 72 = .ok (.invokevirtual 197, 3) := by decide +kernel
theorem dX10_lived_75 : decode cX10_lived 75 = .ok (.ireturn, 1) := by decide +kernel
theorem dX10_lived_76 : decode cX10_lived 76 = .ok (.aload_n 0, 1) := by decide +kernel
theorem dX10_lived_77 : decode cX10_lived 77 = .ok (.aload_n 0, 1) := by decide +kernel
theorem dX10_lived_78 : decode cX10_lived 78 = .ok (.getfield 50, 3) := by decide +kernel
theorem dX10_lived_81 : decode cX10_lived 81 = .ok (.getfield 472, 3) := by decide +kernel
theorem dX10_lived_84 : decode cX10_lived 84 = .ok (.invokevirtual 197, 3) := by decide +kernel
theorem dX10_lived_87 : decode cX10_lived 87 = .ok (.ireturn, 1) := by decide +kernel
theorem dX10_lived_88 : decode cX10_lived 88 = .ok (.aload_n 0, 1) := by decide +kernel
theorem dX10_lived_89 : decode cX10_lived 89 = .ok (.aload_n 0, 1) := by decide +kernel
theorem dX10_lived_90 : decode cX10_lived 90 = .ok (.getfield 50, 3) := by decide +kernel
theorem dX10_lived_93 : decode cX10_lived 93 = .ok (.getfield 475, 3) := by decide +kernel
theorem dX10_lived_96 : decode cX10_lived 96 = .ok (.invokevirtual 197, 3) := by decide +kernel
theorem dX10_lived_99 : decode cX10_lived 99 = .ok (.ireturn, 1) := by decide +kernel
theorem dX10_lived_100 : decode cX10_lived 100 = .ok (.aload_n 0, 1) := by decide +kernel
theorem dX10_lived_101 : decode cX10_lived 101 = .ok (.aload_n 0, 1) := by decide +kernel
theorem dX10_lived_102 : decode cX10_lived 102 = .ok (.getfield 50, 3) := by decide +kernel
theorem dX10_lived_105 : decode cX10_lived 105 = .ok (.getfield 478, 3) := by decide +kernel
theorem dX10_lived_108 : decode cX10_lived 108 = .ok (.invokevirtual 197, 3) := by decide +kernel
theorem dX10_lived_111 : decode cX10_lived 111 = .ok (.ireturn, 1) := by decide +kernel
theorem dX10_lived_112 : decode cX10_lived 112 = .ok (.aload_n 0, 1) := by decide +kernel
theorem dX10_lived_113 : decode cX10_lived 113 = .ok (.aload_n 0, 1) := by decide +kernel
theorem dX10_lived_114 : decode cX10_lived 114 = .ok (.getfield 50, 3) := by decide +kernel
theorem dX10_lived_117 : decode cX10_lived 117 = .ok (.getfield 479, 3) := by decide +kernel
theorem dX10_lived_120 : decode cX10_lived 120 = .ok (.invokevirtual 197, 3) := by decide +kernel
theorem dX10_lived_123 : decode cX10_lived 123 = .ok (.ireturn, 1) := by decide +kernel
theorem dX10_mean_0 : decode cX10_mean 0 = .ok (.iload_n 1, 1) := by decide +kernel
theorem dX10_mean_1 : decode cX10_mean 1 = .ok (.iconst 0, 1) := by decide +kernel
theorem dX10_mean_2 : decode cX10_mean 2 = .ok (.sipush 9999, 3) := by decide +kernel
theorem dX10_mean_5 : decode cX10_mean 5 = .ok (.invokestatic 117, 3) := by decide +kernel
theorem dX10_mean_8 : decode cX10_mean 8 = .ok (.ifCond .eq 24, 3) := by decide +kernel
theorem dX10_mean_11 : decode cX10_mean 11 = .ok (.iload_n 2, 1) := by decide +kernel
theorem dX10_mean_12 : decode cX10_mean 12 = .ok (.iconst 1, 1) := by decide +kernel
theorem dX10_mean_13 : decode cX10_mean 13 = .ok (.bipush 20, 2) := by decide +kernel
theorem dX10_mean_15 : decode cX10_mean 15 = .ok (.invokestatic 117, 3) := by decide +kernel
theorem dX10_mean_18 : decode cX10_mean 18 = .ok (.ifCond .eq 14, 3) := by decide +kernel
theorem dX10_mean_21 : decode cX10_mean 21 = .ok (.iload_n 1, 1) := by decide +kernel
theorem dX10_mean_22 : decode cX10_mean 22 = .ok (.iload_n 2, 1) := by decide +kernel
theorem dX10_mean_23 : decode cX10_mean 23 = .ok (.iadd, 1) := by decide +kernel
theorem dX10_mean_24 : decode cX10_mean 24 = .ok (.iconst 1, 1) := by decide +kernel
theorem dX10_mean_25 : decode cX10_mean 25 = .ok (.isub, 1) := by decide +kernel
theorem dX10_mean_26 : decode cX10_mean 26 = .ok (.sipush 9999, 3) := by decide +kernel
theorem dX10_mean_29 : decode cX10_mean 29 = .ok (.if_icmp .le 9, 3) := by decide +kernel
theorem dX10_mean_32 : decode cX10_mean 32 = .ok (.aload_n 0, 1) := by decide +kernel
theorem dX10_mean_33 : decode cX10_mean 33 = .ok (.iconst 1, 1) := by decide +kernel
theorem dX10_mean_34 : decode cX10_mean 34 = .ok (.invokevirtual 121, 3) := by decide +kernel
theorem dX10_mean_37 : decode cX10_mean 37 = .ok (.ireturn, 1) := by decide +kernel
theorem dX10_mean_38 : decode cX10_mean 38 = .ok (.aload_n 0, 1) := by decide +kernel
theorem dX10_mean_39 : decode cX10_mean 39 = .ok (.getfield 19, 3) := by decide +kernel
theorem dX10_mean_42 : decode cX10_mean 42 = .ok (.getfield 458, 3) := by decide +kernel
theorem dX10_mean_45 : decode cX10_mean 45 = .ok (.ifCond .ne 10, 3) := by decide +kernel
theorem dX10_mean_48 : decode cX10_mean 48 = .ok (.aload_n 0, 1) := by decide +kernel
theorem dX10_mean_49 : decode cX10_mean 49 = .ok (.bipush 6, 2) := by decide +kernel
theorem dX10_mean_51 : decode cX10_mean 51 = .ok (.invokevirtual 121, 3) := by decide +kernel
theorem dX10_mean_54 : decode cX10_mean 54 = .ok (.ireturn, 1) := by decide +kernel
theorem dX10_mean_55 : decode cX10_mean 55 = .ok (.lconst 0, 1) := by decide +kernel
theorem dX10_mean_56 : decode cX10_mean 56 = .ok (.lstore_n 3, 1) := by decide +kernel
theorem dX10_mean_57 : decode cX10_mean 57 = .ok (.iconst 0, 1) := by decide +kernel
theorem dX10_mean_58 : decode cX10_mean 58 = .ok (.istore 5, 2) := by decide +kernel
theorem dX10_mean_60 : decode cX10_mean 60 = .ok (.iload 5, 2) := by decide +kernel
theorem dX10_mean_62 : decode cX10_mean 62 = .ok (.iload_n 2, 1) := by decide +kernel
theorem dX10_mean_63 : decode cX10_mean 63 = .ok (.if_icmp .ge 44, 3) := by decide +kernel
theorem dX10_mean_66 : decode cX10_mean 66 = .ok (.aload_n 0, 1) := by decide +kernel
theorem dX10_mean_67 : decode cX10_mean 67 = .ok (.invokevirtual 367, 3) := by decide +kernel
theorem dX10_mean_70 : decode cX10_mean 70 = .ok (.astore 6, 2) := by decide +kernel
theorem dX10_mean_72 : decode cX10_mean 72 = .ok (.aload_n 0, 1) := by decide +kernel
theorem dX10_mean_73 : decode cX10_mean 73 = .ok (.getfield 54, 3) := by decide +kernel
theorem dX10_mean_76 : decode cX10_mean 76 = .ok (.aload_n 0, 1) := by decide +kernel
theorem dX10_mean_77 : decode cX10_mean 77 = .ok (.getfield 19, 3) := by decide +kernel
theorem dX10_mean_80 : decode cX10_mean 80 = .ok (.aload 6, 2) := by decide +kernel
theorem dX10_mean_82 : decode cX10_mean 82 = .ok (.iload_n 1, 1) := by decide +kernel
theorem dX10_mean_83 : decode cX10_mean 83 = .ok (.iload 5, 2) := by decide +kernel
theorem dX10_mean_85 : decode cX10_mean 85 = .ok (.iadd, 1) := by decide +kernel
theorem dX10_mean_86 : decode cX10_mean 86 = .ok (.invokevirtual 462, 3) := by decide +kernel
theorem dX10_mean_89 : decode cX10_mean 89 = .ok (.lload_n 3, 1) := by decide +kernel
theorem dX10_mean_90 : decode cX10_mean 90 = .ok (.aload 6, 2) := by decide +kernel
theorem dX10_mean_92 : decode cX10_mean 92 = .ok (.getfield 90, 3) := by decide +kernel
theorem dX10_mean_95 : decode cX10_mean 95 = .ok (.invokevirtual 224, 3) := by decide +kernel
theorem dX10_mean_98 : decode cX10_mean 98 = .ok (.i2l, 1) := by decide +kernel
theorem dX10_mean_99 : decode cX10_mean 99 = .ok (.ladd, 1) := by decide +kernel
theorem dX10_mean_100 : decode cX10_mean 100 = .ok (.lstore_n 3, 1) := by decide +kernel
theorem dX10_mean_101 : decode cX10_mean 101 = .ok (.iinc 5 1, 3) := by decide +kernel
theorem dX10_mean_104 : decode cX10_mean 104 = .ok (.goto (-44), 3) := by decide +kernel
theorem dX10_mean_107 : decode cX10_mean 107 = .ok (.aload_n 0, 1) := by decide +kernel
theorem dX10_mean_108 : decode cX10_mean 108 = .ok (.lload_n 3, 1) := by decide +kernel
theorem dX10_mean_109 : decode cX10_mean 109 = .ok (.iload_n 2, 1) := by decide +kernel
theorem dX10_mean_110 : decode cX10_mean 110 = .ok (.i2l, 1) := by decide +kernel
theorem dX10_mean_111 : decode cX10_mean 111 = .ok (.invokevirtual 440, 3) := by decide +kernel
theorem dX10_mean_114 : decode cX10_mean 114 = .ok (.aload_n 0, 1) := by decide +kernel
theorem dX10_mean_115 : decode cX10_mean 115 = .ok (.invokevirtual 129, 3) := by decide +kernel
theorem dX10_mean_118 : decode cX10_mean 118 = .ok (.ireturn, 1) := by decide +kernel
theorem dX10_mark_0 : decode cX10_mark 0 = .ok (.aload_n 0, 1) := by decide +kernel
theorem dX10_mark_1 : decode cX10_mark 1 = .ok (.getfield 482, 3) := by decide +kernel
theorem dX10_mark_4 : decode cX10_mark 4 = .ok (.iconst 3, 1) := by decide +kernel
theorem dX10_mark_5 : decode cX10_mark 5 = .ok (.if_icmp .lt 9, 3) := by decide +kernel
theorem dX10_mark_8 : decode cX10_mark 8 = .ok (.aload_n 0, 1) := by decide +kernel
theorem dX10_mark_9 : decode cX10_mark 9 = .ok (.iconst 4, 1) := by decide +kernel
theorem dX10_mark_10 : decode cX10_mark 10 = .ok (.invokevirtual 143, 3) := by decide +kernel
theorem dX10_mark_13 : decode cX10_mark 13 = .ok (.ireturn, 1) := by decide +kernel
theorem dX10_mark_14 : decode cX10_mark 14 = .ok (.aload_n 0, 1) := by decide +kernel
theorem dX10_mark_15 : decode cX10_mark 15 = .ok (.getfield 57, 3) := by decide +kernel
theorem dX10_mark_18 : decode cX10_mark 18 = .ok (.aload_n 0, 1) := by decide +kernel
theorem dX10_mark_19 : decode cX10_mark 19 = .ok (.getfield 482, 3) := by decide +kernel
theorem dX10_mark_22 : decode cX10_mark 22 = .ok (.aaload, 1) := by decide +kernel
theorem dX10_mark_23 : decode cX10_mark 23 = .ok (.aload_n 0, 1) := by decide +kernel
theorem dX10_mark_24 : decode cX10_mark 24 = .ok (.getfield 12, 3) := by decide +kernel
theorem dX10_mark_27 : decode cX10_mark 27 = .ok (.invokevirtual 190, 3) := by decide +kernel
theorem dX10_mark_30 : decode cX10_mark 30 = .ok (.aload_n 0, 1) := by decide +kernel
theorem dX10_mark_31 : decode cX10_mark 31 = .ok (.getfield 61, 3) := by decide +kernel
theorem dX10_mark_34 : decode cX10_mark 34 = .ok (.aload_n 0, 1) := by decide +kernel
theorem dX10_mark_35 : decode cX10_mark 35 = .ok (.getfield 482, 3) := by decide +kernel
theorem dX10_mark_38 : decode cX10_mark 38 = .ok (.aaload, 1) := by decide +kernel
theorem dX10_mark_39 : decode cX10_mark 39 = .ok (.aload_n 0, 1) := by decide +kernel
theorem dX10_mark_40 : decode cX10_mark 40 = .ok (.getfield 19, 3) := by decide +kernel
theorem dX10_mark_43 : decode cX10_mark 43 = .ok (.invokevirtual 206, 3) := by decide +kernel
theorem dX10_mark_46 : decode cX10_mark 46 = .ok (.aload_n 0, 1) := by decide +kernel
theorem dX10_mark_47 : decode cX10_mark 47 = .ok (.dup, 1) := by decide +kernel
theorem dX10_mark_48 : decode cX10_mark 48 = .ok (.getfield 482, 3) := by decide +kernel
theorem dX10_mark_51 : decode cX10_mark 51 = .ok (.iconst 1, 1) := by decide +kernel
theorem dX10_mark_52 : decode cX10_mark 52 = .ok (.iadd, 1) := by decide +kernel
theorem dX10_mark_53 : decode cX10_mark 53 = .ok (.putfield 482, 3) := by decide +kernel
theorem dX10_mark_56 : decode cX10_mark 56 = .ok (.aload_n 0, 1) := by decide +kernel
theorem dX10_mark_57 : decode cX10_mark 57 = .ok (.aload_n 0, 1) := by decide +kernel
theorem dX10_mark_58 : decode cX10_mark 58 = .ok (.getfield 482, 3) := by decide +kernel
theorem dX10_mark_61 : decode cX10_mark 61 = .ok (.invokevirtual 197, 3) := by decide +kernel
theorem dX10_mark_64 : decode cX10_mark 64 = .ok (.ireturn, 1) := by decide +kernel
theorem dX10_undo_0 : decode cX10_undo 0 = .ok (.aload_n 0, 1) := by decide +kernel
theorem dX10_undo_1 : decode cX10_undo 1 = .ok (.getfield 482, 3) := by decide +kernel
theorem dX10_undo_4 : decode cX10_undo 4 = .ok (.ifCond .gt 10, 3) := by decide +kernel
theorem dX10_undo_7 : decode cX10_undo 7 = .ok (.aload_n 0, 1) := by decide +kernel
theorem dX10_undo_8 : decode cX10_undo 8 = .ok (.bipush 6, 2) := by decide +kernel
theorem dX10_undo_10 : decode cX10_undo 10 = .ok (.invokevirtual 143, 3) := by decide +kernel
theorem dX10_undo_13 : decode cX10_undo 13 = .ok (.ireturn, 1) := by decide +kernel
theorem dX10_undo_14 : decode cX10_undo 14 = .ok (.aload_n 0, 1) := by decide +kernel
theorem dX10_undo_15 : decode cX10_undo 15 = .ok (.dup, 1) := by decide +kernel
theorem dX10_undo_16 : decode cX10_undo 16 = .ok (.getfield 482, 3) := by decide +kernel
theorem dX10_undo_19 : decode cX10_undo 19 = .ok (.iconst 1, 1) := by decide +kernel
theorem dX10_undo_20 : decode cX10_undo 20 = .ok (.isub, 1) := by decide +kernel
theorem dX10_undo_21 : decode cX10_undo 21 = .ok (.putfield 482, 3) := by decide +kernel
theorem dX10_undo_24 : decode cX10_undo 24 = .ok (.aload_n 0, 1) := by decide +kernel
theorem dX10_undo_25 : decode cX10_undo 25 = .ok (.getfield 12, 3) := by decide +kernel
theorem dX10_undo_28 : decode cX10_undo 28 = .ok (.aload_n 0, 1) := by decide +kernel
theorem dX10_undo_29 : decode cX10_undo 29 = .ok (.getfield 57, 3) := by decide +kernel
theorem dX10_undo_32 : decode cX10_undo 32 = .ok (.aload_n 0, 1) := by decide +kernel
theorem dX10_undo_33 : decode cX10_undo 33 = .ok (.getfield 482, 3) := by decide +kernel
theorem dX10_undo_36 : decode cX10_undo 36 = .ok (.aaload, 1) := by decide +kernel
theorem dX10_undo_37 : decode cX10_undo 37 = .ok (.invokevirtual 190, 3) := by decide +kernel
theorem dX10_undo_40 : decode cX10_undo 40 = .ok (.aload_n 0, 1) := by decide +kernel
theorem dX10_undo_41 : decode cX10_undo 41 = .ok (.getfield 19, 3) := by decide +kernel
theorem dX10_undo_44 : decode cX10_undo 44 = .ok (.aload_n 0, 1) := by decide +kernel
theorem dX10_undo_45 : decode cX10_undo 45 = .ok (.getfield 61, 3) := by decide +kernel
theorem dX10_undo_48 : decode cX10_undo 48 = .ok (.aload_n 0, 1) := by decide +kernel
theorem dX10_undo_49 : decode cX10_undo 49 = .ok (.getfield 482, 3) := by decide +kernel
theorem dX10_undo_52 : decode cX10_undo 52 = .ok (.aaload, 1) := by decide +kernel
theorem dX10_undo_53 : decode cX10_undo 53 = .ok (.invokevirtual 206, 3) := by decide +kernel
theorem dX10_undo_56 : decode cX10_undo 56 = .ok (.aload_n 0, 1) := by decide +kernel
theorem dX10_undo_57 : decode cX10_undo 57 = .ok (.aload_n 0, 1) := by decide +kernel
theorem dX10_undo_58 : decode cX10_undo 58 = .ok (.getfield 482, 3) := by decide +kernel
theorem dX10_undo_61 : decode cX10_undo 61 = .ok (.invokevirtual 197, 3) := by decide +kernel
theorem dX10_undo_64 : decode cX10_undo 64 = .ok (.ireturn, 1) := by decide +kernel
theorem dX10_indexIn_0 : decode cX10_indexIn 0 = .ok (.iconst 0, 1) := by decide +kernel
theorem dX10_indexIn_1 : decode cX10_indexIn 1 = .ok (.istore 4, 2) := by decide +kernel
theorem dX10_indexIn_3 : decode cX10_indexIn 3 = .ok (.iload 4, 2) := by decide +kernel
theorem dX10_indexIn_5 : decode cX10_indexIn 5 = .ok (.iload_n 1, 1) := by decide +kernel
theorem dX10_indexIn_6 : decode cX10_indexIn 6 = .ok (.if_icmp .ge 28, 3) := by decide +kernel
theorem dX10_indexIn_9 : decode cX10_indexIn 9 = .ok (.iload 4, 2) := by decide +kernel
theorem dX10_indexIn_11 : decode cX10_indexIn 11 = .ok (.aload_n 0, 1) := by decide +kernel
theorem dX10_indexIn_12 : decode cX10_indexIn 12 = .ok (.arraylength, 1) := by decide +kernel
theorem dX10_indexIn_13 : decode cX10_indexIn 13 = .ok (.if_icmp .ge 21, 3) := by decide +kernel
theorem dX10_indexIn_16 : decode cX10_indexIn 16 = .ok (.aload_n 0, 1) := by decide +kernel
theorem dX10_indexIn_17 : decode cX10_indexIn 17 = .ok (.iload 4, 2) := by decide +kernel
theorem dX10_indexIn_19 : decode cX10_indexIn 19 = .ok (.laload, 1) := by decide +kernel
theorem dX10_indexIn_20 : decode cX10_indexIn 20 = .ok (.lload_n 2, 1) := by decide +kernel
theorem dX10_indexIn_21 : decode cX10_indexIn 21 = .ok (.lcmp, 1) := by decide +kernel
theorem dX10_indexIn_22 : decode cX10_indexIn 22 = .ok (.ifCond .ne 6, 3) := by decide +kernel
theorem dX10_indexIn_25 : decode cX10_indexIn 25 = .ok (.iload 4, 2) := by decide +kernel
theorem dX10_indexIn_27 : decode cX10_indexIn 27 = .ok (.ireturn, 1) := by decide +kernel
theorem dX10_indexIn_28 : decode cX10_indexIn 28 = .ok (.iinc 4 1, 3) := by decide +kernel
theorem dX10_indexIn_31 : decode cX10_indexIn 31 = .ok (.goto (-28), 3) := by decide +kernel
theorem dX10_indexIn_34 : decode cX10_indexIn 34 = .ok (.iconst (-1), 1) := by decide +kernel
theorem dX10_indexIn_35 : decode cX10_indexIn 35 = .ok (.ireturn, 1) := by decide +kernel
